section
theorem pk_us {f : Nat → Int32} {k : Nat} {x : Int32} : upd f k x k = x := if_pos rfl
theorem pk_un {f : Nat → Int32} {k j : Nat} {x : Int32} (h : j ≠ k) : upd f k x j = f j := if_neg h
theorem pk_sub {a b : Nat} (h : b ≤ a) : nI a - nI b = nI (a - b) := by
  obtain ⟨c, rfl⟩ : ∃ c, a = c + b := ⟨a - b, by omega⟩
  rw [← nI_add, Int32.add_sub_cancel, Nat.add_sub_cancel]
theorem pk_m1 (n : Nat) : nI (n + 1) + (-1) = nI n := by
  rw [← nI_1, Int32.add_assoc, show (1 : Int32) + (-1) = 0 from rfl, Int32.add_zero]
theorem pk_mul (a b : Nat) : nI a * nI b = nI (a * b) := (Int32.ofNat_mul a b).symm
theorem pk_div {a d : Nat} (ha : a < 2 ^ 31) (h0 : 0 < d) (hd : d < 2 ^ 31) : nI a / nI d = nI (a / d) := by
  apply Int32.toInt_inj.mp
  rw [lg_idiv_nonneg (by rw [nI_toInt ha]; omega) (by rw [nI_toInt hd]; omega), nI_toInt ha, nI_toInt hd, nI_toInt (Nat.lt_of_le_of_lt (Nat.div_le_self a d) ha)]
  first | rfl | exact (Int.natCast_ediv _ _).symm
theorem pk_rem {a d : Nat} (ha : a < 2 ^ 31) (h0 : 0 < d) (hd : d < 2 ^ 31) : nI a - nI a / nI d * nI d = nI (a % d) := by
  rw [pk_div ha h0 hd, pk_mul, pk_sub (Nat.div_mul_le_self a d)]
  exact congrArg nI (by have := Nat.div_add_mod' a d; omega)
theorem pk_ix (x : Int32) {n : Nat} (hn : n < 2 ^ 31) : x < 0 ∨ nI n ≤ x ∨ ∃ j : Nat, j < n ∧ x = nI j := by
  by_cases h : x < 0
  · exact Or.inl h
  · obtain ⟨j, hj, rfl⟩ := nI_of h
    by_cases h2 : j < n
    · exact Or.inr (Or.inr ⟨j, h2, rfl⟩)
    · exact Or.inr (Or.inl (nI_le (by omega) hj))
/-- how many of the first i satisfy f -/
def es_cnt (f : Nat → Bool) : Nat → Nat
  | 0 => 0
  | i + 1 => es_cnt f i + (f i).toNat
/-- node n is an up member in group q -/
def es_in (p m g : Nat → Int32) (q : Int32) (n : Nat) : Bool := decide (¬ p n = 0 ∧ ¬ m n = 0 ∧ g n = q)
/-- node n is a member -/
def es_me (m : Nat → Int32) (n : Nat) : Bool := decide (¬ m n = 0)
/-- group q is a quorum -/
def es_Q (p m g : Nat → Int32) (q : Int32) : Bool := decide (es_cnt (es_me m) 5 < 2 * es_cnt (es_in p m g q) 5)
/-- the group of the quorum, -1 if there is none -/
def es_qg (p m g : Nat → Int32) : Int32 := if es_Q p m g 0 then 0 else if es_Q p m g 1 then 1 else if es_Q p m g 2 then 2 else -1
/-- the currents after a step whose quorum is f -/
def es_mk (f : Nat → Bool) (c : Nat → Int32) : Nat → Nat → Int32
  | 0 => c
  | i + 1 => if f i then es_mk f c i else upd (es_mk f c i) i 0
/-- the currents after the end of a settling -/
def es_rc (f : Nat → Bool) (c : Nat → Int32) : Nat → Nat → Int32
  | 0 => c
  | i + 1 => if f i then upd (es_rc f c i) i 1 else es_rc f c i
def es_cp (st : Nat → Int32) (k : Nat) (cx : Nat → Int32) : Nat → Nat → Int32
  | 0 => cx
  | i + 1 => upd (es_cp st k cx i) (k * 14 + i) (st i)
def es_rf (st : Nat → Int32) (f : Nat → Bool) (cx : Nat → Int32) : Nat → Nat → Int32
  | 0 => cx
  | i + 1 => if f i then es_cp st i (es_rf st f cx i) 14 else es_rf st f cx i
def es_cq (k : Nat) (cy : Nat → Int32) : Nat → Nat → Int32
  | 0 => cy
  | i + 1 => upd (es_cq k cy i) (14 * k + i) (es_cq k cy i (70 + i))
def es_rg (f : Nat → Bool) (cy : Nat → Int32) : Nat → Nat → Int32
  | 0 => cy
  | i + 1 => if f i then es_cq i (es_rg f cy i) 14 else es_rg f cy i
/-- the least of the last k nodes that satisfies h, -1 if none does -/
def es_fr (h : Nat → Bool) : Nat → Int32
  | 0 => -1
  | k + 1 => if h (4 - k) then nI (4 - k) else es_fr h k
/-- what a key's value x becomes by kind kd -/
def es_r (kd : Nat) (x a b : Int32) : Int32 := if kd = 0 then a else if kd = 1 then x + a else if x = a then b else x
def es_dx (st : Nat → Int32) (k : Nat) (num a b : Int32) : Nat → Int32 :=
  upd (upd (upd st (k % 6) (es_r (k / 24) (st (k % 6)) a b)) (6 + k / 6 % 4) num) (10 + k / 6 % 4) (st (k % 6))
def es_dy (cy : Nat → Int32) (k : Nat) (num a b : Int32) : Nat → Int32 :=
  upd (upd (upd cy (70 + k % 6) (es_r (k / 24) (cy (70 + k % 6)) a b)) (76 + k / 6 % 4) num) (80 + k / 6 % 4) (cy (70 + k % 6))
/-- the reference's copies hold the component's copies and behind them its state -/
def es_C (st cx cy : Nat → Int32) : Prop := (∀ j, j < 70 → cy j = cx j) ∧ ∀ j, j < 14 → cy (70 + j) = st j
/-- the holder is in quorum q and the others are not more than half -/
def es_nd (p m g : Nat → Int32) (q : Int32) (h : Nat) : Bool := es_in p m g q h && !decide (es_cnt (es_me m) 5 < 2 * (es_cnt (es_in p m g q) 5 - 1))
/-- the current members are more than half of the members -/
def es_J (m c : Nat → Int32) : Prop := es_cnt (es_me m) 5 < 2 * es_cnt (fun n => es_me m n && decide (¬ c n = 0)) 5
/-- a node or nobody -/
def es_W (l : Int32) : Prop := l = -1 ∨ ∃ n, n < 5 ∧ l = nI n
def es_I (ld hx : Int32) (p m c g : Nat → Int32) : Prop :=
  es_W ld ∧ (¬ es_qg p m g = -1 → (∃ n, n < 5 ∧ ld = nI n ∧ es_in p m g (es_qg p m g) n = true) ∧ ∀ n, n < 5 → es_in p m g (es_qg p m g) n = true → ¬ c n = 0) ∧ es_J m c ∧ (¬ ld = -1 → hx = -1) ∧ ∀ n, n < 5 → m n = 0 ∨ m n = 1
def es_P (hx pc pn pa pb ip hy yc yn ya yb : Int32) : Prop :=
  (hx = -1 ∧ ip = 0) ∨ ∃ h k, h < 5 ∧ k < 72 ∧ hx = nI h ∧ pc = nI k ∧ ip = 1 ∧ hy = nI h ∧ yc = nI k ∧ yn = pn ∧ ya = pa ∧ yb = pb
theorem es_n1 {n : Nat} (h : n < 5) : ¬ nI n = -1 := by
  intro e
  have := congrArg Int32.toInt e
  rw [nI_toInt (by omega), show ((-1 : Int32)).toInt = -1 from by decide] at this
  omega
theorem es_in_iff {p m g : Nat → Int32} {q : Int32} {n : Nat} : es_in p m g q n = true ↔ ¬ p n = 0 ∧ ¬ m n = 0 ∧ g n = q := decide_eq_true_iff
theorem es_me_iff {m : Nat → Int32} {n : Nat} : es_me m n = true ↔ ¬ m n = 0 := decide_eq_true_iff
theorem es_Q_iff {p m g : Nat → Int32} {q : Int32} : es_Q p m g q = true ↔ es_cnt (es_me m) 5 < 2 * es_cnt (es_in p m g q) 5 := decide_eq_true_iff
theorem es_in_me {p m g : Nat → Int32} {q : Int32} {n : Nat} (h : es_in p m g q n = true) : es_me m n = true := es_me_iff.mpr (es_in_iff.mp h).2.1
theorem es_cnt_le (f : Nat → Bool) : ∀ i, es_cnt f i ≤ i
  | 0 => Nat.le_refl 0
  | i + 1 => by
    have := es_cnt_le f i
    have h2 : (f i).toNat ≤ 1 := Bool.toNat_le _
    simp only [es_cnt]; omega
theorem es_cnt_pos {f : Nat → Bool} : ∀ i, 0 < es_cnt f i → ∃ j, j < i ∧ f j = true
  | 0, h => absurd h (Nat.lt_irrefl 0)
  | i + 1, h => by
    cases e : f i with
    | true => exact ⟨i, by omega, e⟩
    | false =>
      simp only [es_cnt, e, Bool.toNat_false, Nat.add_zero] at h
      obtain ⟨j, hj, h⟩ := es_cnt_pos i h
      exact ⟨j, by omega, h⟩
theorem es_cnt_mono {f h : Nat → Bool} : ∀ i, (∀ j, j < i → f j = true → h j = true) → es_cnt f i ≤ es_cnt h i
  | 0, _ => Nat.le_refl 0
  | i + 1, H => by
    have a := es_cnt_mono i (fun j hj => H j (by omega))
    have b := H i (by omega)
    simp only [es_cnt]
    cases e : f i with
    | true => rw [b e]; omega
    | false => simp only [Bool.toNat_false]; omega
/-- two majorities of m meet -/
theorem es_apart {f h m : Nat → Bool} : ∀ i, (∀ j, j < i → f j = true → m j = true) → (∀ j, j < i → h j = true → m j = true) → (∀ j, j < i → f j = true → h j = true → False) → es_cnt f i + es_cnt h i ≤ es_cnt m i
  | 0, _, _, _ => Nat.le_refl 0
  | i + 1, F, H, D => by
    have a := es_apart i (fun j hj => F j (by omega)) (fun j hj => H j (by omega)) (fun j hj => D j (by omega))
    have F := F i (by omega)
    have H := H i (by omega)
    have D := D i (by omega)
    simp only [es_cnt]
    cases e : f i with
    | true =>
      cases e2 : h i with
      | true => exact absurd (D e e2) id
      | false => rw [F e]; simp only [Bool.toNat_false]; omega
    | false =>
      cases e2 : h i with
      | true => rw [H e2]; simp only [Bool.toNat_false]; omega
      | false => simp only [Bool.toNat_false]; omega
theorem es_meet {f h m : Nat → Bool} (F : ∀ j, j < 5 → f j = true → m j = true) (H : ∀ j, j < 5 → h j = true → m j = true) (a : es_cnt m 5 < 2 * es_cnt f 5) (b : es_cnt m 5 < 2 * es_cnt h 5) : ∃ j, j < 5 ∧ f j = true ∧ h j = true := by
  apply Classical.byContradiction
  intro z
  have := es_apart 5 F H (fun j hj x y => z ⟨j, hj, x, y⟩)
  omega
/-- one less -/
theorem es_less (f : Nat → Bool) (h : Nat) : ∀ i, es_cnt f i ≤ es_cnt (fun j => f j && !decide (j = h)) i + (if h < i then 1 else 0)
  | 0 => Nat.zero_le _
  | i + 1 => by
    have a := es_less f h i
    simp only [es_cnt]
    by_cases e : i = h
    · subst e
      have h2 : (f i).toNat ≤ 1 := Bool.toNat_le _
      rw [if_neg (Nat.lt_irrefl i)] at a
      rw [if_pos (Nat.lt_succ_self i)]
      omega
    · have e2 : decide (i = h) = false := decide_eq_false e
      rw [e2, Bool.not_false, Bool.and_true]
      by_cases e3 : h < i
      · rw [if_pos e3] at a; rw [if_pos (by omega)]; omega
      · rw [if_neg e3] at a; rw [if_neg (by omega)]; omega
theorem es_uniq {p m g : Nat → Int32} {q r : Int32} (a : es_Q p m g q = true) (b : es_Q p m g r = true) : q = r := by
  obtain ⟨j, _, h1, h2⟩ := es_meet (fun j _ h => es_in_me h) (fun j _ h => es_in_me h) (es_Q_iff.mp a) (es_Q_iff.mp b)
  exact (es_in_iff.mp h1).2.2.symm.trans (es_in_iff.mp h2).2.2
/-- the group that is found is a quorum and one of three -/
theorem es_qg_Q {p m g : Nat → Int32} (h : ¬ es_qg p m g = -1) : es_Q p m g (es_qg p m g) = true ∧ ∃ k, k < 3 ∧ es_qg p m g = nI k := by
  unfold es_qg at h ⊢
  by_cases h0 : es_Q p m g 0 = true
  · rw [if_pos h0]; exact ⟨h0, 0, by omega, rfl⟩
  · rw [if_neg h0] at h ⊢
    by_cases h1 : es_Q p m g 1 = true
    · rw [if_pos h1]; exact ⟨h1, 1, by omega, rfl⟩
    · rw [if_neg h1] at h ⊢
      by_cases h2 : es_Q p m g 2 = true
      · rw [if_pos h2]; exact ⟨h2, 2, by omega, rfl⟩
      · rw [if_neg h2] at h; exact absurd rfl h
theorem es_qg_of {p m g : Nat → Int32} {k : Nat} (hk : k < 3) (h : es_Q p m g (nI k) = true) : es_qg p m g = nI k := by
  apply Classical.byContradiction
  intro z
  by_cases y : es_qg p m g = -1
  · unfold es_qg at y
    by_cases h0 : es_Q p m g 0 = true
    · rw [if_pos h0] at y; exact absurd y (by decide)
    · rw [if_neg h0] at y
      by_cases h1 : es_Q p m g 1 = true
      · rw [if_pos h1] at y; exact absurd y (by decide)
      · rw [if_neg h1] at y
        by_cases h2 : es_Q p m g 2 = true
        · rw [if_pos h2] at y; exact absurd y (by decide)
        · rcases (by omega : k = 0 ∨ k = 1 ∨ k = 2) with rfl | rfl | rfl
          · exact h0 h
          · exact h1 h
          · exact h2 h
  · exact z (es_uniq (es_qg_Q y).1 h)
theorem es_mk_at (f : Nat → Bool) (c : Nat → Int32) (j : Nat) : ∀ k, es_mk f c k j = if j < k ∧ f j = false then 0 else c j
  | 0 => by rw [if_neg (by omega)]; rfl
  | k + 1 => by
    have ih := es_mk_at f c j k
    simp only [es_mk]
    cases e : f k with
    | true =>
      rw [if_pos rfl, ih]
      by_cases e2 : j = k
      · subst e2; rw [if_neg (by omega), if_neg (by rw [e]; simp)]
      · by_cases e3 : j < k ∧ f j = false
        · rw [if_pos e3, if_pos ⟨by omega, e3.2⟩]
        · rw [if_neg e3, if_neg (fun z => e3 ⟨by omega, z.2⟩)]
    | false =>
      rw [if_neg (by decide)]
      by_cases e2 : j = k
      · subst e2; rw [pk_us, if_pos ⟨by omega, e⟩]
      · rw [pk_un e2, ih]
        by_cases e3 : j < k ∧ f j = false
        · rw [if_pos e3, if_pos ⟨by omega, e3.2⟩]
        · rw [if_neg e3, if_neg (fun z => e3 ⟨by omega, z.2⟩)]
theorem es_rc_at (f : Nat → Bool) (c : Nat → Int32) (j : Nat) : ∀ k, es_rc f c k j = if j < k ∧ f j = true then 1 else c j
  | 0 => by rw [if_neg (by omega)]; rfl
  | k + 1 => by
    have ih := es_rc_at f c j k
    simp only [es_rc]
    cases e : f k with
    | false =>
      rw [if_neg (by decide), ih]
      by_cases e2 : j = k
      · subst e2; rw [if_neg (by omega), if_neg (by rw [e]; simp)]
      · by_cases e3 : j < k ∧ f j = true
        · rw [if_pos e3, if_pos ⟨by omega, e3.2⟩]
        · rw [if_neg e3, if_neg (fun z => e3 ⟨by omega, z.2⟩)]
    | true =>
      rw [if_pos rfl]
      by_cases e2 : j = k
      · subst e2; rw [pk_us, if_pos ⟨by omega, e⟩]
      · rw [pk_un e2, ih]
        by_cases e3 : j < k ∧ f j = true
        · rw [if_pos e3, if_pos ⟨by omega, e3.2⟩]
        · rw [if_neg e3, if_neg (fun z => e3 ⟨by omega, z.2⟩)]
theorem es_mk2 (f : Nat → Bool) (c : Nat → Int32) : es_mk f (es_mk f c 5) 5 = es_mk f c 5 := by
  funext j
  rw [es_mk_at, es_mk_at]
  by_cases e : j < 5 ∧ f j = false
  · rw [if_pos e, if_pos e]
  · rw [if_neg e]
theorem es_C_cp {st cx cy : Nat → Int32} {k : Nat} (hk : k < 5) (h : es_C st cx cy) : ∀ i, i ≤ 14 → es_C st (es_cp st k cx i) (es_cq k cy i)
  | 0, _ => h
  | i + 1, hi => by
    have ih := es_C_cp hk h i (by omega)
    have e : 14 * k + i = k * 14 + i := by omega
    refine ⟨fun j hj => ?_, fun j hj => ?_⟩
    · simp only [es_cp, es_cq]
      rw [e, ih.2 i (by omega)]
      by_cases z : j = k * 14 + i
      · subst z; rw [pk_us, pk_us]
      · rw [pk_un z, pk_un z]; exact ih.1 j hj
    · simp only [es_cq]
      rw [pk_un (by omega)]; exact ih.2 j hj
theorem es_C_rf {st cx cy : Nat → Int32} {f : Nat → Bool} (h : es_C st cx cy) : ∀ i, i ≤ 5 → es_C st (es_rf st f cx i) (es_rg f cy i)
  | 0, _ => h
  | i + 1, hi => by
    have ih := es_C_rf (f := f) h i (by omega)
    simp only [es_rf, es_rg]
    cases e : f i with
    | true => rw [if_pos rfl, if_pos rfl]; exact es_C_cp (by omega) ih 14 (by omega)
    | false => rw [if_neg (by decide), if_neg (by decide)]; exact ih
theorem es_C_d {st cx cy : Nat → Int32} (h : es_C st cx cy) (k : Nat) (num a b : Int32) : es_C (es_dx st k num a b) cx (es_dy cy k num a b) := by
  have hk : k % 6 < 6 := Nat.mod_lt _ (by omega)
  have hs : k / 6 % 4 < 4 := Nat.mod_lt _ (by omega)
  unfold es_dx es_dy
  rw [h.2 (k % 6) (by omega)]
  generalize st (k % 6) = x
  generalize es_r (k / 24) x a b = r
  generalize k % 6 = e at hk
  generalize k / 6 % 4 = s at hs
  refine ⟨fun j hj => ?_, fun j hj => ?_⟩
  · rw [pk_un (by omega), pk_un (by omega), pk_un (by omega)]; exact h.1 j hj
  · by_cases h1 : j = 10 + s
    · subst h1; rw [show 70 + (10 + s) = 80 + s from by omega, pk_us, pk_us]
    · rw [pk_un (by omega), pk_un h1]
      by_cases h2 : j = 6 + s
      · subst h2; rw [show 70 + (6 + s) = 76 + s from by omega, pk_us, pk_us]
      · rw [pk_un (by omega), pk_un h2]
        by_cases h3 : j = e
        · subst h3; rw [pk_us, pk_us]
        · rw [pk_un (by omega), pk_un h3]; exact h.2 j hj
theorem es_fr_some {h : Nat → Bool} : ∀ k, k ≤ 5 → (∃ n, 5 - k ≤ n ∧ n < 5 ∧ h n = true) → ∃ n, n < 5 ∧ h n = true ∧ es_fr h k = nI n
  | 0, _, ⟨n, a, b, _⟩ => absurd b (by omega)
  | k + 1, hk, ⟨n, a, b, e⟩ => by
    simp only [es_fr]
    by_cases z : h (4 - k) = true
    · rw [if_pos z]; exact ⟨4 - k, by omega, z, rfl⟩
    · rw [if_neg z]
      refine es_fr_some k (by omega) ⟨n, ?_, b, e⟩
      by_cases y : n = 4 - k
      · subst y; exact absurd e z
      · omega
end
section
theorem es_b0 : vp_nar .boolean 0 = 0 := rfl
theorem es_b1 : vp_nar .boolean 1 = 1 := rfl
theorem es_ct {f : Nat → Bool} {i : Nat} (h : f i = true) : nI (es_cnt f i) + 1 = nI (es_cnt f (i + 1)) := by
  rw [nI_1]; simp only [es_cnt, h]; rfl
theorem es_cf {f : Nat → Bool} {i : Nat} (h : f i = false) : nI (es_cnt f i) = nI (es_cnt f (i + 1)) := by
  simp only [es_cnt, h]; rfl
theorem es_2 (a : Nat) : (2 : Int32) * nI a = nI (2 * a) := pk_mul 2 a
theorem es_14 (k i : Nat) : nI k * 14 + nI i = nI (k * 14 + i) := by rw [show (14 : Int32) = nI 14 from rfl, pk_mul, nI_add]
theorem es_41 (k i : Nat) : 14 * nI k + nI i = nI (14 * k + i) := by rw [show (14 : Int32) = nI 14 from rfl, pk_mul, nI_add]
theorem es_cd {k : Nat} (h : k < 72) : nI k / 24 = nI (k / 24) ∧ nI k - nI k / 6 * 6 = nI (k % 6) ∧ (nI k / 6) - (nI k / 6) / 4 * 4 = nI (k / 6 % 4) := by
  refine ⟨pk_div (d := 24) (by omega) (by omega) (by omega), pk_rem (d := 6) (by omega) (by omega) (by omega), ?_⟩
  rw [show nI k / 6 = nI (k / 6) from pk_div (d := 6) (by omega) (by omega) (by omega)]
  exact pk_rem (d := 4) (by omega) (by omega) (by omega)
theorem es_upd_self (f : Nat → Int32) (k : Nat) : upd f k (f k) = f := by
  funext j
  by_cases h : j = k
  · subst h; exact pk_us
  · exact pk_un h
section
variable {ld hx pc pn pa pb : Int32} {p m c g st cx : Nat → Int32}
theorem xa_in {post : Int32 → Prop} {q : Int32} {n : Nat} (hn : n < 5) (h1 : es_in p m g q n = true → post 1) (h0 : es_in p m g q n = false → post 0) : wpX_isUpMemberIn post (ld, hx, pc, pn, pa, pb, p, m, c, g, st, cx) (nI n) q := by
  have e : (nI n).toNatClampNeg = n := nI_clamp (by omega)
  have v : vp_in (nI n) 5 := vp_in_nI hn (by omega)
  refine br_f (nI_pos (by omega)) (br_f (nI_ge (b := 5) hn (by omega)) ⟨v, br_c (fun a => h0 ?_) (fun a => ⟨v, br_c (fun b => h0 ?_) (fun b => ⟨v, br_c (fun d => h1 ?_) (fun d => h0 ?_)⟩)⟩)⟩)
  · rw [e] at a; exact decide_eq_false (fun z => z.1 a)
  · rw [e] at b; exact decide_eq_false (fun z => z.2.1 b)
  · rw [e] at a b d; exact decide_eq_true ⟨a, b, d⟩
  · rw [e] at d; exact decide_eq_false (fun z => d z.2.2)
theorem xa_in0 {post : Int32 → Prop} {q : Int32} (h : post 0) : wpX_isUpMemberIn post (ld, hx, pc, pn, pa, pb, p, m, c, g, st, cx) (-1) q := br_t (by decide) h
/-- a node or nobody, not in q -/
theorem xa_out {post : Int32 → Prop} {q l : Int32} (w : es_W l) (o : ∀ n, n < 5 → l = nI n → es_in p m g q n = false) (h : post 0) : wpX_isUpMemberIn post (ld, hx, pc, pn, pa, pb, p, m, c, g, st, cx) l q := by
  rcases w with rfl | ⟨n, hn, rfl⟩
  · exact xa_in0 h
  · exact xa_in hn (fun z => absurd z (by rw [o n hn rfl]; decide)) (fun _ => h)
theorem xa_umc {post : Int32 → Prop} {q : Int32} (h : post (nI (es_cnt (es_in p m g q) 5))) : wpX_upMemberCount post (ld, hx, pc, pn, pa, pb, p, m, c, g, st, cx) q := by
  refine loop_0 (fun n i (s : Int32) => wX_upMemberCount_4 post q ld hx pc pn pa pb p m c g st cx n s (nI i)) (fun i s => s = nI (es_cnt (es_in p m g q) i)) 5 0 rfl ?_ ?_
  · intro n s hs; subst hs; exact br_t (nI_le (Nat.le_refl 5) (by omega)) h
  · intro n i s hi hs ih
    subst hs
    exact br_f (nI_ge (b := 5) hi (by omega)) (xa_in hi (fun a => br_f (by decide) (nm_e (nm_r (nI_1 i) (ih _ (es_ct a))))) (fun a => br_t rfl (nm_r (nI_1 i) (ih _ (es_cf a)))))
theorem xa_mc {post : Int32 → Prop} (h : post (nI (es_cnt (es_me m) 5))) : wpX_memberCount post (ld, hx, pc, pn, pa, pb, p, m, c, g, st, cx) := by
  refine loop_0 (fun n i (s : Int32) => wX_memberCount_4 post ld hx pc pn pa pb p m c g st cx n s (nI i)) (fun i s => s = nI (es_cnt (es_me m) i)) 5 0 rfl ?_ ?_
  · intro n s hs; subst hs; exact br_t (nI_le (Nat.le_refl 5) (by omega)) h
  · intro n i s hi hs ih
    subst hs
    have e : (nI i).toNatClampNeg = i := nI_clamp (by omega)
    refine br_f (nI_ge (b := 5) hi (by omega)) ⟨vp_in_nI hi (by omega), br_c (fun a => nm_r (nI_1 i) (ih _ (es_cf ?_))) (fun a => nm_e (nm_r (nI_1 i) (ih _ (es_ct ?_))))⟩
    · rw [e] at a; exact decide_eq_false (fun z => z a)
    · rw [e] at a; exact decide_eq_true a
theorem xa_isQ {post : Int32 → Prop} {q : Int32} (h1 : es_Q p m g q = true → post 1) (h0 : es_Q p m g q = false → post 0) : wpX_isQuorum post (ld, hx, pc, pn, pa, pb, p, m, c, g, st, cx) q := by
  unfold wpX_isQuorum
  have l1 := es_cnt_le (es_in p m g q) 5
  have l2 := es_cnt_le (es_me m) 5
  refine xa_umc (xa_mc ?_)
  refine br_c (fun a => h0 ?_) (fun a => h1 ?_)
  · rw [es_2, nI_leI (by omega) (by omega)] at a; exact decide_eq_false (by omega)
  · rw [es_2, nI_leI (by omega) (by omega)] at a; exact decide_eq_true (by omega)
theorem xa_qg {post : Int32 → Prop} (h : post (es_qg p m g)) : wpX_quorumGroup post (ld, hx, pc, pn, pa, pb, p, m, c, g, st, cx) := by
  refine ⟨4, br_f (by decide) (xa_isQ (fun a => br_f (by decide) ?_) (fun a => br_t rfl (nm_r (e' := 1) rfl ?_)))⟩
  · unfold es_qg at h; rw [if_pos a] at h; exact h
  · refine br_f (by decide) (xa_isQ (fun b => br_f (by decide) ?_) (fun b => br_t rfl (nm_r (e' := 2) rfl ?_)))
    · unfold es_qg at h; rw [a, if_neg (by decide), if_pos b] at h; exact h
    · refine br_f (by decide) (xa_isQ (fun d => br_f (by decide) ?_) (fun d => br_t rfl (nm_r (e' := 3) rfl ?_)))
      · unfold es_qg at h; rw [a, if_neg (by decide), b, if_neg (by decide), if_pos d] at h; exact h
      · refine br_t (by decide) ?_
        unfold es_qg at h; rw [a, if_neg (by decide), b, if_neg (by decide), d, if_neg (by decide)] at h; exact h
theorem xa_ls {post : Int32 → Prop} {q hb : Int32} {h : Nat → Bool} (H : ∀ n, n < 5 → (h n = true ↔ es_in p m g q n = true ∧ ¬ c n = 0 ∧ ¬ nI n = hb)) : ∀ k, k ≤ 5 → post (es_fr h k) → wX_leastCurrent_2 post q hb ld hx pc pn pa pb p m c g st cx (k + 1) (nI (5 - k))
  | 0, _, hp => br_t (nI_le (Nat.le_refl 5) (by omega)) hp
  | k + 1, hk, hp => by
    have hi : 4 - k < 5 := by omega
    have e : (nI (4 - k)).toNatClampNeg = 4 - k := nI_clamp (by omega)
    have r : nI (4 - k) + 1 = nI (5 - k) := by rw [nI_1, show 4 - k + 1 = 5 - k from by omega]
    rw [show 5 - (k + 1) = 4 - k from by omega]
    simp only [es_fr] at hp
    by_cases z : h (4 - k) = true
    · rw [if_pos z] at hp
      obtain ⟨z1, z2, z3⟩ := (H _ hi).mp z
      refine br_f (nI_ge (b := 5) hi (by omega)) (br_f z3 ⟨vp_in_nI hi (by omega), br_f (by rw [e]; exact z2) (xa_in hi (fun _ => br_f (by decide) hp) (fun w => absurd z1 (by rw [w]; decide)))⟩)
    · rw [if_neg z] at hp
      have rr := xa_ls H k (by omega) hp
      refine br_f (nI_ge (b := 5) hi (by omega)) (br_c (fun a => nm_r r rr) (fun a => ⟨vp_in_nI hi (by omega), br_c (fun b => nm_r r rr) (fun b => xa_in hi (fun w => absurd ((H _ hi).mpr ⟨w, ?_, a⟩) z) (fun w => br_t rfl (nm_r r rr)))⟩))
      rw [e] at b; exact b
theorem xa_least {post : Int32 → Prop} {q hb : Int32} {h : Nat → Bool} (H : ∀ n, n < 5 → (h n = true ↔ es_in p m g q n = true ∧ ¬ c n = 0 ∧ ¬ nI n = hb)) (hp : post (es_fr h 5)) : wpX_leastCurrent post (ld, hx, pc, pn, pa, pb, p, m, c, g, st, cx) q hb := ⟨6, xa_ls H 5 (by omega) hp⟩
theorem xa_mark {post : SX → Prop} {q : Int32} (h : post (ld, hx, pc, pn, pa, pb, p, m, es_mk (es_in p m g q) c 5, g, st, cx)) : wpX_markStep post (ld, hx, pc, pn, pa, pb, p, m, c, g, st, cx) q := by
  refine loop_0 (fun n i (s : Nat → Int32) => wX_markStep_2 post q ld hx pc pn pa pb n (nI i) p m s g st cx) (fun i s => s = es_mk (es_in p m g q) c i) 5 c rfl ?_ ?_
  · intro n s hs; subst hs; exact br_t (nI_le (Nat.le_refl 5) (by omega)) h
  · intro n i s hi hs ih
    subst hs
    refine br_f (nI_ge (b := 5) hi (by omega)) (xa_in hi (fun a => br_f (by decide) (nm_r (nI_1 i) (ih _ ?_))) (fun a => br_t rfl ⟨vp_in_nI hi (by omega), nm_e (nm_r (nI_1 i) (ih _ ?_))⟩))
    · simp only [es_mk]; rw [if_pos a]
    · rw [nI_clamp (by omega), es_b0]; simp only [es_mk]; rw [a, if_neg (by decide)]
theorem xa_copy {post : SX → Prop} {k : Nat} (hk : k < 5) (h : post (ld, hx, pc, pn, pa, pb, p, m, c, g, st, es_cp st k cx 14)) : wpX_copyStateTo post (ld, hx, pc, pn, pa, pb, p, m, c, g, st, cx) (nI k) := by
  refine loop_0 (fun n i (s : Nat → Int32) => wX_copyStateTo_2 post (nI k) ld hx pc pn pa pb n (nI i) p m c g st s) (fun i s => s = es_cp st k cx i) 14 cx rfl ?_ ?_
  · intro n s hs; subst hs; exact br_t (nI_le (Nat.le_refl 14) (by omega)) h
  · intro n i s hi hs ih
    subst hs
    refine br_f (nI_ge (b := 14) hi (by omega)) ⟨vp_in_nI hi (by omega), ?_⟩
    rw [es_14, nI_clamp (by omega), nI_clamp (by omega)]
    exact ⟨vp_in_nI (by omega) (by omega), nm_e (nm_r (nI_1 i) (ih _ rfl))⟩
theorem xa_ref {post : SX → Prop} {q : Int32} (h : post (ld, hx, pc, pn, pa, pb, p, m, es_rc (es_in p m g q) c 5, g, st, es_rf st (es_in p m g q) cx 5)) : wpX_refreshQuorum post (ld, hx, pc, pn, pa, pb, p, m, c, g, st, cx) q := by
  refine loop_0 (fun n i (s : (Nat → Int32) × (Nat → Int32)) => wX_refreshQuorum_2 post q n (nI i) ld hx pc pn pa pb p m s.1 g st s.2) (fun i s => s = (es_rc (es_in p m g q) c i, es_rf st (es_in p m g q) cx i)) 5 (c, cx) rfl ?_ ?_
  · intro n s hs; subst hs; exact br_t (nI_le (Nat.le_refl 5) (by omega)) h
  · intro n i s hi hs ih
    subst hs
    refine br_f (nI_ge (b := 5) hi (by omega)) (xa_in hi (fun a => br_f (by decide) ⟨vp_in_nI hi (by omega), nm_e (xa_copy hi (nm_r (nI_1 i) (ih (upd (es_rc (es_in p m g q) c i) (nI i).toNatClampNeg (vp_nar .boolean 1), es_cp st i (es_rf st (es_in p m g q) cx i) 14) ?_)))⟩) (fun a => br_t rfl (nm_r (nI_1 i) (ih (_, _) ?_))))
    · rw [nI_clamp (by omega), es_b1]; simp only [es_rc, es_rf]; rw [if_pos a, if_pos a]
    · simp only [es_rc, es_rf]; rw [a, if_neg (by decide), if_neg (by decide)]
theorem es_nd_iff {q : Int32} {h : Nat} (a : es_in p m g q h = true) : es_nd p m g q h = false ↔ es_cnt (es_me m) 5 < 2 * (es_cnt (es_in p m g q) 5 - 1) := by
  unfold es_nd
  rw [a, Bool.true_and, Bool.not_eq_false', decide_eq_true_iff]
theorem es_pos {f : Nat → Bool} {h : Nat} (e : f h = true) : ∀ i, h < i → 0 < es_cnt f i
  | 0, z => absurd z (by omega)
  | i + 1, z => by
    simp only [es_cnt]
    by_cases y : h = i
    · subst y; rw [e]; exact Nat.succ_pos _
    · have := es_pos e i (by omega); omega
/-- the two counts beside each other, less one -/
theorem es_less1 {q : Int32} {h : Nat} (hh : h < 5) (a : es_in p m g q h = true) : nI (es_cnt (es_me m) 5) < 2 * (nI (es_cnt (es_in p m g q) 5) - 1) ↔ es_cnt (es_me m) 5 < 2 * (es_cnt (es_in p m g q) 5 - 1) := by
  have l1 := es_cnt_le (es_in p m g q) 5
  have l2 := es_cnt_le (es_me m) 5
  have l3 := es_pos a 5 hh
  rw [show (1 : Int32) = nI 1 from rfl, pk_sub (by omega), es_2, nI_ltI (by omega) (by omega)]
theorem xa_need {post : Int32 → Prop} {q : Int32} {h : Nat} (hh : h < 5) (h1 : es_nd p m g q h = true → post 1) (h0 : es_nd p m g q h = false → post 0) : wpX_isHolderNeeded post (ld, nI h, pc, pn, pa, pb, p, m, c, g, st, cx) q := by
  unfold wpX_isHolderNeeded
  refine xa_in hh (fun a => br_f (by decide) (xa_umc (xa_mc (br_c (fun b => h0 ?_) (fun b => h1 ?_))))) (fun a => br_t rfl (h0 ?_))
  · rw [es_less1 hh a] at b; exact (es_nd_iff a).mpr b
  · rw [es_less1 hh a, ← es_nd_iff a] at b; exact Bool.not_eq_false _ ▸ b
  · unfold es_nd; rw [a]; rfl
theorem xa_need0 {post : Int32 → Prop} {q : Int32} (h0 : post 0) : wpX_isHolderNeeded post (ld, -1, pc, pn, pa, pb, p, m, c, g, st, cx) q := by
  unfold wpX_isHolderNeeded
  exact xa_in0 (br_t rfl h0)
theorem xa_d79 {post : SX → Prop} {k : Nat} {num x : Int32} {t : Nat → Int32} (h : post (ld, hx, pc, pn, pa, pb, p, m, c, g, upd (upd t (6 + k / 6 % 4) num) (10 + k / 6 % 4) x, cx)) : wX_doCommand_79 post num (nI (k / 6 % 4)) x ld hx pc pn pa pb p m c g t cx := by
  have hs : k / 6 % 4 < 4 := Nat.mod_lt _ (by omega)
  have e1 : 6 + nI (k / 6 % 4) = nI (6 + k / 6 % 4) := nI_add 6 _
  have e2 : 10 + nI (k / 6 % 4) = nI (10 + k / 6 % 4) := nI_add 10 _
  unfold wX_doCommand_79
  rw [e1, e2, nI_clamp (by omega), nI_clamp (by omega)]
  exact ⟨vp_in_nI (by omega) (by omega), nm_e ⟨vp_in_nI (by omega) (by omega), nm_e h⟩⟩
theorem xa_do {post : SX → Prop} {k : Nat} {num a b : Int32} (hk : k < 72) (h : post (ld, hx, pc, pn, pa, pb, p, m, c, g, es_dx st k num a b, cx)) : wpX_doCommand post (ld, hx, pc, pn, pa, pb, p, m, c, g, st, cx) (nI k) num a b := by
  obtain ⟨e1, e2, e3⟩ := es_cd hk
  have h6 : k % 6 < 6 := Nat.mod_lt _ (by omega)
  have h3 : k / 24 < 3 := by omega
  have cl : (nI (k % 6)).toNatClampNeg = k % 6 := nI_clamp (by omega)
  have vi : vp_in (nI (k % 6)) 14 := vp_in_nI (by omega) (by omega)
  unfold wpX_doCommand
  refine ⟨by decide, nm_r e1 ?_⟩
  refine ⟨by decide, by decide, ?_⟩
  rw [e3]
  refine ⟨by decide, nm_r e2 ⟨vi, nm_e ?_⟩⟩
  rw [cl]
  refine br_c (fun z => ⟨vi, nm_e (xa_d79 ?_)⟩) (fun z => br_c (fun y => ⟨vi, nm_e (xa_d79 ?_)⟩) (fun y => br_c (fun w => ⟨vi, nm_e (xa_d79 ?_)⟩) (fun w => xa_d79 ?_)))
  all_goals unfold es_dx es_r at h
  · rw [show (0 : Int32) = nI 0 from rfl, nI_eq (by omega) (by omega)] at z
    rw [if_pos z] at h; exact h
  · rw [show (0 : Int32) = nI 0 from rfl, nI_eq (by omega) (by omega)] at z
    rw [show (1 : Int32) = nI 1 from rfl, nI_eq (by omega) (by omega)] at y
    rw [if_neg z, if_pos y] at h; exact h
  · rw [show (0 : Int32) = nI 0 from rfl, nI_eq (by omega) (by omega)] at z
    rw [show (1 : Int32) = nI 1 from rfl, nI_eq (by omega) (by omega)] at y
    rw [if_neg z, if_neg y, if_pos w] at h; exact h
  · rw [show (0 : Int32) = nI 0 from rfl, nI_eq (by omega) (by omega)] at z
    rw [show (1 : Int32) = nI 1 from rfl, nI_eq (by omega) (by omega)] at y
    rw [if_neg z, if_neg y, if_neg w, es_upd_self] at h; exact h
theorem xa_elN {post : SX → Prop} {q : Int32} {h k : Nat} (hh : h < 5) (hk : k < 72) (nd : es_nd p m g q h = true) (hp : post (nI h, -1, nI k, pn, pa, pb, p, m, es_mk (es_in p m g q) c 5, g, es_dx st k pn pa pb, cx)) : wpX_elect post (ld, nI h, nI k, pn, pa, pb, p, m, c, g, st, cx) q := by
  unfold wpX_elect
  refine xa_need hh (fun _ => br_f (by decide) (xa_do hk ?_)) (fun z => absurd nd (by rw [z]; decide))
  exact xa_mark hp
theorem xa_elL {post : SX → Prop} {q : Int32} {hh : Nat → Bool} (w : es_W hx) (nd : ∀ n, n < 5 → hx = nI n → es_nd p m g q n = false) (H : ∀ n, n < 5 → (hh n = true ↔ es_in p m g q n = true ∧ ¬ c n = 0 ∧ ¬ nI n = hx)) (hp : post (es_fr hh 5, -1, pc, pn, pa, pb, p, m, es_mk (es_in p m g q) c 5, g, st, cx)) : wpX_elect post (ld, hx, pc, pn, pa, pb, p, m, c, g, st, cx) q := by
  unfold wpX_elect
  rcases w with rfl | ⟨n, hn, rfl⟩
  · exact xa_need0 (br_t rfl (xa_least H (xa_mark hp)))
  · exact xa_need hn (fun z => absurd z (by rw [nd n hn rfl]; decide)) (fun _ => br_t rfl (xa_least H (xa_mark hp)))
theorem xa_s0 {post : SX → Prop} (hq : es_qg p m g = -1) (h : post (-1, hx, pc, pn, pa, pb, p, m, c, g, st, cx)) : wpX_settle post (ld, hx, pc, pn, pa, pb, p, m, c, g, st, cx) := by
  unfold wpX_settle
  exact xa_qg (br_t hq h)
theorem xa_s1 {post : SX → Prop} {q : Int32} {n : Nat} (hq : es_qg p m g = q) (h1 : ¬ q = -1) (hn : n < 5) (hi : es_in p m g q n = true) (h : post (nI n, hx, pc, pn, pa, pb, p, m, es_rc (es_in p m g q) c 5, g, st, es_rf st (es_in p m g q) cx 5)) : wpX_settle post (nI n, hx, pc, pn, pa, pb, p, m, c, g, st, cx) := by
  subst hq
  unfold wpX_settle
  exact xa_qg (br_f h1 (xa_in hn (fun _ => br_f (by decide) (xa_ref h)) (fun z => absurd hi (by rw [z]; decide))))
theorem xa_sN {post : SX → Prop} {q : Int32} {h k : Nat} (hq : es_qg p m g = q) (h1 : ¬ q = -1) (w : es_W ld) (o : ∀ n, n < 5 → ld = nI n → es_in p m g q n = false) (hh : h < 5) (hk : k < 72) (nd : es_nd p m g q h = true)
    (hp : post (nI h, -1, nI k, pn, pa, pb, p, m, es_rc (es_in p m g q) (es_mk (es_in p m g q) c 5) 5, g, es_dx st k pn pa pb, es_rf (es_dx st k pn pa pb) (es_in p m g q) cx 5)) : wpX_settle post (ld, nI h, nI k, pn, pa, pb, p, m, c, g, st, cx) := by
  subst hq
  unfold wpX_settle
  exact xa_qg (br_f h1 (xa_out w o (br_t rfl (xa_elN hh hk nd (xa_ref hp)))))
theorem xa_sL {post : SX → Prop} {q : Int32} {hh : Nat → Bool} (hq : es_qg p m g = q) (h1 : ¬ q = -1) (wl : es_W ld) (o : ∀ n, n < 5 → ld = nI n → es_in p m g q n = false) (w : es_W hx) (nd : ∀ n, n < 5 → hx = nI n → es_nd p m g q n = false) (H : ∀ n, n < 5 → (hh n = true ↔ es_in p m g q n = true ∧ ¬ c n = 0 ∧ ¬ nI n = hx))
    (hp : post (es_fr hh 5, -1, pc, pn, pa, pb, p, m, es_rc (es_in p m g q) (es_mk (es_in p m g q) c 5) 5, g, st, es_rf st (es_in p m g q) cx 5)) : wpX_settle post (ld, hx, pc, pn, pa, pb, p, m, c, g, st, cx) := by
  subst hq
  unfold wpX_settle
  exact xa_qg (br_f h1 (xa_out wl o (br_t rfl (xa_elL w nd H (xa_ref hp)))))
end
end
