section
theorem pk_us {f : Nat → Int32} {k : Nat} {x : Int32} : upd f k x k = x := if_pos rfl
theorem pk_un {f : Nat → Int32} {k j : Nat} {x : Int32} (h : j ≠ k) : upd f k x j = f j := if_neg h
theorem pk_sub {a b : Nat} (h : b ≤ a) : nI a - nI b = nI (a - b) := by
  obtain ⟨c, rfl⟩ : ∃ c, a = c + b := ⟨a - b, by omega⟩
  rw [← nI_add, Int32.add_sub_cancel, Nat.add_sub_cancel]
theorem pk_m1 (n : Nat) : nI (n + 1) + (-1) = nI n := by
  rw [← nI_1, Int32.add_assoc, show (1 : Int32) + (-1) = 0 from rfl, Int32.add_zero]
theorem pk_mul (a b : Nat) : nI a * nI b = nI (a * b) := (Int32.ofNat_mul a b).symm
theorem pk_div {a d : Nat} (ha : a < 2 ^ 31) (h0 : 0 < d) (hd : d < 2 ^ 31) : nI a / nI d = nI (a / d) := by
  apply Int32.toInt_inj.mp
  rw [lg_idiv_nonneg (by rw [nI_toInt ha]; omega) (by rw [nI_toInt hd]; omega), nI_toInt ha, nI_toInt hd, nI_toInt (Nat.lt_of_le_of_lt (Nat.div_le_self a d) ha)]
  first | rfl | exact (Int.natCast_ediv _ _).symm
theorem pk_rem {a d : Nat} (ha : a < 2 ^ 31) (h0 : 0 < d) (hd : d < 2 ^ 31) : nI a - nI a / nI d * nI d = nI (a % d) := by
  rw [pk_div ha h0 hd, pk_mul, pk_sub (Nat.div_mul_le_self a d)]
  exact congrArg nI (by have := Nat.div_add_mod' a d; omega)
theorem pk_ix (x : Int32) {n : Nat} (hn : n < 2 ^ 31) : x < 0 ∨ nI n ≤ x ∨ ∃ j : Nat, j < n ∧ x = nI j := by
  by_cases h : x < 0
  · exact Or.inl h
  · obtain ⟨j, hj, rfl⟩ := nI_of h
    by_cases h2 : j < n
    · exact Or.inr (Or.inr ⟨j, h2, rfl⟩)
    · exact Or.inr (Or.inl (nI_le (by omega) hj))
/-- how many of the first i satisfy f -/
def es_cnt (f : Nat → Bool) : Nat → Nat
  | 0 => 0
  | i + 1 => es_cnt f i + (f i).toNat
/-- node n is an up member in group q -/
def es_in (p m g : Nat → Int32) (q : Int32) (n : Nat) : Bool := decide (¬ p n = 0 ∧ ¬ m n = 0 ∧ g n = q)
/-- node n is a member -/
def es_me (m : Nat → Int32) (n : Nat) : Bool := decide (¬ m n = 0)
/-- group q is a quorum -/
def es_Q (p m g : Nat → Int32) (q : Int32) : Bool := decide (es_cnt (es_me m) 5 < 2 * es_cnt (es_in p m g q) 5)
/-- the group of the quorum, -1 if there is none -/
def es_qg (p m g : Nat → Int32) : Int32 := if es_Q p m g 0 then 0 else if es_Q p m g 1 then 1 else if es_Q p m g 2 then 2 else -1
/-- the currents after a step whose quorum is f -/
def es_mk (f : Nat → Bool) (c : Nat → Int32) : Nat → Nat → Int32
  | 0 => c
  | i + 1 => if f i then es_mk f c i else upd (es_mk f c i) i 0
/-- the currents after the end of a settling -/
def es_rc (f : Nat → Bool) (c : Nat → Int32) : Nat → Nat → Int32
  | 0 => c
  | i + 1 => if f i then upd (es_rc f c i) i 1 else es_rc f c i
def es_cp (st : Nat → Int32) (k : Nat) (cx : Nat → Int32) : Nat → Nat → Int32
  | 0 => cx
  | i + 1 => upd (es_cp st k cx i) (k * 14 + i) (st i)
def es_rf (st : Nat → Int32) (f : Nat → Bool) (cx : Nat → Int32) : Nat → Nat → Int32
  | 0 => cx
  | i + 1 => if f i then es_cp st i (es_rf st f cx i) 14 else es_rf st f cx i
def es_cq (k : Nat) (cy : Nat → Int32) : Nat → Nat → Int32
  | 0 => cy
  | i + 1 => upd (es_cq k cy i) (14 * k + i) (es_cq k cy i (70 + i))
def es_rg (f : Nat → Bool) (cy : Nat → Int32) : Nat → Nat → Int32
  | 0 => cy
  | i + 1 => if f i then es_cq i (es_rg f cy i) 14 else es_rg f cy i
/-- the least of the last k nodes that satisfies h, -1 if none does -/
def es_fr (h : Nat → Bool) : Nat → Int32
  | 0 => -1
  | k + 1 => if h (4 - k) then nI (4 - k) else es_fr h k
/-- what a key's value x becomes by kind kd -/
def es_r (kd : Nat) (x a b : Int32) : Int32 := if kd = 0 then a else if kd = 1 then x + a else if x = a then b else x
def es_dx (st : Nat → Int32) (k : Nat) (num a b : Int32) : Nat → Int32 :=
  upd (upd (upd st (k % 6) (es_r (k / 24) (st (k % 6)) a b)) (6 + k / 6 % 4) num) (10 + k / 6 % 4) (st (k % 6))
def es_dy (cy : Nat → Int32) (k : Nat) (num a b : Int32) : Nat → Int32 :=
  upd (upd (upd cy (70 + k % 6) (es_r (k / 24) (cy (70 + k % 6)) a b)) (76 + k / 6 % 4) num) (80 + k / 6 % 4) (cy (70 + k % 6))
/-- the reference's copies hold the component's copies and behind them its state -/
def es_C (st cx cy : Nat → Int32) : Prop := (∀ j, j < 70 → cy j = cx j) ∧ ∀ j, j < 14 → cy (70 + j) = st j
/-- the holder is in quorum q and the others are not more than half -/
def es_nd (p m g : Nat → Int32) (q : Int32) (h : Nat) : Bool := es_in p m g q h && !decide (es_cnt (es_me m) 5 < 2 * (es_cnt (es_in p m g q) 5 - 1))
/-- the current members are more than half of the members -/
def es_J (m c : Nat → Int32) : Prop := es_cnt (es_me m) 5 < 2 * es_cnt (fun n => es_me m n && decide (¬ c n = 0)) 5
/-- a node or nobody -/
def es_W (l : Int32) : Prop := l = -1 ∨ ∃ n, n < 5 ∧ l = nI n
def es_I (ld hx : Int32) (p m c g : Nat → Int32) : Prop :=
  es_W ld ∧ (¬ es_qg p m g = -1 → (∃ n, n < 5 ∧ ld = nI n ∧ es_in p m g (es_qg p m g) n = true) ∧ ∀ n, n < 5 → es_in p m g (es_qg p m g) n = true → ¬ c n = 0) ∧ es_J m c ∧ (¬ ld = -1 → hx = -1) ∧ ∀ n, n < 5 → m n = 0 ∨ m n = 1
def es_P (hx pc pn pa pb ip hy yc yn ya yb : Int32) : Prop :=
  (hx = -1 ∧ ip = 0) ∨ ∃ h k, h < 5 ∧ k < 72 ∧ hx = nI h ∧ pc = nI k ∧ ip = 1 ∧ hy = nI h ∧ yc = nI k ∧ yn = pn ∧ ya = pa ∧ yb = pb
theorem es_n1 {n : Nat} (h : n < 5) : ¬ nI n = -1 := by
  intro e
  have := congrArg Int32.toInt e
  rw [nI_toInt (by omega), show ((-1 : Int32)).toInt = -1 from by decide] at this
  omega
theorem es_in_iff {p m g : Nat → Int32} {q : Int32} {n : Nat} : es_in p m g q n = true ↔ ¬ p n = 0 ∧ ¬ m n = 0 ∧ g n = q := decide_eq_true_iff
theorem es_me_iff {m : Nat → Int32} {n : Nat} : es_me m n = true ↔ ¬ m n = 0 := decide_eq_true_iff
theorem es_Q_iff {p m g : Nat → Int32} {q : Int32} : es_Q p m g q = true ↔ es_cnt (es_me m) 5 < 2 * es_cnt (es_in p m g q) 5 := decide_eq_true_iff
theorem es_in_me {p m g : Nat → Int32} {q : Int32} {n : Nat} (h : es_in p m g q n = true) : es_me m n = true := es_me_iff.mpr (es_in_iff.mp h).2.1
theorem es_cnt_le (f : Nat → Bool) : ∀ i, es_cnt f i ≤ i
  | 0 => Nat.le_refl 0
  | i + 1 => by
    have := es_cnt_le f i
    have h2 : (f i).toNat ≤ 1 := Bool.toNat_le _
    simp only [es_cnt]; omega
theorem es_cnt_pos {f : Nat → Bool} : ∀ i, 0 < es_cnt f i → ∃ j, j < i ∧ f j = true
  | 0, h => absurd h (Nat.lt_irrefl 0)
  | i + 1, h => by
    cases e : f i with
    | true => exact ⟨i, by omega, e⟩
    | false =>
      simp only [es_cnt, e, Bool.toNat_false, Nat.add_zero] at h
      obtain ⟨j, hj, h⟩ := es_cnt_pos i h
      exact ⟨j, by omega, h⟩
theorem es_cnt_mono {f h : Nat → Bool} : ∀ i, (∀ j, j < i → f j = true → h j = true) → es_cnt f i ≤ es_cnt h i
  | 0, _ => Nat.le_refl 0
  | i + 1, H => by
    have a := es_cnt_mono i (fun j hj => H j (by omega))
    have b := H i (by omega)
    simp only [es_cnt]
    cases e : f i with
    | true => rw [b e]; omega
    | false => simp only [Bool.toNat_false]; omega
/-- two majorities of m meet -/
theorem es_apart {f h m : Nat → Bool} : ∀ i, (∀ j, j < i → f j = true → m j = true) → (∀ j, j < i → h j = true → m j = true) → (∀ j, j < i → f j = true → h j = true → False) → es_cnt f i + es_cnt h i ≤ es_cnt m i
  | 0, _, _, _ => Nat.le_refl 0
  | i + 1, F, H, D => by
    have a := es_apart i (fun j hj => F j (by omega)) (fun j hj => H j (by omega)) (fun j hj => D j (by omega))
    have F := F i (by omega)
    have H := H i (by omega)
    have D := D i (by omega)
    simp only [es_cnt]
    cases e : f i with
    | true =>
      cases e2 : h i with
      | true => exact absurd (D e e2) id
      | false => rw [F e]; simp only [Bool.toNat_false]; omega
    | false =>
      cases e2 : h i with
      | true => rw [H e2]; simp only [Bool.toNat_false]; omega
      | false => simp only [Bool.toNat_false]; omega
theorem es_meet {f h m : Nat → Bool} (F : ∀ j, j < 5 → f j = true → m j = true) (H : ∀ j, j < 5 → h j = true → m j = true) (a : es_cnt m 5 < 2 * es_cnt f 5) (b : es_cnt m 5 < 2 * es_cnt h 5) : ∃ j, j < 5 ∧ f j = true ∧ h j = true := by
  apply Classical.byContradiction
  intro z
  have := es_apart 5 F H (fun j hj x y => z ⟨j, hj, x, y⟩)
  omega
/-- one less -/
theorem es_less (f : Nat → Bool) (h : Nat) : ∀ i, es_cnt f i ≤ es_cnt (fun j => f j && !decide (j = h)) i + (if h < i then 1 else 0)
  | 0 => Nat.zero_le _
  | i + 1 => by
    have a := es_less f h i
    simp only [es_cnt]
    by_cases e : i = h
    · subst e
      have h2 : (f i).toNat ≤ 1 := Bool.toNat_le _
      rw [if_neg (Nat.lt_irrefl i)] at a
      rw [if_pos (Nat.lt_succ_self i)]
      omega
    · have e2 : decide (i = h) = false := decide_eq_false e
      rw [e2, Bool.not_false, Bool.and_true]
      by_cases e3 : h < i
      · rw [if_pos e3] at a; rw [if_pos (by omega)]; omega
      · rw [if_neg e3] at a; rw [if_neg (by omega)]; omega
theorem es_uniq {p m g : Nat → Int32} {q r : Int32} (a : es_Q p m g q = true) (b : es_Q p m g r = true) : q = r := by
  obtain ⟨j, _, h1, h2⟩ := es_meet (fun j _ h => es_in_me h) (fun j _ h => es_in_me h) (es_Q_iff.mp a) (es_Q_iff.mp b)
  exact (es_in_iff.mp h1).2.2.symm.trans (es_in_iff.mp h2).2.2
/-- the group that is found is a quorum and one of three -/
theorem es_qg_Q {p m g : Nat → Int32} (h : ¬ es_qg p m g = -1) : es_Q p m g (es_qg p m g) = true ∧ ∃ k, k < 3 ∧ es_qg p m g = nI k := by
  unfold es_qg at h ⊢
  by_cases h0 : es_Q p m g 0 = true
  · rw [if_pos h0]; exact ⟨h0, 0, by omega, rfl⟩
  · rw [if_neg h0] at h ⊢
    by_cases h1 : es_Q p m g 1 = true
    · rw [if_pos h1]; exact ⟨h1, 1, by omega, rfl⟩
    · rw [if_neg h1] at h ⊢
      by_cases h2 : es_Q p m g 2 = true
      · rw [if_pos h2]; exact ⟨h2, 2, by omega, rfl⟩
      · rw [if_neg h2] at h; exact absurd rfl h
theorem es_qg_of {p m g : Nat → Int32} {k : Nat} (hk : k < 3) (h : es_Q p m g (nI k) = true) : es_qg p m g = nI k := by
  apply Classical.byContradiction
  intro z
  by_cases y : es_qg p m g = -1
  · unfold es_qg at y
    by_cases h0 : es_Q p m g 0 = true
    · rw [if_pos h0] at y; exact absurd y (by decide)
    · rw [if_neg h0] at y
      by_cases h1 : es_Q p m g 1 = true
      · rw [if_pos h1] at y; exact absurd y (by decide)
      · rw [if_neg h1] at y
        by_cases h2 : es_Q p m g 2 = true
        · rw [if_pos h2] at y; exact absurd y (by decide)
        · rcases (by omega : k = 0 ∨ k = 1 ∨ k = 2) with rfl | rfl | rfl
          · exact h0 h
          · exact h1 h
          · exact h2 h
  · exact z (es_uniq (es_qg_Q y).1 h)
theorem es_mk_at (f : Nat → Bool) (c : Nat → Int32) (j : Nat) : ∀ k, es_mk f c k j = if j < k ∧ f j = false then 0 else c j
  | 0 => by rw [if_neg (by omega)]; rfl
  | k + 1 => by
    have ih := es_mk_at f c j k
    simp only [es_mk]
    cases e : f k with
    | true =>
      rw [if_pos rfl, ih]
      by_cases e2 : j = k
      · subst e2; rw [if_neg (by omega), if_neg (by rw [e]; simp)]
      · by_cases e3 : j < k ∧ f j = false
        · rw [if_pos e3, if_pos ⟨by omega, e3.2⟩]
        · rw [if_neg e3, if_neg (fun z => e3 ⟨by omega, z.2⟩)]
    | false =>
      rw [if_neg (by decide)]
      by_cases e2 : j = k
      · subst e2; rw [pk_us, if_pos ⟨by omega, e⟩]
      · rw [pk_un e2, ih]
        by_cases e3 : j < k ∧ f j = false
        · rw [if_pos e3, if_pos ⟨by omega, e3.2⟩]
        · rw [if_neg e3, if_neg (fun z => e3 ⟨by omega, z.2⟩)]
theorem es_rc_at (f : Nat → Bool) (c : Nat → Int32) (j : Nat) : ∀ k, es_rc f c k j = if j < k ∧ f j = true then 1 else c j
  | 0 => by rw [if_neg (by omega)]; rfl
  | k + 1 => by
    have ih := es_rc_at f c j k
    simp only [es_rc]
    cases e : f k with
    | false =>
      rw [if_neg (by decide), ih]
      by_cases e2 : j = k
      · subst e2; rw [if_neg (by omega), if_neg (by rw [e]; simp)]
      · by_cases e3 : j < k ∧ f j = true
        · rw [if_pos e3, if_pos ⟨by omega, e3.2⟩]
        · rw [if_neg e3, if_neg (fun z => e3 ⟨by omega, z.2⟩)]
    | true =>
      rw [if_pos rfl]
      by_cases e2 : j = k
      · subst e2; rw [pk_us, if_pos ⟨by omega, e⟩]
      · rw [pk_un e2, ih]
        by_cases e3 : j < k ∧ f j = true
        · rw [if_pos e3, if_pos ⟨by omega, e3.2⟩]
        · rw [if_neg e3, if_neg (fun z => e3 ⟨by omega, z.2⟩)]
theorem es_mk2 (f : Nat → Bool) (c : Nat → Int32) : es_mk f (es_mk f c 5) 5 = es_mk f c 5 := by
  funext j
  rw [es_mk_at, es_mk_at]
  by_cases e : j < 5 ∧ f j = false
  · rw [if_pos e, if_pos e]
  · rw [if_neg e]
theorem es_C_cp {st cx cy : Nat → Int32} {k : Nat} (hk : k < 5) (h : es_C st cx cy) : ∀ i, i ≤ 14 → es_C st (es_cp st k cx i) (es_cq k cy i)
  | 0, _ => h
  | i + 1, hi => by
    have ih := es_C_cp hk h i (by omega)
    have e : 14 * k + i = k * 14 + i := by omega
    refine ⟨fun j hj => ?_, fun j hj => ?_⟩
    · simp only [es_cp, es_cq]
      rw [e, ih.2 i (by omega)]
      by_cases z : j = k * 14 + i
      · subst z; rw [pk_us, pk_us]
      · rw [pk_un z, pk_un z]; exact ih.1 j hj
    · simp only [es_cq]
      rw [pk_un (by omega)]; exact ih.2 j hj
theorem es_C_rf {st cx cy : Nat → Int32} {f : Nat → Bool} (h : es_C st cx cy) : ∀ i, i ≤ 5 → es_C st (es_rf st f cx i) (es_rg f cy i)
  | 0, _ => h
  | i + 1, hi => by
    have ih := es_C_rf (f := f) h i (by omega)
    simp only [es_rf, es_rg]
    cases e : f i with
    | true => rw [if_pos rfl, if_pos rfl]; exact es_C_cp (by omega) ih 14 (by omega)
    | false => rw [if_neg (by decide), if_neg (by decide)]; exact ih
theorem es_C_d {st cx cy : Nat → Int32} (h : es_C st cx cy) (k : Nat) (num a b : Int32) : es_C (es_dx st k num a b) cx (es_dy cy k num a b) := by
  have hk : k % 6 < 6 := Nat.mod_lt _ (by omega)
  have hs : k / 6 % 4 < 4 := Nat.mod_lt _ (by omega)
  unfold es_dx es_dy
  rw [h.2 (k % 6) (by omega)]
  generalize st (k % 6) = x
  generalize es_r (k / 24) x a b = r
  generalize k % 6 = e at hk
  generalize k / 6 % 4 = s at hs
  refine ⟨fun j hj => ?_, fun j hj => ?_⟩
  · rw [pk_un (by omega), pk_un (by omega), pk_un (by omega)]; exact h.1 j hj
  · by_cases h1 : j = 10 + s
    · subst h1; rw [show 70 + (10 + s) = 80 + s from by omega, pk_us, pk_us]
    · rw [pk_un (by omega), pk_un h1]
      by_cases h2 : j = 6 + s
      · subst h2; rw [show 70 + (6 + s) = 76 + s from by omega, pk_us, pk_us]
      · rw [pk_un (by omega), pk_un h2]
        by_cases h3 : j = e
        · subst h3; rw [pk_us, pk_us]
        · rw [pk_un (by omega), pk_un h3]; exact h.2 j hj
theorem es_fr_some {h : Nat → Bool} : ∀ k, k ≤ 5 → (∃ n, 5 - k ≤ n ∧ n < 5 ∧ h n = true) → ∃ n, n < 5 ∧ h n = true ∧ es_fr h k = nI n
  | 0, _, ⟨n, a, b, _⟩ => absurd b (by omega)
  | k + 1, hk, ⟨n, a, b, e⟩ => by
    simp only [es_fr]
    by_cases z : h (4 - k) = true
    · rw [if_pos z]; exact ⟨4 - k, by omega, z, rfl⟩
    · rw [if_neg z]
      refine es_fr_some k (by omega) ⟨n, ?_, b, e⟩
      by_cases y : n = 4 - k
      · subst y; exact absurd e z
      · omega
end
section
theorem es_b0 : vp_nar .boolean 0 = 0 := rfl
theorem es_b1 : vp_nar .boolean 1 = 1 := rfl
theorem es_ct {f : Nat → Bool} {i : Nat} (h : f i = true) : nI (es_cnt f i) + 1 = nI (es_cnt f (i + 1)) := by
  rw [nI_1]; simp only [es_cnt, h]; rfl
theorem es_cf {f : Nat → Bool} {i : Nat} (h : f i = false) : nI (es_cnt f i) = nI (es_cnt f (i + 1)) := by
  simp only [es_cnt, h]; rfl
theorem es_2 (a : Nat) : (2 : Int32) * nI a = nI (2 * a) := pk_mul 2 a
theorem es_14 (k i : Nat) : nI k * 14 + nI i = nI (k * 14 + i) := by rw [show (14 : Int32) = nI 14 from rfl, pk_mul, nI_add]
theorem es_41 (k i : Nat) : 14 * nI k + nI i = nI (14 * k + i) := by rw [show (14 : Int32) = nI 14 from rfl, pk_mul, nI_add]
theorem es_cd {k : Nat} (h : k < 72) : nI k / 24 = nI (k / 24) ∧ nI k - nI k / 6 * 6 = nI (k % 6) ∧ (nI k / 6) - (nI k / 6) / 4 * 4 = nI (k / 6 % 4) := by
  refine ⟨pk_div (d := 24) (by omega) (by omega) (by omega), pk_rem (d := 6) (by omega) (by omega) (by omega), ?_⟩
  rw [show nI k / 6 = nI (k / 6) from pk_div (d := 6) (by omega) (by omega) (by omega)]
  exact pk_rem (d := 4) (by omega) (by omega) (by omega)
theorem es_upd_self (f : Nat → Int32) (k : Nat) : upd f k (f k) = f := by
  funext j
  by_cases h : j = k
  · subst h; exact pk_us
  · exact pk_un h
section
variable {ld hx pc pn pa pb : Int32} {p m c g st cx : Nat → Int32}
theorem xa_in {post : Int32 → Prop} {q : Int32} {n : Nat} (hn : n < 5) (h1 : es_in p m g q n = true → post 1) (h0 : es_in p m g q n = false → post 0) : wpX_isUpMemberIn post (ld, hx, pc, pn, pa, pb, p, m, c, g, st, cx) (nI n) q := by
  have e : (nI n).toNatClampNeg = n := nI_clamp (by omega)
  have v : vp_in (nI n) 5 := vp_in_nI hn (by omega)
  refine br_f (nI_pos (by omega)) (br_f (nI_ge (b := 5) hn (by omega)) ⟨v, br_c (fun a => h0 ?_) (fun a => ⟨v, br_c (fun b => h0 ?_) (fun b => ⟨v, br_c (fun d => h1 ?_) (fun d => h0 ?_)⟩)⟩)⟩)
  · rw [e] at a; exact decide_eq_false (fun z => z.1 a)
  · rw [e] at b; exact decide_eq_false (fun z => z.2.1 b)
  · rw [e] at a b d; exact decide_eq_true ⟨a, b, d⟩
  · rw [e] at d; exact decide_eq_false (fun z => d z.2.2)
theorem xa_in0 {post : Int32 → Prop} {q : Int32} (h : post 0) : wpX_isUpMemberIn post (ld, hx, pc, pn, pa, pb, p, m, c, g, st, cx) (-1) q := br_t (by decide) h
/-- a node or nobody, not in q -/
theorem xa_out {post : Int32 → Prop} {q l : Int32} (w : es_W l) (o : ∀ n, n < 5 → l = nI n → es_in p m g q n = false) (h : post 0) : wpX_isUpMemberIn post (ld, hx, pc, pn, pa, pb, p, m, c, g, st, cx) l q := by
  rcases w with rfl | ⟨n, hn, rfl⟩
  · exact xa_in0 h
  · exact xa_in hn (fun z => absurd z (by rw [o n hn rfl]; decide)) (fun _ => h)
theorem xa_umc {post : Int32 → Prop} {q : Int32} (h : post (nI (es_cnt (es_in p m g q) 5))) : wpX_upMemberCount post (ld, hx, pc, pn, pa, pb, p, m, c, g, st, cx) q := by
  refine loop_0 (fun n i (s : Int32) => wX_upMemberCount_4 post q ld hx pc pn pa pb p m c g st cx n s (nI i)) (fun i s => s = nI (es_cnt (es_in p m g q) i)) 5 0 rfl ?_ ?_
  · intro n s hs; subst hs; exact br_t (nI_le (Nat.le_refl 5) (by omega)) h
  · intro n i s hi hs ih
    subst hs
    exact br_f (nI_ge (b := 5) hi (by omega)) (xa_in hi (fun a => br_f (by decide) (nm_e (nm_r (nI_1 i) (ih _ (es_ct a))))) (fun a => br_t rfl (nm_r (nI_1 i) (ih _ (es_cf a)))))
theorem xa_mc {post : Int32 → Prop} (h : post (nI (es_cnt (es_me m) 5))) : wpX_memberCount post (ld, hx, pc, pn, pa, pb, p, m, c, g, st, cx) := by
  refine loop_0 (fun n i (s : Int32) => wX_memberCount_4 post ld hx pc pn pa pb p m c g st cx n s (nI i)) (fun i s => s = nI (es_cnt (es_me m) i)) 5 0 rfl ?_ ?_
  · intro n s hs; subst hs; exact br_t (nI_le (Nat.le_refl 5) (by omega)) h
  · intro n i s hi hs ih
    subst hs
    have e : (nI i).toNatClampNeg = i := nI_clamp (by omega)
    refine br_f (nI_ge (b := 5) hi (by omega)) ⟨vp_in_nI hi (by omega), br_c (fun a => nm_r (nI_1 i) (ih _ (es_cf ?_))) (fun a => nm_e (nm_r (nI_1 i) (ih _ (es_ct ?_))))⟩
    · rw [e] at a; exact decide_eq_false (fun z => z a)
    · rw [e] at a; exact decide_eq_true a
theorem xa_isQ {post : Int32 → Prop} {q : Int32} (h1 : es_Q p m g q = true → post 1) (h0 : es_Q p m g q = false → post 0) : wpX_isQuorum post (ld, hx, pc, pn, pa, pb, p, m, c, g, st, cx) q := by
  unfold wpX_isQuorum
  have l1 := es_cnt_le (es_in p m g q) 5
  have l2 := es_cnt_le (es_me m) 5
  refine xa_umc (xa_mc ?_)
  refine br_c (fun a => h0 ?_) (fun a => h1 ?_)
  · rw [es_2, nI_leI (by omega) (by omega)] at a; exact decide_eq_false (by omega)
  · rw [es_2, nI_leI (by omega) (by omega)] at a; exact decide_eq_true (by omega)
theorem xa_qg {post : Int32 → Prop} (h : post (es_qg p m g)) : wpX_quorumGroup post (ld, hx, pc, pn, pa, pb, p, m, c, g, st, cx) := by
  refine ⟨4, br_f (by decide) (xa_isQ (fun a => br_f (by decide) ?_) (fun a => br_t rfl (nm_r (e' := 1) rfl ?_)))⟩
  · unfold es_qg at h; rw [if_pos a] at h; exact h
  · refine br_f (by decide) (xa_isQ (fun b => br_f (by decide) ?_) (fun b => br_t rfl (nm_r (e' := 2) rfl ?_)))
    · unfold es_qg at h; rw [a, if_neg (by decide), if_pos b] at h; exact h
    · refine br_f (by decide) (xa_isQ (fun d => br_f (by decide) ?_) (fun d => br_t rfl (nm_r (e' := 3) rfl ?_)))
      · unfold es_qg at h; rw [a, if_neg (by decide), b, if_neg (by decide), if_pos d] at h; exact h
      · refine br_t (by decide) ?_
        unfold es_qg at h; rw [a, if_neg (by decide), b, if_neg (by decide), d, if_neg (by decide)] at h; exact h
theorem xa_ls {post : Int32 → Prop} {q hb : Int32} {h : Nat → Bool} (H : ∀ n, n < 5 → (h n = true ↔ es_in p m g q n = true ∧ ¬ c n = 0 ∧ ¬ nI n = hb)) : ∀ k, k ≤ 5 → post (es_fr h k) → wX_leastCurrent_2 post q hb ld hx pc pn pa pb p m c g st cx (k + 1) (nI (5 - k))
  | 0, _, hp => br_t (nI_le (Nat.le_refl 5) (by omega)) hp
  | k + 1, hk, hp => by
    have hi : 4 - k < 5 := by omega
    have e : (nI (4 - k)).toNatClampNeg = 4 - k := nI_clamp (by omega)
    have r : nI (4 - k) + 1 = nI (5 - k) := by rw [nI_1, show 4 - k + 1 = 5 - k from by omega]
    rw [show 5 - (k + 1) = 4 - k from by omega]
    simp only [es_fr] at hp
    by_cases z : h (4 - k) = true
    · rw [if_pos z] at hp
      obtain ⟨z1, z2, z3⟩ := (H _ hi).mp z
      refine br_f (nI_ge (b := 5) hi (by omega)) (br_f z3 ⟨vp_in_nI hi (by omega), br_f (by rw [e]; exact z2) (xa_in hi (fun _ => br_f (by decide) hp) (fun w => absurd z1 (by rw [w]; decide)))⟩)
    · rw [if_neg z] at hp
      have rr := xa_ls H k (by omega) hp
      refine br_f (nI_ge (b := 5) hi (by omega)) (br_c (fun a => nm_r r rr) (fun a => ⟨vp_in_nI hi (by omega), br_c (fun b => nm_r r rr) (fun b => xa_in hi (fun w => absurd ((H _ hi).mpr ⟨w, ?_, a⟩) z) (fun w => br_t rfl (nm_r r rr)))⟩))
      rw [e] at b; exact b
theorem xa_least {post : Int32 → Prop} {q hb : Int32} {h : Nat → Bool} (H : ∀ n, n < 5 → (h n = true ↔ es_in p m g q n = true ∧ ¬ c n = 0 ∧ ¬ nI n = hb)) (hp : post (es_fr h 5)) : wpX_leastCurrent post (ld, hx, pc, pn, pa, pb, p, m, c, g, st, cx) q hb := ⟨6, xa_ls H 5 (by omega) hp⟩
theorem xa_mark {post : SX → Prop} {q : Int32} (h : post (ld, hx, pc, pn, pa, pb, p, m, es_mk (es_in p m g q) c 5, g, st, cx)) : wpX_markStep post (ld, hx, pc, pn, pa, pb, p, m, c, g, st, cx) q := by
  refine loop_0 (fun n i (s : Nat → Int32) => wX_markStep_2 post q ld hx pc pn pa pb n (nI i) p m s g st cx) (fun i s => s = es_mk (es_in p m g q) c i) 5 c rfl ?_ ?_
  · intro n s hs; subst hs; exact br_t (nI_le (Nat.le_refl 5) (by omega)) h
  · intro n i s hi hs ih
    subst hs
    refine br_f (nI_ge (b := 5) hi (by omega)) (xa_in hi (fun a => br_f (by decide) (nm_r (nI_1 i) (ih _ ?_))) (fun a => br_t rfl ⟨vp_in_nI hi (by omega), nm_e (nm_r (nI_1 i) (ih _ ?_))⟩))
    · simp only [es_mk]; rw [if_pos a]
    · rw [nI_clamp (by omega), es_b0]; simp only [es_mk]; rw [a, if_neg (by decide)]
theorem xa_copy {post : SX → Prop} {k : Nat} (hk : k < 5) (h : post (ld, hx, pc, pn, pa, pb, p, m, c, g, st, es_cp st k cx 14)) : wpX_copyStateTo post (ld, hx, pc, pn, pa, pb, p, m, c, g, st, cx) (nI k) := by
  refine loop_0 (fun n i (s : Nat → Int32) => wX_copyStateTo_2 post (nI k) ld hx pc pn pa pb n (nI i) p m c g st s) (fun i s => s = es_cp st k cx i) 14 cx rfl ?_ ?_
  · intro n s hs; subst hs; exact br_t (nI_le (Nat.le_refl 14) (by omega)) h
  · intro n i s hi hs ih
    subst hs
    refine br_f (nI_ge (b := 14) hi (by omega)) ⟨vp_in_nI hi (by omega), ?_⟩
    rw [es_14, nI_clamp (by omega), nI_clamp (by omega)]
    exact ⟨vp_in_nI (by omega) (by omega), nm_e (nm_r (nI_1 i) (ih _ rfl))⟩
theorem xa_ref {post : SX → Prop} {q : Int32} (h : post (ld, hx, pc, pn, pa, pb, p, m, es_rc (es_in p m g q) c 5, g, st, es_rf st (es_in p m g q) cx 5)) : wpX_refreshQuorum post (ld, hx, pc, pn, pa, pb, p, m, c, g, st, cx) q := by
  refine loop_0 (fun n i (s : (Nat → Int32) × (Nat → Int32)) => wX_refreshQuorum_2 post q n (nI i) ld hx pc pn pa pb p m s.1 g st s.2) (fun i s => s = (es_rc (es_in p m g q) c i, es_rf st (es_in p m g q) cx i)) 5 (c, cx) rfl ?_ ?_
  · intro n s hs; subst hs; exact br_t (nI_le (Nat.le_refl 5) (by omega)) h
  · intro n i s hi hs ih
    subst hs
    refine br_f (nI_ge (b := 5) hi (by omega)) (xa_in hi (fun a => br_f (by decide) ⟨vp_in_nI hi (by omega), nm_e (xa_copy hi (nm_r (nI_1 i) (ih (upd (es_rc (es_in p m g q) c i) (nI i).toNatClampNeg (vp_nar .boolean 1), es_cp st i (es_rf st (es_in p m g q) cx i) 14) ?_)))⟩) (fun a => br_t rfl (nm_r (nI_1 i) (ih (_, _) ?_))))
    · rw [nI_clamp (by omega), es_b1]; simp only [es_rc, es_rf]; rw [if_pos a, if_pos a]
    · simp only [es_rc, es_rf]; rw [a, if_neg (by decide), if_neg (by decide)]
theorem es_nd_iff {q : Int32} {h : Nat} (a : es_in p m g q h = true) : es_nd p m g q h = false ↔ es_cnt (es_me m) 5 < 2 * (es_cnt (es_in p m g q) 5 - 1) := by
  unfold es_nd
  rw [a, Bool.true_and, Bool.not_eq_false', decide_eq_true_iff]
theorem es_pos {f : Nat → Bool} {h : Nat} (e : f h = true) : ∀ i, h < i → 0 < es_cnt f i
  | 0, z => absurd z (by omega)
  | i + 1, z => by
    simp only [es_cnt]
    by_cases y : h = i
    · subst y; rw [e]; exact Nat.succ_pos _
    · have := es_pos e i (by omega); omega
/-- the two counts beside each other, less one -/
theorem es_less1 {q : Int32} {h : Nat} (hh : h < 5) (a : es_in p m g q h = true) : nI (es_cnt (es_me m) 5) < 2 * (nI (es_cnt (es_in p m g q) 5) - 1) ↔ es_cnt (es_me m) 5 < 2 * (es_cnt (es_in p m g q) 5 - 1) := by
  have l1 := es_cnt_le (es_in p m g q) 5
  have l2 := es_cnt_le (es_me m) 5
  have l3 := es_pos a 5 hh
  rw [show (1 : Int32) = nI 1 from rfl, pk_sub (by omega), es_2, nI_ltI (by omega) (by omega)]
theorem xa_need {post : Int32 → Prop} {q : Int32} {h : Nat} (hh : h < 5) (h1 : es_nd p m g q h = true → post 1) (h0 : es_nd p m g q h = false → post 0) : wpX_isHolderNeeded post (ld, nI h, pc, pn, pa, pb, p, m, c, g, st, cx) q := by
  unfold wpX_isHolderNeeded
  refine xa_in hh (fun a => br_f (by decide) (xa_umc (xa_mc (br_c (fun b => h0 ?_) (fun b => h1 ?_))))) (fun a => br_t rfl (h0 ?_))
  · rw [es_less1 hh a] at b; exact (es_nd_iff a).mpr b
  · rw [es_less1 hh a, ← es_nd_iff a] at b; exact Bool.not_eq_false _ ▸ b
  · unfold es_nd; rw [a]; rfl
theorem xa_need0 {post : Int32 → Prop} {q : Int32} (h0 : post 0) : wpX_isHolderNeeded post (ld, -1, pc, pn, pa, pb, p, m, c, g, st, cx) q := by
  unfold wpX_isHolderNeeded
  exact xa_in0 (br_t rfl h0)
theorem xa_d79 {post : SX → Prop} {k : Nat} {num x : Int32} {t : Nat → Int32} (h : post (ld, hx, pc, pn, pa, pb, p, m, c, g, upd (upd t (6 + k / 6 % 4) num) (10 + k / 6 % 4) x, cx)) : wX_doCommand_79 post num (nI (k / 6 % 4)) x ld hx pc pn pa pb p m c g t cx := by
  have hs : k / 6 % 4 < 4 := Nat.mod_lt _ (by omega)
  have e1 : 6 + nI (k / 6 % 4) = nI (6 + k / 6 % 4) := nI_add 6 _
  have e2 : 10 + nI (k / 6 % 4) = nI (10 + k / 6 % 4) := nI_add 10 _
  unfold wX_doCommand_79
  rw [e1, e2, nI_clamp (by omega), nI_clamp (by omega)]
  exact ⟨vp_in_nI (by omega) (by omega), nm_e ⟨vp_in_nI (by omega) (by omega), nm_e h⟩⟩
theorem xa_do {post : SX → Prop} {k : Nat} {num a b : Int32} (hk : k < 72) (h : post (ld, hx, pc, pn, pa, pb, p, m, c, g, es_dx st k num a b, cx)) : wpX_doCommand post (ld, hx, pc, pn, pa, pb, p, m, c, g, st, cx) (nI k) num a b := by
  obtain ⟨e1, e2, e3⟩ := es_cd hk
  have h6 : k % 6 < 6 := Nat.mod_lt _ (by omega)
  have h3 : k / 24 < 3 := by omega
  have cl : (nI (k % 6)).toNatClampNeg = k % 6 := nI_clamp (by omega)
  have vi : vp_in (nI (k % 6)) 14 := vp_in_nI (by omega) (by omega)
  unfold wpX_doCommand
  refine ⟨by decide, nm_r e1 ?_⟩
  refine ⟨by decide, by decide, ?_⟩
  rw [e3]
  refine ⟨by decide, nm_r e2 ⟨vi, nm_e ?_⟩⟩
  rw [cl]
  refine br_c (fun z => ⟨vi, nm_e (xa_d79 ?_)⟩) (fun z => br_c (fun y => ⟨vi, nm_e (xa_d79 ?_)⟩) (fun y => br_c (fun w => ⟨vi, nm_e (xa_d79 ?_)⟩) (fun w => xa_d79 ?_)))
  all_goals unfold es_dx es_r at h
  · rw [show (0 : Int32) = nI 0 from rfl, nI_eq (by omega) (by omega)] at z
    rw [if_pos z] at h; exact h
  · rw [show (0 : Int32) = nI 0 from rfl, nI_eq (by omega) (by omega)] at z
    rw [show (1 : Int32) = nI 1 from rfl, nI_eq (by omega) (by omega)] at y
    rw [if_neg z, if_pos y] at h; exact h
  · rw [show (0 : Int32) = nI 0 from rfl, nI_eq (by omega) (by omega)] at z
    rw [show (1 : Int32) = nI 1 from rfl, nI_eq (by omega) (by omega)] at y
    rw [if_neg z, if_neg y, if_pos w] at h; exact h
  · rw [show (0 : Int32) = nI 0 from rfl, nI_eq (by omega) (by omega)] at z
    rw [show (1 : Int32) = nI 1 from rfl, nI_eq (by omega) (by omega)] at y
    rw [if_neg z, if_neg y, if_neg w, es_upd_self] at h; exact h
theorem xa_elN {post : SX → Prop} {q : Int32} {h k : Nat} (hh : h < 5) (hk : k < 72) (nd : es_nd p m g q h = true) (hp : post (nI h, -1, nI k, pn, pa, pb, p, m, es_mk (es_in p m g q) c 5, g, es_dx st k pn pa pb, cx)) : wpX_elect post (ld, nI h, nI k, pn, pa, pb, p, m, c, g, st, cx) q := by
  unfold wpX_elect
  refine xa_need hh (fun _ => br_f (by decide) (xa_do hk ?_)) (fun z => absurd nd (by rw [z]; decide))
  exact xa_mark hp
theorem xa_elL {post : SX → Prop} {q : Int32} {hh : Nat → Bool} (w : es_W hx) (nd : ∀ n, n < 5 → hx = nI n → es_nd p m g q n = false) (H : ∀ n, n < 5 → (hh n = true ↔ es_in p m g q n = true ∧ ¬ c n = 0 ∧ ¬ nI n = hx)) (hp : post (es_fr hh 5, -1, pc, pn, pa, pb, p, m, es_mk (es_in p m g q) c 5, g, st, cx)) : wpX_elect post (ld, hx, pc, pn, pa, pb, p, m, c, g, st, cx) q := by
  unfold wpX_elect
  rcases w with rfl | ⟨n, hn, rfl⟩
  · exact xa_need0 (br_t rfl (xa_least H (xa_mark hp)))
  · exact xa_need hn (fun z => absurd z (by rw [nd n hn rfl]; decide)) (fun _ => br_t rfl (xa_least H (xa_mark hp)))
theorem xa_s0 {post : SX → Prop} (hq : es_qg p m g = -1) (h : post (-1, hx, pc, pn, pa, pb, p, m, c, g, st, cx)) : wpX_settle post (ld, hx, pc, pn, pa, pb, p, m, c, g, st, cx) := by
  unfold wpX_settle
  exact xa_qg (br_t hq h)
theorem xa_s1 {post : SX → Prop} {q : Int32} {n : Nat} (hq : es_qg p m g = q) (h1 : ¬ q = -1) (hn : n < 5) (hi : es_in p m g q n = true) (h : post (nI n, hx, pc, pn, pa, pb, p, m, es_rc (es_in p m g q) c 5, g, st, es_rf st (es_in p m g q) cx 5)) : wpX_settle post (nI n, hx, pc, pn, pa, pb, p, m, c, g, st, cx) := by
  subst hq
  unfold wpX_settle
  exact xa_qg (br_f h1 (xa_in hn (fun _ => br_f (by decide) (xa_ref h)) (fun z => absurd hi (by rw [z]; decide))))
theorem xa_sN {post : SX → Prop} {q : Int32} {h k : Nat} (hq : es_qg p m g = q) (h1 : ¬ q = -1) (w : es_W ld) (o : ∀ n, n < 5 → ld = nI n → es_in p m g q n = false) (hh : h < 5) (hk : k < 72) (nd : es_nd p m g q h = true)
    (hp : post (nI h, -1, nI k, pn, pa, pb, p, m, es_rc (es_in p m g q) (es_mk (es_in p m g q) c 5) 5, g, es_dx st k pn pa pb, es_rf (es_dx st k pn pa pb) (es_in p m g q) cx 5)) : wpX_settle post (ld, nI h, nI k, pn, pa, pb, p, m, c, g, st, cx) := by
  subst hq
  unfold wpX_settle
  exact xa_qg (br_f h1 (xa_out w o (br_t rfl (xa_elN hh hk nd (xa_ref hp)))))
theorem xa_sL {post : SX → Prop} {q : Int32} {hh : Nat → Bool} (hq : es_qg p m g = q) (h1 : ¬ q = -1) (wl : es_W ld) (o : ∀ n, n < 5 → ld = nI n → es_in p m g q n = false) (w : es_W hx) (nd : ∀ n, n < 5 → hx = nI n → es_nd p m g q n = false) (H : ∀ n, n < 5 → (hh n = true ↔ es_in p m g q n = true ∧ ¬ c n = 0 ∧ ¬ nI n = hx))
    (hp : post (es_fr hh 5, -1, pc, pn, pa, pb, p, m, es_rc (es_in p m g q) (es_mk (es_in p m g q) c 5) 5, g, st, es_rf st (es_in p m g q) cx 5)) : wpX_settle post (ld, hx, pc, pn, pa, pb, p, m, c, g, st, cx) := by
  subst hq
  unfold wpX_settle
  exact xa_qg (br_f h1 (xa_out wl o (br_t rfl (xa_elL w nd H (xa_ref hp)))))
end
end
section
section
variable {ly ip hy yc yn ya yb : Int32} {p g m c cy : Nat → Int32}
theorem ya_bad {post : Int32 → Prop} {n : Nat} (hn : n < 5) (h : post 0) : wpY_badNode post (ly, ip, hy, yc, yn, ya, yb, p, g, m, c, cy) (nI n) :=
  br_f (nI_pos (by omega)) (br_t (nI_le (b := 4) (by omega) (by omega)) h)
theorem ya_cm {post : Int32 → Prop} (h : post (nI (es_cnt (es_me m) 5))) : wpY_countMembers post (ly, ip, hy, yc, yn, ya, yb, p, g, m, c, cy) := by
  refine loop_0 (fun n i (s : Int32) => wY_countMembers_4 post ly ip hy yc yn ya yb p g m c cy n s (nI i)) (fun i s => s = nI (es_cnt (es_me m) i)) 5 0 rfl ?_ ?_
  · intro n s hs; subst hs; exact br_t (nI_le (Nat.le_refl 5) (by omega)) h
  · intro n i s hi hs ih
    subst hs
    have e : (nI i).toNatClampNeg = i := nI_clamp (by omega)
    refine br_f (nI_ge (b := 5) hi (by omega)) ⟨vp_in_nI hi (by omega), br_c (fun a => nm_r (nI_1 i) (ih _ (es_cf ?_))) (fun a => nm_e (nm_r (nI_1 i) (ih _ (es_ct ?_))))⟩
    · rw [e] at a; exact decide_eq_false (fun z => z a)
    · rw [e] at a; exact decide_eq_true a
theorem ya_cu {post : Int32 → Prop} {q : Int32} (h : post (nI (es_cnt (es_in p m g q) 5))) : wpY_countUp post (ly, ip, hy, yc, yn, ya, yb, p, g, m, c, cy) q := by
  refine loop_0 (fun n i (s : Int32) => wY_countUp_4 post q ly ip hy yc yn ya yb p g m c cy n s (nI i)) (fun i s => s = nI (es_cnt (es_in p m g q) i)) 5 0 rfl ?_ ?_
  · intro n s hs; subst hs; exact br_t (nI_le (Nat.le_refl 5) (by omega)) h
  · intro n i s hi hs ih
    subst hs
    have e : (nI i).toNatClampNeg = i := nI_clamp (by omega)
    have v : vp_in (nI i) 5 := vp_in_nI hi (by omega)
    refine br_f (nI_ge (b := 5) hi (by omega)) ⟨v, br_c (fun a => nm_r (nI_1 i) (ih _ (es_cf ?_))) (fun a => ⟨v, br_c (fun b => nm_r (nI_1 i) (ih _ (es_cf ?_))) (fun b => ⟨v, br_c (fun d => nm_e (nm_r (nI_1 i) (ih _ (es_ct ?_)))) (fun d => nm_r (nI_1 i) (ih _ (es_cf ?_)))⟩)⟩)⟩
    · rw [e] at a; exact decide_eq_false (fun z => z.1 a)
    · rw [e] at b; exact decide_eq_false (fun z => z.2.1 b)
    · rw [e] at a b d; exact decide_eq_true ⟨a, b, d⟩
    · rw [e] at d; exact decide_eq_false (fun z => d z.2.2)
/-- one turn of the search for a quorum -/
theorem ya_q1 {q : Int32} {A B : Prop} (h1 : es_Q p m g q = true → B) (h0 : es_Q p m g q = false → A) : (2 * nI (es_cnt (es_in p m g q) 5) ≤ nI (es_cnt (es_me m) 5) → A) ∧ (¬ 2 * nI (es_cnt (es_in p m g q) 5) ≤ nI (es_cnt (es_me m) 5) → B) := by
  have l1 := es_cnt_le (es_in p m g q) 5
  have l2 := es_cnt_le (es_me m) 5
  refine br_c (fun a => h0 ?_) (fun a => h1 ?_)
  · rw [es_2, nI_leI (by omega) (by omega)] at a; exact decide_eq_false (by omega)
  · rw [es_2, nI_leI (by omega) (by omega)] at a; exact decide_eq_true (by omega)
theorem ya_q {post : Int32 → Prop} (h : post (es_qg p m g)) : wpY_quorum post (ly, ip, hy, yc, yn, ya, yb, p, g, m, c, cy) := by
  refine ⟨4, br_f (by decide) (ya_cu (ya_cm (ya_q1 (fun a => ?_) (fun a => nm_r (e' := 1) rfl ?_))))⟩
  · unfold es_qg at h; rw [if_pos a] at h; exact h
  · refine br_f (by decide) (ya_cu (ya_cm (ya_q1 (fun b => ?_) (fun b => nm_r (e' := 2) rfl ?_))))
    · unfold es_qg at h; rw [a, if_neg (by decide), if_pos b] at h; exact h
    · refine br_f (by decide) (ya_cu (ya_cm (ya_q1 (fun d => ?_) (fun d => nm_r (e' := 3) rfl ?_))))
      · unfold es_qg at h; rw [a, if_neg (by decide), b, if_neg (by decide), if_pos d] at h; exact h
      · refine br_t (by decide) ?_
        unfold es_qg at h; rw [a, if_neg (by decide), b, if_neg (by decide), d, if_neg (by decide)] at h; exact h
theorem es_qn {q : Int32} (hq : es_qg p m g = q) (h1 : ¬ q = -1) : ¬ q < 0 ∧ 0 ≤ q := by
  subst hq
  obtain ⟨_, k, hk, e⟩ := es_qg_Q h1
  rw [e]; exact ⟨nI_pos (by omega), nI_pos' (by omega)⟩
theorem ya_in {post : Int32 → Prop} {q : Int32} {n : Nat} (hq : es_qg p m g = q) (hn1 : ¬ q = -1) (hn : n < 5) (h1 : es_in p m g q n = true → post 1) (h0 : es_in p m g q n = false → post 0) : wpY_isIn post (ly, ip, hy, yc, yn, ya, yb, p, g, m, c, cy) (nI n) := by
  have e : (nI n).toNatClampNeg = n := nI_clamp (by omega)
  have v : vp_in (nI n) 5 := vp_in_nI hn (by omega)
  have z := (es_qn hq hn1).1
  subst hq
  unfold wpY_isIn
  refine ya_q (br_f z ⟨v, br_c (fun a => h0 ?_) (fun a => ⟨v, br_c (fun b => h0 ?_) (fun b => ⟨v, br_c (fun d => h1 ?_) (fun d => h0 ?_)⟩)⟩)⟩)
  · rw [e] at a; exact decide_eq_false (fun z => z.1 a)
  · rw [e] at b; exact decide_eq_false (fun z => z.2.1 b)
  · rw [e] at a b d; exact decide_eq_true ⟨a, b, d⟩
  · rw [e] at d; exact decide_eq_false (fun z => d z.2.2)
theorem ya_step {post : SY → Prop} {q : Int32} (hq : es_qg p m g = q) (h1 : ¬ q = -1) (h : post (ly, ip, hy, yc, yn, ya, yb, p, g, m, es_mk (es_in p m g q) c 5, cy)) : wpY_step post (ly, ip, hy, yc, yn, ya, yb, p, g, m, c, cy) := by
  refine loop_0 (fun n i (s : Nat → Int32) => wY_step_2 post ly ip hy yc yn ya yb n (nI i) p g m s cy) (fun i s => s = es_mk (es_in p m g q) c i) 5 c rfl ?_ ?_
  · intro n s hs; subst hs; exact br_t (nI_le (Nat.le_refl 5) (by omega)) h
  · intro n i s hi hs ih
    subst hs
    refine br_f (nI_ge (b := 5) hi (by omega)) (ya_in hq h1 hi (fun a => br_f (by decide) (nm_r (nI_1 i) (ih _ ?_))) (fun a => br_t rfl ⟨vp_in_nI hi (by omega), nm_e (nm_r (nI_1 i) (ih _ ?_))⟩))
    · simp only [es_mk]; rw [if_pos a]
    · rw [nI_clamp (by omega), es_b0]; simp only [es_mk]; rw [a, if_neg (by decide)]
theorem ya_changed {post : Int32 → Prop} {k : Nat} {x a b : Int32} (hk : k < 3) (h : post (es_r k x a b)) : wpY_changed post (ly, ip, hy, yc, yn, ya, yb, p, g, m, c, cy) (nI k) x a b := by
  unfold es_r at h
  refine br_c (fun z => ?_) (fun z => br_c (fun y => ?_) (fun y => br_c (fun w => ?_) (fun w => ?_)))
  all_goals rw [show (0 : Int32) = nI 0 from rfl, nI_eq (by omega) (by omega)] at z
  · rw [if_pos z] at h; exact h
  all_goals rw [show (1 : Int32) = nI 1 from rfl, nI_eq (by omega) (by omega)] at y
  · rw [if_neg z, if_pos y] at h; exact h
  · rw [if_neg z, if_neg y, if_pos w] at h; exact h
  · rw [if_neg z, if_neg y, if_neg w] at h; exact h
theorem ya_carry {post : SY → Prop} {q : Int32} {k : Nat} {num a b : Int32} (hq : es_qg p m g = q) (h1 : ¬ q = -1) (hk : k < 72) (h : post (ly, ip, hy, yc, yn, ya, yb, p, g, m, es_mk (es_in p m g q) c 5, es_dy cy k num a b)) : wpY_carryOut post (ly, ip, hy, yc, yn, ya, yb, p, g, m, c, cy) (nI k) num a b := by
  obtain ⟨e1, e2, e3⟩ := es_cd hk
  have h6 : k % 6 < 6 := Nat.mod_lt _ (by omega)
  have hs : k / 6 % 4 < 4 := Nat.mod_lt _ (by omega)
  have a1 : 70 + nI (k % 6) = nI (70 + k % 6) := nI_add 70 _
  have a2 : 76 + nI (k / 6 % 4) = nI (76 + k / 6 % 4) := nI_add 76 _
  have a3 : 80 + nI (k / 6 % 4) = nI (80 + k / 6 % 4) := nI_add 80 _
  unfold wpY_carryOut
  refine ⟨by decide, nm_r e2 ⟨by decide, by decide, nm_r e3 ?_⟩⟩
  rw [a1, a2, a3, nI_clamp (by omega), nI_clamp (by omega), nI_clamp (by omega), e1]
  refine ⟨vp_in_nI (by omega) (by omega), nm_e ⟨by decide, ?_⟩⟩
  refine ya_changed (by omega) ⟨vp_in_nI (by omega) (by omega), nm_e ⟨vp_in_nI (by omega) (by omega), nm_e ⟨vp_in_nI (by omega) (by omega), nm_e ?_⟩⟩⟩
  exact ya_step hq h1 h
theorem ya_choose {post : SY → Prop} {q l : Int32} (hq : es_qg p m g = q) (h1 : ¬ q = -1) (h : post (l, ip, hy, yc, yn, ya, yb, p, g, m, es_mk (es_in p m g q) c 5, cy)) : wpY_choose post (ly, ip, hy, yc, yn, ya, yb, p, g, m, c, cy) l := by
  unfold wpY_choose
  exact ya_step hq h1 h
theorem ya_96 {post : SY → Prop} {q : Int32} {h : Nat → Bool} (hq : es_qg p m g = q) (h1 : ¬ q = -1) (H : ∀ n, n < 5 → (h n = true ↔ es_in p m g q n = true ∧ ¬ c n = 0 ∧ ¬ (¬ ip = 0 ∧ nI n = hy))) (hp : post (es_fr h 5, 0, hy, yc, yn, ya, yb, p, g, m, es_mk (es_in p m g q) c 5, cy)) : ∀ i, i ≤ 5 → wY_elect_96 post ly ip hy yc yn ya yb p g m c cy (i + 1) (es_fr h (5 - i)) (nI i + (-1))
  | 0, _ => br_t (by decide) (ya_choose hq h1 hp)
  | i + 1, hi => by
    have rr := ya_96 hq h1 H hp i (by omega)
    have hi : i < 5 := by omega
    have e : (nI i).toNatClampNeg = i := nI_clamp (by omega)
    have ef : es_fr h (5 - i) = if h i then nI i else es_fr h (5 - (i + 1)) := by
      rw [show 5 - i = (4 - i) + 1 from by omega, show 5 - (i + 1) = 4 - i from by omega]
      simp only [es_fr]
      rw [show 4 - (4 - i) = i from by omega]
    rw [ef] at rr
    rw [pk_m1]
    by_cases z : h i = true
    · rw [if_pos z] at rr
      obtain ⟨z1, z2, z3⟩ := (H _ hi).mp z
      refine br_f (nI_pos (by omega)) (ya_in hq h1 hi (fun _ => br_f (by decide) ⟨vp_in_nI hi (by omega), br_f (by rw [e]; exact z2) (br_c (fun _ => nm_e rr) (fun a => br_f (fun b => z3 ⟨a, b⟩) (nm_e rr)))⟩) (fun w => absurd z1 (by rw [w]; decide)))
    · rw [if_neg z] at rr
      refine br_f (nI_pos (by omega)) (ya_in hq h1 hi (fun w => br_f (by decide) ⟨vp_in_nI hi (by omega), br_c (fun _ => nm_e rr) (fun a => br_c (fun b => absurd ((H _ hi).mpr ⟨w, ?_, fun y => y.1 b⟩) z) (fun b => br_c (fun _ => nm_e rr) (fun d => absurd ((H _ hi).mpr ⟨w, ?_, fun y => d y.2⟩) z)))⟩) (fun _ => br_t rfl (nm_e rr)))
      · rw [e] at a; exact a
      · rw [e] at a; exact a
theorem ya_elN {post : SY → Prop} {q : Int32} {h k : Nat} (hq : es_qg p m g = q) (h1 : ¬ q = -1) (hh : h < 5) (hk : k < 72) (nd : es_nd p m g q h = true) (hp : post (nI h, 0, nI h, nI k, yn, ya, yb, p, g, m, es_mk (es_in p m g q) c 5, es_dy cy k yn ya yb)) : wpY_elect post (ly, 1, nI h, nI k, yn, ya, yb, p, g, m, c, cy) := by
  have a : es_in p m g q h = true := by
    unfold es_nd at nd; exact (Bool.and_eq_true _ _ ▸ nd).1
  have l : ¬ nI (es_cnt (es_me m) 5) < 2 * (nI (es_cnt (es_in p m g q) 5) - 1) := by
    rw [es_less1 hh a, ← es_nd_iff a, nd]; decide
  unfold wpY_elect
  refine br_f (by decide) (ya_in hq h1 hh (fun _ => br_f (by decide) ?_) (fun w => absurd a (by rw [w]; decide)))
  refine br_f (by decide) (ya_q ?_)
  rw [hq]
  refine ya_cu (ya_cm (br_f l ?_))
  refine br_f (by decide) (ya_choose hq h1 (ya_carry hq h1 hk ?_))
  rw [es_mk2]
  exact hp
theorem ya_el51 {post : SY → Prop} {q : Int32} {hh : Nat → Bool} (hq : es_qg p m g = q) (h1 : ¬ q = -1) (H : ∀ n, n < 5 → (hh n = true ↔ es_in p m g q n = true ∧ ¬ c n = 0 ∧ ¬ (¬ ip = 0 ∧ nI n = hy))) (hp : post (es_fr hh 5, 0, hy, yc, yn, ya, yb, p, g, m, es_mk (es_in p m g q) c 5, cy)) : wY_elect_51 post ly ip hy yc yn ya yb p g m c cy :=
  br_t rfl ⟨6, ya_96 hq h1 H hp 5 (by omega)⟩
theorem ya_elL {post : SY → Prop} {q : Int32} {hh : Nat → Bool} (hq : es_qg p m g = q) (h1 : ¬ q = -1) (w : ip = 0 ∨ ∃ h, h < 5 ∧ ip = 1 ∧ hy = nI h ∧ es_nd p m g q h = false) (H : ∀ n, n < 5 → (hh n = true ↔ es_in p m g q n = true ∧ ¬ c n = 0 ∧ ¬ (¬ ip = 0 ∧ nI n = hy))) (hp : post (es_fr hh 5, 0, hy, yc, yn, ya, yb, p, g, m, es_mk (es_in p m g q) c 5, cy)) : wpY_elect post (ly, ip, hy, yc, yn, ya, yb, p, g, m, c, cy) := by
  have k51 := ya_el51 (ly := ly) hq h1 H hp
  unfold wpY_elect
  rcases w with rfl | ⟨h, hh5, rfl, rfl, nd⟩
  · exact br_t rfl (br_t rfl k51)
  · refine br_f (by decide) (ya_in hq h1 hh5 (fun a => br_f (by decide) ?_) (fun a => br_t rfl (br_t rfl k51)))
    refine br_f (by decide) (ya_q ?_)
    rw [hq]
    exact ya_cu (ya_cm (br_t ((es_less1 hh5 a).mpr ((es_nd_iff a).mp nd)) k51))
theorem ya_59 {post : SY → Prop} {J : Int32 → (Nat → Int32) → (Nat → Int32) → (Nat → Int32) → (Nat → Int32) → (Nat → Int32) → Prop} {k : Nat} (hk : k < 5) (h : J (nI (k + 1)) p g m c (es_cq k cy 14)) : ∃ n, wY_settle_59 post J (nI k) ly ip hy yc yn ya yb n 0 p g m c cy := by
  refine loop_0 (fun n i (s : Nat → Int32) => wY_settle_59 post J (nI k) ly ip hy yc yn ya yb n (nI i) p g m c s) (fun i s => s = es_cq k cy i) 14 cy rfl ?_ ?_
  · intro n s hs; subst hs; exact br_t (nI_le (Nat.le_refl 14) (by omega)) (nm_r (nI_1 k) h)
  · intro n i s hi hs ih
    subst hs
    have a1 : 70 + nI i = nI (70 + i) := nI_add 70 _
    refine br_f (nI_ge (b := 14) hi (by omega)) ?_
    rw [a1, es_41, nI_clamp (by omega), nI_clamp (by omega)]
    exact ⟨vp_in_nI (by omega) (by omega), vp_in_nI (by omega) (by omega), nm_e (nm_r (nI_1 i) (ih _ rfl))⟩
theorem ya_37 {post : SY → Prop} {q : Int32} (hq : es_qg p m g = q) (h1 : ¬ q = -1) (h : post (ly, ip, hy, yc, yn, ya, yb, p, g, m, es_rc (es_in p m g q) c 5, es_rg (es_in p m g q) cy 5)) : ∃ n, wY_settle_37 post ly ip hy yc yn ya yb n 0 p g m c cy := by
  refine loop_0 (fun n i (s : (Nat → Int32) × (Nat → Int32)) => wY_settle_37 post ly ip hy yc yn ya yb n (nI i) p g m s.1 s.2) (fun i s => s = (es_rc (es_in p m g q) c i, es_rg (es_in p m g q) cy i)) 5 (c, cy) rfl ?_ ?_
  · intro n s hs; subst hs; exact br_t (nI_le (Nat.le_refl 5) (by omega)) h
  · intro n i s hi hs ih
    subst hs
    refine br_f (nI_ge (b := 5) hi (by omega)) (ya_in hq h1 hi (fun a => br_f (by decide) ⟨vp_in_nI hi (by omega), nm_e (ya_59 hi (ih (upd (es_rc (es_in p m g q) c i) (nI i).toNatClampNeg (vp_nar .boolean 1), es_cq i (es_rg (es_in p m g q) cy i) 14) ?_))⟩) (fun a => br_t rfl (nm_r (nI_1 i) (ih (es_rc (es_in p m g q) c i, es_rg (es_in p m g q) cy i) ?_))))
    · rw [nI_clamp (by omega), es_b1]; simp only [es_rc, es_rg]; rw [if_pos a, if_pos a]
    · simp only [es_rc, es_rg]; rw [a, if_neg (by decide), if_neg (by decide)]
theorem ya_s0 {post : SY → Prop} (hq : es_qg p m g = -1) (h : post (-1, ip, hy, yc, yn, ya, yb, p, g, m, c, cy)) : wpY_settle post (ly, ip, hy, yc, yn, ya, yb, p, g, m, c, cy) := by
  unfold wpY_settle
  refine ya_q ?_
  rw [hq]
  exact br_f (by decide) h
theorem ya_s1 {post : SY → Prop} {q : Int32} {n : Nat} (hq : es_qg p m g = q) (h1 : ¬ q = -1) (hn : n < 5) (hi : es_in p m g q n = true) (h : post (nI n, ip, hy, yc, yn, ya, yb, p, g, m, es_rc (es_in p m g q) c 5, es_rg (es_in p m g q) cy 5)) : wpY_settle post (nI n, ip, hy, yc, yn, ya, yb, p, g, m, c, cy) := by
  unfold wpY_settle
  refine ya_q ?_
  rw [hq]
  exact br_t (es_qn hq h1).2 (br_f (nI_pos (by omega)) (ya_in hq h1 hn (fun _ => br_f (by decide) (ya_37 hq h1 h)) (fun z => absurd hi (by rw [z]; decide))))
/-- a settling with a quorum whose leader is not in it -/
theorem ya_sE {post : SY → Prop} {q : Int32} (hq : es_qg p m g = q) (h1 : ¬ q = -1) (w : es_W ly) (o : ∀ n, n < 5 → ly = nI n → es_in p m g q n = false) (h : wY_settle_31 post ly ip hy yc yn ya yb p g m c cy) : wpY_settle post (ly, ip, hy, yc, yn, ya, yb, p, g, m, c, cy) := by
  unfold wpY_settle
  refine ya_q ?_
  rw [hq]
  refine br_t (es_qn hq h1).2 ?_
  rcases w with rfl | ⟨n, hn, rfl⟩
  · exact br_t (by decide) h
  · exact br_f (nI_pos (by omega)) (ya_in hq h1 hn (fun z => absurd z (by rw [o n hn rfl]; decide)) (fun _ => br_t rfl h))
theorem ya_sN {post : SY → Prop} {q : Int32} {h k : Nat} (hq : es_qg p m g = q) (h1 : ¬ q = -1) (w : es_W ly) (o : ∀ n, n < 5 → ly = nI n → es_in p m g q n = false) (hh : h < 5) (hk : k < 72) (nd : es_nd p m g q h = true)
    (hp : post (nI h, 0, nI h, nI k, yn, ya, yb, p, g, m, es_rc (es_in p m g q) (es_mk (es_in p m g q) c 5) 5, es_rg (es_in p m g q) (es_dy cy k yn ya yb) 5)) : wpY_settle post (ly, 1, nI h, nI k, yn, ya, yb, p, g, m, c, cy) := by
  refine ya_sE hq h1 w o ?_
  unfold wY_settle_31
  exact ya_elN hq h1 hh hk nd (ya_37 hq h1 hp)
theorem ya_sL {post : SY → Prop} {q : Int32} {hh : Nat → Bool} (hq : es_qg p m g = q) (h1 : ¬ q = -1) (wl : es_W ly) (o : ∀ n, n < 5 → ly = nI n → es_in p m g q n = false) (w : ip = 0 ∨ ∃ h, h < 5 ∧ ip = 1 ∧ hy = nI h ∧ es_nd p m g q h = false) (H : ∀ n, n < 5 → (hh n = true ↔ es_in p m g q n = true ∧ ¬ c n = 0 ∧ ¬ (¬ ip = 0 ∧ nI n = hy)))
    (hp : post (es_fr hh 5, 0, hy, yc, yn, ya, yb, p, g, m, es_rc (es_in p m g q) (es_mk (es_in p m g q) c 5) 5, es_rg (es_in p m g q) cy 5)) : wpY_settle post (ly, ip, hy, yc, yn, ya, yb, p, g, m, c, cy) := by
  refine ya_sE hq h1 wl o ?_
  unfold wY_settle_31
  exact ya_elL hq h1 w H (ya_37 hq h1 hp)
end
end
section
/-- the relation: the same nodes, the same leader, the state and the copies as they lie in the reference's row, the same pending command, and the invariant -/
def es_R (u : SX) (v : SY) : Prop := ∃ (ld hx pc pn pa pb : Int32) (p m c g st cx : Nat → Int32) (ip hy yc yn ya yb : Int32) (cy : Nat → Int32), u = (ld, hx, pc, pn, pa, pb, p, m, c, g, st, cx) ∧ v = (ld, ip, hy, yc, yn, ya, yb, p, g, m, c, cy) ∧ es_C st cx cy ∧ es_P hx pc pn pa pb ip hy yc yn ya yb ∧ es_I ld hx p m c g
section
variable {ld hx pc pn pa pb ly ip hy yc yn ya yb : Int32} {p m c g st cx cy : Nat → Int32}
theorem es_PW (P : es_P hx pc pn pa pb ip hy yc yn ya yb) : es_W hx := by
  rcases P with ⟨h, _⟩ | ⟨h, k, hh, _, e, _⟩
  · exact Or.inl h
  · exact Or.inr ⟨h, hh, e⟩
theorem es_P0 {a b d e f i j o r : Int32} : es_P (-1) a b d e 0 f i j o r := Or.inl ⟨rfl, rfl⟩
theorem es_J_of {q : Int32} (K : ∀ n, n < 5 → es_in p m g q n = true → ¬ c n = 0) (Q : es_Q p m g q = true) : es_J m c := by
  have a := es_Q_iff.mp Q
  have b := es_cnt_mono (f := es_in p m g q) (h := fun n => es_me m n && decide (¬ c n = 0)) 5 (fun j hj z => by
    show (es_me m j && decide (¬ c j = 0)) = true
    rw [es_in_me z, decide_eq_true (K j hj z)]; rfl)
  unfold es_J
  omega
/-- a new leader is found -/
theorem es_se {q : Int32} (J : es_J m c) (Q : es_Q p m g q = true) (w : es_W hx) (nd : ∀ h, h < 5 → hx = nI h → es_nd p m g q h = false) : ∃ n, n < 5 ∧ es_in p m g q n = true ∧ ¬ c n = 0 ∧ ¬ nI n = hx := by
  have hc : ∀ j, j < 5 → (fun n => es_me m n && decide (¬ c n = 0)) j = true → es_me m j = true := fun j _ z => (Bool.and_eq_true _ _ ▸ z).1
  have hd : ∀ j, (fun n => es_me m n && decide (¬ c n = 0)) j = true → ¬ c j = 0 := fun j z => of_decide_eq_true (Bool.and_eq_true _ _ ▸ z).2
  rcases w with rfl | ⟨h, hh, rfl⟩
  · obtain ⟨n, hn, a, b⟩ := es_meet (fun j _ z => es_in_me z) hc (es_Q_iff.mp Q) J
    exact ⟨n, hn, a, hd n b, es_n1 hn⟩
  · cases a : es_in p m g q h with
    | true =>
      have l := (es_nd_iff a).mp (nd h hh rfl)
      have l2 := es_less (es_in p m g q) h 5
      rw [if_pos hh] at l2
      obtain ⟨n, hn, z, b⟩ := es_meet (f := fun j => es_in p m g q j && !decide (j = h)) (m := es_me m) (fun j _ z => es_in_me (Bool.and_eq_true _ _ ▸ z).1) hc (by omega) J
      have z2 := (Bool.and_eq_true _ _ ▸ z)
      refine ⟨n, hn, z2.1, hd n b, fun e => ?_⟩
      rw [nI_eq (by omega) (by omega)] at e
      have z3 := z2.2
      rw [decide_eq_true e] at z3
      exact absurd z3 (by decide)
    | false =>
      obtain ⟨n, hn, z, b⟩ := es_meet (fun j _ z => es_in_me z) hc (es_Q_iff.mp Q) J
      refine ⟨n, hn, z, hd n b, fun e => ?_⟩
      rw [nI_eq (by omega) (by omega)] at e
      rw [e, a] at z
      exact absurd z (by decide)
/-- the invariant behind a settling with a quorum -/
theorem es_I_of {q : Int32} {n : Nat} {d : Nat → Int32} (hq : es_qg p m g = q) (h1 : ¬ q = -1) (hn : n < 5) (hi : es_in p m g q n = true) (mb : ∀ n, n < 5 → m n = 0 ∨ m n = 1) : es_I (nI n) (-1) p m (es_rc (es_in p m g q) d 5) g := by
  have K : ∀ n, n < 5 → es_in p m g q n = true → ¬ es_rc (es_in p m g q) d 5 n = 0 := fun n hn z => by
    rw [es_rc_at, if_pos ⟨hn, z⟩]; decide
  have Q : es_Q p m g q = true := by
    have := (es_qg_Q (p := p) (m := m) (g := g) (by rw [hq]; exact h1)).1
    rw [hq] at this; exact this
  refine ⟨Or.inr ⟨n, hn, rfl⟩, fun _ => ?_, es_J_of K Q, fun _ => rfl, mb⟩
  rw [hq]
  exact ⟨⟨n, hn, rfl, hi⟩, K⟩
theorem sb_settle {q : Int32} (hq : es_qg p m g = q) (C : es_C st cx cy) (P : es_P hx pc pn pa pb ip hy yc yn ya yb) (wl : es_W ld)
    (hl : ly = ld ∨ (ly = -1 ∧ ¬ q = -1 ∧ ∀ n, n < 5 → ld = nI n → es_in p m g q n = false))
    (sp : ¬ q = -1 → ∀ n, n < 5 → ld = nI n → es_in p m g q n = true → hx = -1)
    (sj : q = -1 → es_J m c)
    (se : ¬ q = -1 → (∀ n, n < 5 → ld = nI n → es_in p m g q n = false) → (∀ h, h < 5 → hx = nI h → es_nd p m g q h = false) → ∃ n, n < 5 ∧ es_in p m g q n = true ∧ ¬ c n = 0 ∧ ¬ nI n = hx)
    (mb : ∀ n, n < 5 → m n = 0 ∨ m n = 1) :
    ∃ (u : SX) (v : SY), es_R u v ∧ (∀ post : SX → Prop, post u → wpX_settle post (ld, hx, pc, pn, pa, pb, p, m, c, g, st, cx)) ∧ (∀ post : SY → Prop, post v → wpY_settle post (ly, ip, hy, yc, yn, ya, yb, p, g, m, c, cy)) := by
  by_cases h1 : q = -1
  · subst h1
    exact ⟨_, _, ⟨_, _, _, _, _, _, _, _, _, _, _, _, _, _, _, _, _, _, _, rfl, rfl, C, P, Or.inl rfl, fun z => absurd hq z, sj rfl, fun z => absurd rfl z, mb⟩, fun post h => xa_s0 hq h, fun post h => ya_s0 hq h⟩
  · by_cases hin : ∃ n, n < 5 ∧ ld = nI n ∧ es_in p m g q n = true
    · obtain ⟨n, hn, rfl, hi⟩ := hin
      have e : hx = -1 := sp h1 n hn rfl hi
      subst e
      have e : ly = nI n := by
        rcases hl with e | ⟨_, _, o⟩
        · exact e
        · exact absurd hi (by rw [o n hn rfl]; decide)
      subst e
      exact ⟨_, _, ⟨_, _, _, _, _, _, _, _, _, _, _, _, _, _, _, _, _, _, _, rfl, rfl, es_C_rf C 5 (Nat.le_refl 5), P, es_I_of hq h1 hn hi mb⟩, fun post h => xa_s1 hq h1 hn hi h, fun post h => ya_s1 hq h1 hn hi h⟩
    · have o : ∀ n, n < 5 → ld = nI n → es_in p m g q n = false := fun n hn e => by
        cases z : es_in p m g q n with
        | false => rfl
        | true => exact absurd ⟨n, hn, e, z⟩ hin
      have wy : es_W ly := by
        rcases hl with e | ⟨e, _⟩
        · rw [e]; exact wl
        · exact Or.inl e
      have oy : ∀ n, n < 5 → ly = nI n → es_in p m g q n = false := by
        rcases hl with e | ⟨e, _⟩
        · rw [e]; exact o
        · intro n hn e2; exact absurd (e2.symm.trans e) (es_n1 hn)
      rcases P with ⟨rfl, rfl⟩ | ⟨h, k, hh, hk, rfl, rfl, rfl, rfl, rfl, rfl, rfl, rfl⟩
      · have nd : ∀ h, h < 5 → (-1 : Int32) = nI h → es_nd p m g q h = false := fun h hh e => absurd e.symm (es_n1 hh)
        have H : ∀ n, n < 5 → ((fun n => es_in p m g q n && decide (¬ c n = 0)) n = true ↔ es_in p m g q n = true ∧ ¬ c n = 0 ∧ ¬ nI n = -1) := fun n hn => by
          rw [Bool.and_eq_true, decide_eq_true_iff]
          exact ⟨fun z => ⟨z.1, z.2, es_n1 hn⟩, fun z => ⟨z.1, z.2.1⟩⟩
        have H2 : ∀ n, n < 5 → ((fun n => es_in p m g q n && decide (¬ c n = 0)) n = true ↔ es_in p m g q n = true ∧ ¬ c n = 0 ∧ ¬ (¬ (0 : Int32) = 0 ∧ nI n = hy)) := fun n hn => by
          rw [Bool.and_eq_true, decide_eq_true_iff]
          exact ⟨fun z => ⟨z.1, z.2, fun y => y.1 rfl⟩, fun z => ⟨z.1, z.2.1⟩⟩
        obtain ⟨n, hn, z1, z2, z3⟩ := se h1 o nd
        obtain ⟨n, hn, z, ef⟩ := es_fr_some (h := fun n => es_in p m g q n && decide (¬ c n = 0)) 5 (Nat.le_refl 5) ⟨n, by omega, hn, (H n hn).mpr ⟨z1, z2, z3⟩⟩
        have hi := ((H n hn).mp z).1
        refine ⟨_, _, ?_, fun post h => xa_sL hq h1 wl o (Or.inl rfl) nd H h, fun post h => ya_sL hq h1 wy oy (Or.inl rfl) H2 h⟩
        rw [ef]
        exact ⟨_, _, _, _, _, _, _, _, _, _, _, _, _, _, _, _, _, _, _, rfl, rfl, es_C_rf C 5 (Nat.le_refl 5), es_P0, es_I_of hq h1 hn hi mb⟩
      · cases nd : es_nd p m g q h with
        | true =>
          have hi : es_in p m g q h = true := by
            unfold es_nd at nd; exact (Bool.and_eq_true _ _ ▸ nd).1
          exact ⟨_, _, ⟨_, _, _, _, _, _, _, _, _, _, _, _, _, _, _, _, _, _, _, rfl, rfl, es_C_rf (es_C_d C k _ _ _) 5 (Nat.le_refl 5), es_P0, es_I_of hq h1 hh hi mb⟩, fun post z => xa_sN hq h1 wl o hh hk nd z, fun post z => ya_sN hq h1 wy oy hh hk nd z⟩
        | false =>
          have nd2 : ∀ j, j < 5 → nI h = nI j → es_nd p m g q j = false := fun j hj e => by
            rw [nI_eq (by omega) (by omega)] at e
            subst e; exact nd
          have H : ∀ n, n < 5 → ((fun n => es_in p m g q n && (decide (¬ c n = 0) && decide (¬ nI n = nI h))) n = true ↔ es_in p m g q n = true ∧ ¬ c n = 0 ∧ ¬ nI n = nI h) := fun n hn => by
            rw [Bool.and_eq_true, Bool.and_eq_true, decide_eq_true_iff, decide_eq_true_iff]
          have H2 : ∀ n, n < 5 → ((fun n => es_in p m g q n && (decide (¬ c n = 0) && decide (¬ nI n = nI h))) n = true ↔ es_in p m g q n = true ∧ ¬ c n = 0 ∧ ¬ (¬ (1 : Int32) = 0 ∧ nI n = nI h)) := fun n hn => by
            rw [Bool.and_eq_true, Bool.and_eq_true, decide_eq_true_iff, decide_eq_true_iff]
            exact ⟨fun z => ⟨z.1, z.2.1, fun y => z.2.2 y.2⟩, fun z => ⟨z.1, z.2.1, fun y => z.2.2 ⟨by decide, y⟩⟩⟩
          obtain ⟨n, hn, z1, z2, z3⟩ := se h1 o nd2
          obtain ⟨n, hn, z, ef⟩ := es_fr_some (h := fun n => es_in p m g q n && (decide (¬ c n = 0) && decide (¬ nI n = nI h))) 5 (Nat.le_refl 5) ⟨n, by omega, hn, (H n hn).mpr ⟨z1, z2, z3⟩⟩
          have hi := ((H n hn).mp z).1
          refine ⟨_, _, ?_, fun post z => xa_sL hq h1 wl o (Or.inr ⟨h, hh, rfl⟩) nd2 H z, fun post z => ya_sL hq h1 wy oy (Or.inr ⟨h, hh, rfl, rfl, nd⟩) H2 z⟩
          rw [ef]
          exact ⟨_, _, _, _, _, _, _, _, _, _, _, _, _, _, _, _, _, _, _, rfl, rfl, es_C_rf C 5 (Nat.le_refl 5), es_P0, es_I_of hq h1 hn hi mb⟩
/-- behind any change of who is up and where -/
theorem sb_any (a b : Nat → Int32) (C : es_C st cx cy) (P : es_P hx pc pn pa pb ip hy yc yn ya yb) (I : es_I ld hx p m c g) :
    ∃ (u : SX) (v : SY), es_R u v ∧ (∀ post : SX → Prop, post u → wpX_settle post (ld, hx, pc, pn, pa, pb, a, m, c, b, st, cx)) ∧ (∀ post : SY → Prop, post v → wpY_settle post (ld, ip, hy, yc, yn, ya, yb, a, b, m, c, cy)) := by
  obtain ⟨wl, _, J, hP, mb⟩ := I
  refine sb_settle rfl C P wl (Or.inl rfl) (fun _ n hn e _ => hP (by rw [e]; exact es_n1 hn)) (fun _ => J) (fun h1 _ nd => es_se J (es_qg_Q h1).1 (es_PW P) nd) mb
end
end
section
def i_Rel (k : Nat) (u : SX) (v : SY) : Prop := es_R u v
theorem i_up {k : Nat} {u : SX} {v : SY} (h : i_Rel k u v) : i_Rel (k + 5) u v := h
theorem es_ix (l : Int32) {N : Nat} (h : N < 2 ^ 31) : (l < 0 ∨ nI N ≤ l) ∨ ∃ n, n < N ∧ l = nI n := by
  rcases pk_ix l h with z | z | z
  · exact Or.inl (Or.inl z)
  · exact Or.inl (Or.inr z)
  · exact Or.inr z
theorem es_gap {a : Nat} {l : Int32} (ha : a + 1 < 2 ^ 31) (h : nI (a + 1) ≤ l) : ¬ l ≤ nI a := by
  rw [Int32.le_iff_toInt_le, nI_toInt (by omega)] at *
  omega
theorem ix_init {post : SX → Prop} (h : post (0, -1, 0, 0, 0, 0, es_rc (fun _ => true) (fun _ => 0) 5, es_rc (fun _ => true) (fun _ => 0) 5, es_rc (fun _ => true) (fun _ => 0) 5, fun _ => 0, fun _ => 0, fun _ => 0)) : wpX_init post := by
  refine loop_0 (fun n i (s : Nat → Int32) => wX_init_50 post 0 0 0 0 0 0 n (nI i) s s s (fun _ => 0) (fun _ => 0) (fun _ => 0)) (fun i s => s = es_rc (fun _ => true) (fun _ => 0) i) 5 (fun _ => 0) rfl ?_ ?_
  · intro n s hs; subst hs; exact br_t (nI_le (Nat.le_refl 5) (by omega)) h
  · intro n i s hi hs ih
    subst hs
    have v : vp_in (nI i) 5 := vp_in_nI hi (by omega)
    have e : upd (es_rc (fun _ => true) (fun _ => 0) i) (nI i).toNatClampNeg (vp_nar .boolean 1) = es_rc (fun _ => true) (fun _ => 0) (i + 1) := by
      rw [nI_clamp (by omega), es_b1]; simp only [es_rc]; rfl
    exact br_f (nI_ge (b := 5) hi (by omega)) ⟨v, nm_r e ⟨v, nm_r e ⟨v, nm_r e (nm_r (nI_1 i) (ih _ rfl))⟩⟩⟩
theorem iy_init {post : SY → Prop} (h : post (0, 0, 0, 0, 0, 0, 0, es_rc (fun _ => true) (fun _ => 0) 5, fun _ => 0, es_rc (fun _ => true) (fun _ => 0) 5, es_rc (fun _ => true) (fun _ => 0) 5, fun _ => 0)) : wpY_init post := by
  refine loop_0 (fun n i (s : Nat → Int32) => wY_init_42 post 0 0 0 0 0 0 0 n (nI i) s (fun _ => 0) s s (fun _ => 0)) (fun i s => s = es_rc (fun _ => true) (fun _ => 0) i) 5 (fun _ => 0) rfl ?_ ?_
  · intro n s hs; subst hs; exact br_t (nI_le (Nat.le_refl 5) (by omega)) h
  · intro n i s hi hs ih
    subst hs
    have v : vp_in (nI i) 5 := vp_in_nI hi (by omega)
    have e : upd (es_rc (fun _ => true) (fun _ => 0) i) (nI i).toNatClampNeg (vp_nar .boolean 1) = es_rc (fun _ => true) (fun _ => 0) (i + 1) := by
      rw [nI_clamp (by omega), es_b1]; simp only [es_rc]; rfl
    exact br_f (nI_ge (b := 5) hi (by omega)) ⟨v, nm_r e ⟨v, nm_r e ⟨v, nm_r e (nm_r (nI_1 i) (ih _ rfl))⟩⟩⟩
theorem es_I0 : es_I 0 (-1) (es_rc (fun _ => true) (fun _ => 0) 5) (es_rc (fun _ => true) (fun _ => 0) 5) (es_rc (fun _ => true) (fun _ => 0) 5) (fun _ => 0) := by
  refine es_I_of (n := 0) (d := fun _ => 0) (q := 0) ?_ (by decide) (by omega) ?_ ?_
  · decide +kernel
  · decide +kernel
  · intro n hn; rw [es_rc_at, if_pos ⟨hn, rfl⟩]; exact Or.inr rfl
theorem i_vc0 : wpX_init (fun u => wpY_init (fun v => i_Rel 0 u v)) :=
  ix_init (iy_init ⟨_, _, _, _, _, _, _, _, _, _, _, _, _, _, _, _, _, _, _, rfl, rfl, ⟨fun _ _ => rfl, fun _ _ => rfl⟩, es_P0, es_I0⟩)
section
variable {ld hx pc pn pa pb ly ip hy yc yn ya yb : Int32} {p m c g st cx cy : Nat → Int32} {post : Int32 → Prop} {l : Int32}
theorem xa_node {n : Nat} (hn : n < 5) (h : post 1) : wpX_isNode post (ld, hx, pc, pn, pa, pb, p, m, c, g, st, cx) (nI n) := br_f (nI_pos (by omega)) (br_f (nI_ge (b := 5) hn (by omega)) h)
theorem xa_nodeB (b : l < 0 ∨ nI 5 ≤ l) (h : post 0) : wpX_isNode post (ld, hx, pc, pn, pa, pb, p, m, c, g, st, cx) l := by
  by_cases z : l < 0
  · exact br_t z h
  · exact br_f z (br_t (b.resolve_left z) h)
theorem xa_key {n : Nat} (hn : n < 6) (h : post 1) : wpX_isKey post (ld, hx, pc, pn, pa, pb, p, m, c, g, st, cx) (nI n) := br_f (nI_pos (by omega)) (br_f (nI_ge (b := 6) hn (by omega)) h)
theorem xa_keyB (b : l < 0 ∨ nI 6 ≤ l) (h : post 0) : wpX_isKey post (ld, hx, pc, pn, pa, pb, p, m, c, g, st, cx) l := by
  by_cases z : l < 0
  · exact br_t z h
  · exact br_f z (br_t (b.resolve_left z) h)
theorem xa_ses {n : Nat} (hn : n < 4) (h : post 1) : wpX_isSession post (ld, hx, pc, pn, pa, pb, p, m, c, g, st, cx) (nI n) := br_f (nI_pos (by omega)) (br_f (nI_ge (b := 4) hn (by omega)) h)
theorem xa_sesB (b : l < 0 ∨ nI 4 ≤ l) (h : post 0) : wpX_isSession post (ld, hx, pc, pn, pa, pb, p, m, c, g, st, cx) l := by
  by_cases z : l < 0
  · exact br_t z h
  · exact br_f z (br_t (b.resolve_left z) h)
theorem ya_badB (b : l < 0 ∨ nI 5 ≤ l) (h : post 1) : wpY_badNode post (ly, ip, hy, yc, yn, ya, yb, p, g, m, c, cy) l := by
  by_cases z : l < 0
  · exact br_t z h
  · exact br_f z (br_f (es_gap (a := 4) (by omega) (b.resolve_left z)) h)
theorem ya_key {n : Nat} (hn : n < 6) (h : post 0) : wpY_badKey post (ly, ip, hy, yc, yn, ya, yb, p, g, m, c, cy) (nI n) :=
  br_f (nI_pos (by omega)) (br_t (nI_le (b := 5) (by omega) (by omega)) h)
theorem ya_keyB (b : l < 0 ∨ nI 6 ≤ l) (h : post 1) : wpY_badKey post (ly, ip, hy, yc, yn, ya, yb, p, g, m, c, cy) l := by
  by_cases z : l < 0
  · exact br_t z h
  · exact br_f z (br_f (es_gap (a := 5) (by omega) (b.resolve_left z)) h)
theorem ya_ses {n : Nat} (hn : n < 4) (h : post 0) : wpY_badSession post (ly, ip, hy, yc, yn, ya, yb, p, g, m, c, cy) (nI n) :=
  br_f (nI_pos (by omega)) (br_t (nI_le (b := 3) (by omega) (by omega)) h)
theorem ya_sesB (b : l < 0 ∨ nI 4 ≤ l) (h : post 1) : wpY_badSession post (ly, ip, hy, yc, yn, ya, yb, p, g, m, c, cy) l := by
  by_cases z : l < 0
  · exact br_t z h
  · exact br_f z (br_f (es_gap (a := 3) (by omega) (b.resolve_left z)) h)
end
theorem i_vc_isUp {k : Nat} {u : SX} {v : SY} (I : i_Rel k u v) (hk : k + 5 ≤ 2560) (v1 : Int32) : wpX_isUp (fun r => wpY_isUp (fun r' => r' = r ∧ i_Rel (k + 5) u v) v v1) u v1 := by
  have R : i_Rel (k + 5) u v := I
  obtain ⟨ld, hx, pc, pn, pa, pb, p, m, c, g, st, cx, ip, hy, yc, yn, ya, yb, cy, rfl, rfl, C, P, I⟩ := I
  unfold wpX_isUp wpY_isUp
  rcases es_ix v1 (N := 5) (by omega) with b | ⟨n, hn, rfl⟩
  · exact xa_nodeB b (br_t rfl (ya_badB b (br_f (by decide) ⟨rfl, R⟩)))
  · have v : vp_in (nI n) 5 := vp_in_nI hn (by omega)
    exact xa_node hn (br_f (by decide) ⟨v, br_c (fun z => ya_bad hn (br_t rfl ⟨v, br_t z ⟨rfl, R⟩⟩)) (fun z => ya_bad hn (br_t rfl ⟨v, br_f z ⟨rfl, R⟩⟩))⟩)
theorem i_vc_isMember {k : Nat} {u : SX} {v : SY} (I : i_Rel k u v) (hk : k + 5 ≤ 2560) (v1 : Int32) : wpX_isMember (fun r => wpY_isMember (fun r' => r' = r ∧ i_Rel (k + 5) u v) v v1) u v1 := by
  have R : i_Rel (k + 5) u v := I
  obtain ⟨ld, hx, pc, pn, pa, pb, p, m, c, g, st, cx, ip, hy, yc, yn, ya, yb, cy, rfl, rfl, C, P, I⟩ := I
  unfold wpX_isMember wpY_isMember
  rcases es_ix v1 (N := 5) (by omega) with b | ⟨n, hn, rfl⟩
  · exact xa_nodeB b (br_t rfl (ya_badB b (br_f (by decide) ⟨rfl, R⟩)))
  · have v : vp_in (nI n) 5 := vp_in_nI hn (by omega)
    exact xa_node hn (br_f (by decide) ⟨v, br_c (fun z => ya_bad hn (br_t rfl ⟨v, br_t z ⟨rfl, R⟩⟩)) (fun z => ya_bad hn (br_t rfl ⟨v, br_f z ⟨rfl, R⟩⟩))⟩)
theorem i_vc_leader {k : Nat} {u : SX} {v : SY} (I : i_Rel k u v) (hk : k + 5 ≤ 2560) : wpX_leader (fun r => wpY_leader (fun r' => r' = r ∧ i_Rel (k + 5) u v) v) u := by
  have R : i_Rel (k + 5) u v := I
  obtain ⟨ld, hx, pc, pn, pa, pb, p, m, c, g, st, cx, ip, hy, yc, yn, ya, yb, cy, rfl, rfl, C, P, I⟩ := I
  rcases I.1 with rfl | ⟨n, hn, rfl⟩
  · exact br_t rfl (br_f (by decide) ⟨rfl, R⟩)
  · exact br_f (es_n1 hn) (br_t (nI_pos' (by omega)) ⟨rfl, R⟩)
theorem i_vc_pending {k : Nat} {u : SX} {v : SY} (I : i_Rel k u v) (hk : k + 5 ≤ 2560) : wpX_pending (fun r => wpY_pending (fun r' => r' = r ∧ i_Rel (k + 5) u v) v) u := by
  have R : i_Rel (k + 5) u v := I
  obtain ⟨ld, hx, pc, pn, pa, pb, p, m, c, g, st, cx, ip, hy, yc, yn, ya, yb, cy, rfl, rfl, C, P, I⟩ := I
  rcases P with ⟨rfl, rfl⟩ | ⟨h, k, hh, hk, rfl, rfl, rfl, rfl, rfl, rfl, rfl, rfl⟩
  · exact br_t rfl (br_t rfl ⟨rfl, R⟩)
  · exact br_f (es_n1 hh) (br_f (by decide) ⟨rfl, R⟩)
theorem i_vc_get {k : Nat} {u : SX} {v : SY} (I : i_Rel k u v) (hk : k + 5 ≤ 2560) (v1 : Int32) : wpX_get (fun r => wpY_get (fun r' => r' = r ∧ i_Rel (k + 5) u v) v v1) u v1 := by
  have R : i_Rel (k + 5) u v := I
  obtain ⟨ld, hx, pc, pn, pa, pb, p, m, c, g, st, cx, ip, hy, yc, yn, ya, yb, cy, rfl, rfl, C, P, I⟩ := I
  unfold wpX_get wpY_get
  rcases es_ix v1 (N := 6) (by omega) with b | ⟨n, hn, rfl⟩
  · exact xa_keyB b (br_t rfl (ya_keyB b (br_f (by decide) ⟨rfl, R⟩)))
  · refine xa_key hn (br_f (by decide) (xa_qg ?_))
    by_cases hq : es_qg p m g = -1
    · refine br_t hq (ya_key hn (br_t rfl (ya_q ?_)))
      rw [hq]; exact br_f (by decide) ⟨rfl, R⟩
    · refine br_f hq ⟨vp_in_nI (by omega) (by omega), ya_key hn (br_t rfl (ya_q (br_t (es_qn rfl hq).2 ?_)))⟩
      rw [show 70 + nI n = nI (70 + n) from nI_add 70 n, nI_clamp (by omega), nI_clamp (by omega)]
      exact ⟨vp_in_nI (by omega) (by omega), C.2 n (by omega), R⟩
theorem i_vc_canGet {k : Nat} {u : SX} {v : SY} (I : i_Rel k u v) (hk : k + 5 ≤ 2560) (v1 : Int32) : wpX_canGet (fun r => wpY_canGet (fun r' => r' = r ∧ i_Rel (k + 5) u v) v v1) u v1 := by
  have R : i_Rel (k + 5) u v := I
  obtain ⟨ld, hx, pc, pn, pa, pb, p, m, c, g, st, cx, ip, hy, yc, yn, ya, yb, cy, rfl, rfl, C, P, I⟩ := I
  unfold wpX_canGet wpY_canGet
  rcases es_ix v1 (N := 6) (by omega) with b | ⟨n, hn, rfl⟩
  · refine xa_keyB b (br_t rfl (ya_q ?_))
    exact br_c (fun _ => ya_keyB b (br_f (by decide) ⟨rfl, R⟩)) (fun _ => ya_keyB b (br_f (by decide) ⟨rfl, R⟩))
  · refine xa_key hn (br_f (by decide) (xa_qg ?_))
    by_cases hq : es_qg p m g = -1
    · refine br_t hq (ya_q ?_)
      rw [hq]; exact br_f (by decide) (ya_key hn (br_t rfl ⟨rfl, R⟩))
    · exact br_f hq (ya_q (br_t (es_qn rfl hq).2 (ya_key hn (br_t rfl ⟨rfl, R⟩))))
theorem i_vc_local {k : Nat} {u : SX} {v : SY} (I : i_Rel k u v) (hk : k + 5 ≤ 2560) (v1 : Int32) (v2 : Int32) : wpX_local (fun r => wpY_local (fun r' => r' = r ∧ i_Rel (k + 5) u v) v v1 v2) u v1 v2 := by
  have R : i_Rel (k + 5) u v := I
  obtain ⟨ld, hx, pc, pn, pa, pb, p, m, c, g, st, cx, ip, hy, yc, yn, ya, yb, cy, rfl, rfl, C, P, I⟩ := I
  unfold wpX_local wpY_local
  rcases es_ix v1 (N := 5) (by omega) with b | ⟨n, hn, rfl⟩
  · exact xa_nodeB b (br_t rfl (ya_badB b (br_f (by decide) ⟨rfl, R⟩)))
  · rcases es_ix v2 (N := 6) (by omega) with b | ⟨j, hj, rfl⟩
    · exact xa_node hn (br_f (by decide) (xa_keyB b (br_t rfl (ya_bad hn (br_t rfl (ya_keyB b (br_f (by decide) ⟨rfl, R⟩)))))))
    · refine xa_node hn (br_f (by decide) (xa_key hj (br_f (by decide) ?_)))
      rw [es_14, nI_clamp (by omega)]
      refine ⟨vp_in_nI (by omega) (by omega), ya_bad hn (br_t rfl (ya_key hj (br_t rfl ?_)))⟩
      rw [es_41, nI_clamp (by omega), show 14 * n + j = n * 14 + j from by omega]
      exact ⟨vp_in_nI (by omega) (by omega), C.1 _ (by omega), R⟩
theorem es_14a (k a i : Nat) : nI k * 14 + nI a + nI i = nI (k * 14 + a + i) := by rw [es_14, nI_add]
theorem es_41a (k a i : Nat) : 14 * nI k + nI a + nI i = nI (14 * k + a + i) := by rw [es_41, nI_add]
theorem i_vc_lastNumber {k : Nat} {u : SX} {v : SY} (I : i_Rel k u v) (hk : k + 5 ≤ 2560) (v1 : Int32) (v2 : Int32) : wpX_lastNumber (fun r => wpY_lastNumber (fun r' => r' = r ∧ i_Rel (k + 5) u v) v v1 v2) u v1 v2 := by
  have R : i_Rel (k + 5) u v := I
  obtain ⟨ld, hx, pc, pn, pa, pb, p, m, c, g, st, cx, ip, hy, yc, yn, ya, yb, cy, rfl, rfl, C, P, I⟩ := I
  unfold wpX_lastNumber wpY_lastNumber
  rcases es_ix v1 (N := 5) (by omega) with b | ⟨n, hn, rfl⟩
  · exact xa_nodeB b (br_t rfl (ya_badB b (br_f (by decide) ⟨rfl, R⟩)))
  · rcases es_ix v2 (N := 4) (by omega) with b | ⟨j, hj, rfl⟩
    · exact xa_node hn (br_f (by decide) (xa_sesB b (br_t rfl (ya_bad hn (br_t rfl (ya_sesB b (br_f (by decide) ⟨rfl, R⟩)))))))
    · refine xa_node hn (br_f (by decide) (xa_ses hj (br_f (by decide) ?_)))
      rw [show nI n * 14 + 6 + nI j = nI (n * 14 + 6 + j) from es_14a n 6 j, nI_clamp (by omega)]
      refine ⟨vp_in_nI (by omega) (by omega), ya_bad hn (br_t rfl (ya_ses hj (br_t rfl ?_)))⟩
      rw [show 14 * nI n + 6 + nI j = nI (14 * n + 6 + j) from es_41a n 6 j, nI_clamp (by omega), show 14 * n + 6 + j = n * 14 + 6 + j from by omega]
      exact ⟨vp_in_nI (by omega) (by omega), C.1 _ (by omega), R⟩
theorem i_vc_answer {k : Nat} {u : SX} {v : SY} (I : i_Rel k u v) (hk : k + 5 ≤ 2560) (v1 : Int32) (v2 : Int32) : wpX_answer (fun r => wpY_answer (fun r' => r' = r ∧ i_Rel (k + 5) u v) v v1 v2) u v1 v2 := by
  have R : i_Rel (k + 5) u v := I
  obtain ⟨ld, hx, pc, pn, pa, pb, p, m, c, g, st, cx, ip, hy, yc, yn, ya, yb, cy, rfl, rfl, C, P, I⟩ := I
  unfold wpX_answer wpY_answer
  rcases es_ix v1 (N := 5) (by omega) with b | ⟨n, hn, rfl⟩
  · exact xa_nodeB b (br_t rfl (ya_badB b (br_f (by decide) ⟨rfl, R⟩)))
  · rcases es_ix v2 (N := 4) (by omega) with b | ⟨j, hj, rfl⟩
    · exact xa_node hn (br_f (by decide) (xa_sesB b (br_t rfl (ya_bad hn (br_t rfl (ya_sesB b (br_f (by decide) ⟨rfl, R⟩)))))))
    · refine xa_node hn (br_f (by decide) (xa_ses hj (br_f (by decide) ?_)))
      rw [show nI n * 14 + 10 + nI j = nI (n * 14 + 10 + j) from es_14a n 10 j, nI_clamp (by omega)]
      refine ⟨vp_in_nI (by omega) (by omega), ya_bad hn (br_t rfl (ya_ses hj (br_t rfl ?_)))⟩
      rw [show 14 * nI n + 10 + nI j = nI (14 * n + 10 + j) from es_41a n 10 j, nI_clamp (by omega), show 14 * n + 10 + j = n * 14 + 10 + j from by omega]
      exact ⟨vp_in_nI (by omega) (by omega), C.1 _ (by omega), R⟩
section
variable {ld hx pc pn pa pb ly ip hy yc yn ya yb : Int32} {p m c g st cx cy : Nat → Int32}
theorem sm_scan {a b : Nat} (ha : a < 5) (hb : b < 5) (C : es_C st cx cy) : ∀ d j : Nat, j + d = 14 → ∃ r : Int32, (∀ post : Int32 → Prop, post r → wX_same_20 post (nI a) (nI b) ld hx pc pn pa pb p m c g st cx (d + 1) (nI j)) ∧ (∀ post : Int32 → Prop, post r → wY_same_20 post (nI a) (nI b) ly ip hy yc yn ya yb p g m c cy (d + 1) (nI j))
  | 0, j, hj => by
    have h : (14 : Int32) ≤ nI j := nI_le (a := 14) (by omega) (by omega)
    exact ⟨1, fun _ hp => br_t h hp, fun _ hp => br_t h hp⟩
  | d + 1, j, hj => by
    have h : ¬ (14 : Int32) ≤ nI j := nI_ge (b := 14) (by omega) (by omega)
    have c1 : (nI a * 14 + nI j).toNatClampNeg = a * 14 + j := by rw [es_14, nI_clamp (by omega)]
    have c2 : (nI b * 14 + nI j).toNatClampNeg = b * 14 + j := by rw [es_14, nI_clamp (by omega)]
    have c3 : (14 * nI a + nI j).toNatClampNeg = a * 14 + j := by rw [es_41, nI_clamp (by omega)]; omega
    have c4 : (14 * nI b + nI j).toNatClampNeg = b * 14 + j := by rw [es_41, nI_clamp (by omega)]; omega
    have d1 : vp_in (nI a * 14 + nI j) 70 := by rw [es_14]; exact vp_in_nI (by omega) (by omega)
    have d2 : vp_in (nI b * 14 + nI j) 70 := by rw [es_14]; exact vp_in_nI (by omega) (by omega)
    have d3 : vp_in (14 * nI a + nI j) 84 := by rw [es_41]; exact vp_in_nI (by omega) (by omega)
    have d4 : vp_in (14 * nI b + nI j) 84 := by rw [es_41]; exact vp_in_nI (by omega) (by omega)
    have e1 := C.1 (a * 14 + j) (by omega)
    have e2 := C.1 (b * 14 + j) (by omega)
    by_cases z : cx (a * 14 + j) = cx (b * 14 + j)
    · obtain ⟨r, hX, hY⟩ := sm_scan ha hb C d (j + 1) (by omega)
      exact ⟨r, fun post hp => br_f h ⟨d1, d2, br_t (by rw [c1, c2]; exact z) (nm_r (nI_1 j) (hX post hp))⟩, fun post hp => br_f h ⟨d3, d4, br_t (by rw [c3, c4, e1, e2]; exact z) (nm_r (nI_1 j) (hY post hp))⟩⟩
    · exact ⟨0, fun post hp => br_f h ⟨d1, d2, br_f (by rw [c1, c2]; exact z) hp⟩, fun post hp => br_f h ⟨d3, d4, br_f (by rw [c3, c4, e1, e2]; exact z) hp⟩⟩
end
theorem i_vc_same {k : Nat} {u : SX} {v : SY} (I : i_Rel k u v) (hk : k + 5 ≤ 2560) (v1 : Int32) (v2 : Int32) : wpX_same (fun r => wpY_same (fun r' => r' = r ∧ i_Rel (k + 5) u v) v v1 v2) u v1 v2 := by
  have R : i_Rel (k + 5) u v := I
  obtain ⟨ld, hx, pc, pn, pa, pb, p, m, c, g, st, cx, ip, hy, yc, yn, ya, yb, cy, rfl, rfl, C, P, I⟩ := I
  unfold wpX_same wpY_same
  rcases es_ix v1 (N := 5) (by omega) with b | ⟨n, hn, rfl⟩
  · exact xa_nodeB b (br_t rfl (ya_badB b (br_f (by decide) ⟨rfl, R⟩)))
  · rcases es_ix v2 (N := 5) (by omega) with b | ⟨j, hj, rfl⟩
    · exact xa_node hn (br_f (by decide) (xa_nodeB b (br_t rfl (ya_bad hn (br_t rfl (ya_badB b (br_f (by decide) ⟨rfl, R⟩)))))))
    · obtain ⟨r, hX, hY⟩ := sm_scan (ld := ld) (hx := hx) (pc := pc) (pn := pn) (pa := pa) (pb := pb) (ly := ld) (ip := ip) (hy := hy) (yc := yc) (yn := yn) (ya := ya) (yb := yb) (p := p) (m := m) (c := c) (g := g) hn hj C 14 0 rfl
      exact xa_node hn (br_f (by decide) (xa_node hj (br_f (by decide) ⟨_, hX _ (ya_bad hn (br_t rfl (ya_bad hj (br_t rfl ⟨_, hY _ ⟨rfl, R⟩⟩))))⟩)))
theorem i_vc_compact {k : Nat} {u : SX} {v : SY} (I : i_Rel k u v) (hk : k + 5 ≤ 2560) : wpX_compact (fun u' => wpY_compact (fun v' => i_Rel (k + 5) u' v') v) u := by
  have R : i_Rel (k + 5) u v := I
  obtain ⟨ld, hx, pc, pn, pa, pb, p, m, c, g, st, cx, ip, hy, yc, yn, ya, yb, cy, rfl, rfl, C, P, I⟩ := I
  exact R
theorem i_vc_faults {k : Nat} {u : SX} {v : SY} (I : i_Rel k u v) (hk : k + 5 ≤ 2560) : wpX_faults (fun r => wpY_faults (fun r' => r' = r ∧ i_Rel (k + 5) u v) v) u := by
  have R : i_Rel (k + 5) u v := I
  obtain ⟨ld, hx, pc, pn, pa, pb, p, m, c, g, st, cx, ip, hy, yc, yn, ya, yb, cy, rfl, rfl, C, P, I⟩ := I
  exact ⟨rfl, R⟩
end
section
theorem i_vc_stop {k : Nat} {u : SX} {v : SY} (I : i_Rel k u v) (hk : k + 5 ≤ 2560) (v1 : Int32) : wpX_stop (fun r u' => wpY_stop (fun r' v' => r' = r ∧ i_Rel (k + 5) u' v') v v1) u v1 := by
  have R : i_Rel (k + 5) u v := I
  obtain ⟨ld, hx, pc, pn, pa, pb, p, m, c, g, st, cx, ip, hy, yc, yn, ya, yb, cy, rfl, rfl, C, P, I⟩ := I
  unfold wpX_stop wpY_stop
  rcases es_ix v1 (N := 5) (by omega) with b | ⟨n, hn, rfl⟩
  · exact xa_nodeB b (br_t rfl (ya_badB b (br_f (by decide) ⟨rfl, R⟩)))
  · have w : vp_in (nI n) 5 := vp_in_nI hn (by omega)
    have e : upd p (nI n).toNatClampNeg (vp_nar .boolean 0) = upd p n 0 := by rw [nI_clamp (by omega), es_b0]
    obtain ⟨⟨a1, a2, a3, a4, a5, a6, a7, a8, a9, a10, a11, a12⟩, ⟨b1, b2, b3, b4, b5, b6, b7, b8, b9, b10, b11, b12⟩, R2, hX, hY⟩ := sb_any (upd p n 0) g C P I
    refine xa_node hn (br_f (by decide) ⟨w, br_c (fun z => ⟨w, nm_r e (hX _ ?_)⟩) (fun z => ⟨w, nm_r e (hX _ ?_)⟩)⟩)
    · exact ya_bad hn (br_t rfl ⟨w, nm_e ⟨w, nm_r e (hY _ (br_t z ⟨rfl, R2⟩))⟩⟩)
    · exact ya_bad hn (br_t rfl ⟨w, nm_e ⟨w, nm_r e (hY _ (br_f z ⟨rfl, R2⟩))⟩⟩)
theorem i_vc_start {k : Nat} {u : SX} {v : SY} (I : i_Rel k u v) (hk : k + 5 ≤ 2560) (v1 : Int32) : wpX_start (fun r u' => wpY_start (fun r' v' => r' = r ∧ i_Rel (k + 5) u' v') v v1) u v1 := by
  have R : i_Rel (k + 5) u v := I
  obtain ⟨ld, hx, pc, pn, pa, pb, p, m, c, g, st, cx, ip, hy, yc, yn, ya, yb, cy, rfl, rfl, C, P, I⟩ := I
  unfold wpX_start wpY_start
  rcases es_ix v1 (N := 5) (by omega) with b | ⟨n, hn, rfl⟩
  · exact xa_nodeB b (br_t rfl (ya_badB b (br_f (by decide) ⟨rfl, R⟩)))
  · have w : vp_in (nI n) 5 := vp_in_nI hn (by omega)
    have e : upd p (nI n).toNatClampNeg (vp_nar .boolean 1) = upd p n 1 := by rw [nI_clamp (by omega), es_b1]
    obtain ⟨⟨a1, a2, a3, a4, a5, a6, a7, a8, a9, a10, a11, a12⟩, ⟨b1, b2, b3, b4, b5, b6, b7, b8, b9, b10, b11, b12⟩, R2, hX, hY⟩ := sb_any (upd p n 1) g C P I
    refine xa_node hn (br_f (by decide) ⟨w, br_c (fun z => ⟨w, nm_r e (hX _ ?_)⟩) (fun z => ⟨w, nm_r e (hX _ ?_)⟩)⟩)
    · exact ya_bad hn (br_t rfl ⟨w, nm_e ⟨w, nm_r e (hY _ (br_t z ⟨rfl, R2⟩))⟩⟩)
    · exact ya_bad hn (br_t rfl ⟨w, nm_e ⟨w, nm_r e (hY _ (br_f z ⟨rfl, R2⟩))⟩⟩)
theorem i_vc_move {k : Nat} {u : SX} {v : SY} (I : i_Rel k u v) (hk : k + 5 ≤ 2560) (v1 : Int32) (v2 : Int32) : wpX_move (fun r u' => wpY_move (fun r' v' => r' = r ∧ i_Rel (k + 5) u' v') v v1 v2) u v1 v2 := by
  have R : i_Rel (k + 5) u v := I
  obtain ⟨ld, hx, pc, pn, pa, pb, p, m, c, g, st, cx, ip, hy, yc, yn, ya, yb, cy, rfl, rfl, C, P, I⟩ := I
  unfold wpX_move wpY_move
  rcases es_ix v1 (N := 5) (by omega) with b | ⟨n, hn, rfl⟩
  · exact xa_nodeB b (br_t rfl (ya_badB b (br_f (by decide) ⟨rfl, R⟩)))
  · rcases es_ix v2 (N := 3) (by omega) with b | ⟨j, hj, rfl⟩
    · by_cases z : v2 < 0
      · exact xa_node hn (br_f (by decide) (br_t z (ya_bad hn (br_t rfl (br_t z ⟨rfl, R⟩)))))
      · have y : nI 3 ≤ v2 := b.resolve_left z
        exact xa_node hn (br_f (by decide) (br_f z (br_f (Int32.not_lt.mpr y) (ya_bad hn (br_t rfl (br_f z (br_f (es_gap (a := 2) (by omega) y) ⟨rfl, R⟩)))))))
    · have w : vp_in (nI n) 5 := vp_in_nI hn (by omega)
      have e : upd g (nI n).toNatClampNeg (nI j) = upd g n (nI j) := by rw [nI_clamp (by omega)]
      obtain ⟨⟨a1, a2, a3, a4, a5, a6, a7, a8, a9, a10, a11, a12⟩, ⟨b1, b2, b3, b4, b5, b6, b7, b8, b9, b10, b11, b12⟩, R2, hX, hY⟩ := sb_any p (upd g n (nI j)) C P I
      have h0 : ¬ nI j < 0 := nI_pos (by omega)
      have h3 : nI j < 3 := nI_lt (b := 3) hj (by omega)
      have h2 : nI j ≤ 2 := nI_le (b := 2) (by omega) (by omega)
      refine xa_node hn (br_f (by decide) (br_f h0 (br_t h3 ⟨w, nm_e ⟨w, nm_r e (hX _ ?_)⟩⟩)))
      exact ya_bad hn (br_t rfl (br_f h0 (br_t h2 ⟨w, nm_e ⟨w, nm_r e (hY _ ⟨rfl, R2⟩)⟩⟩)))
section
variable {ld hx pc pn pa pb ly ip hy yc yn ya yb : Int32} {p m c g st cx cy : Nat → Int32}
/-- what both sides say of a command before they do it -/
theorem sb_verdict (C : es_C st cx cy) (v1 v2 : Int32) : ∃ r : Int32, (∀ post : Int32 → Prop, post r → wpX_verdictOn post (ld, hx, pc, pn, pa, pb, p, m, c, g, st, cx) v1 v2) ∧ (∀ post : Int32 → Prop, post r → wpY_refused post (ly, ip, hy, yc, yn, ya, yb, p, g, m, c, cy) v1 v2) ∧ (r = 0 → ¬ es_qg p m g = -1 ∧ ∃ k, k < 72 ∧ v1 = nI k) := by
  unfold wpX_verdictOn wpY_refused
  rcases es_ix v1 (N := 72) (by omega) with b | ⟨k, hk, rfl⟩
  · refine ⟨-1, ?_, ?_, fun z => absurd z (by decide)⟩
    · intro post hp
      by_cases z : v1 < 0
      · exact br_t z hp
      · exact br_f z (br_t (b.resolve_left z) hp)
    · intro post hp
      by_cases z : v1 < 0
      · exact br_t z hp
      · exact br_f z (br_t (Int32.not_le.mp (es_gap (a := 71) (by omega) (b.resolve_left z))) hp)
  · have h0 : ¬ nI k < 0 := nI_pos (by omega)
    have h1 : ¬ 72 ≤ nI k := nI_ge (b := 72) hk (by omega)
    have h2 : ¬ 71 < nI k := nI_nlt (a := 71) (by omega) (by omega)
    by_cases h3 : 1 ≤ v2
    · by_cases hq : es_qg p m g = -1
      · refine ⟨-2, ?_, ?_, fun z => absurd z (by decide)⟩
        · intro post hp
          exact br_f h0 (br_f h1 (br_t h3 (xa_qg (br_t hq hp))))
        · intro post hp
          refine br_f h0 (br_f h2 (br_t h3 (ya_q ?_)))
          rw [hq]; exact br_f (by decide) hp
      · obtain ⟨e1, e2, e3⟩ := es_cd hk
        have hs : k / 6 % 4 < 4 := Nat.mod_lt _ (by omega)
        have f1 : 6 + nI (k / 6 % 4) = nI (6 + k / 6 % 4) := nI_add 6 _
        have f2 : 76 + nI (k / 6 % 4) = nI (76 + k / 6 % 4) := nI_add 76 _
        have f3 : cy (76 + k / 6 % 4) = st (6 + k / 6 % 4) := by
          rw [show 76 + k / 6 % 4 = 70 + (6 + k / 6 % 4) from by omega]; exact C.2 _ (by omega)
        refine ⟨if st (6 + k / 6 % 4) ≤ v2 then (if v2 = st (6 + k / 6 % 4) then 1 else 0) else -3, ?_, ?_, fun _ => ⟨hq, k, hk, rfl⟩⟩
        · intro post hp
          refine br_f h0 (br_f h1 (br_t h3 (xa_qg (br_f hq ⟨by decide, by decide, ?_⟩))))
          rw [e3]
          dsimp only
          rw [f1, nI_clamp (by omega)]
          refine ⟨vp_in_nI (by omega) (by omega), nm_e (br_c (fun a => br_c (fun b => ?_) (fun b => ?_)) (fun a => ?_))⟩
          · rw [if_pos a, if_pos b] at hp; exact hp
          · rw [if_pos a, if_neg b] at hp; exact hp
          · rw [if_neg a] at hp; exact hp
        · intro post hp
          refine br_f h0 (br_f h2 (br_t h3 (ya_q (br_t (es_qn rfl hq).2 ⟨by decide, by decide, ?_⟩))))
          rw [e3, f2, nI_clamp (by omega), f3]
          refine ⟨vp_in_nI (by omega) (by omega), nm_e (br_c (fun a => br_c (fun b => ?_) (fun b => ?_)) (fun a => ?_))⟩
          · rw [if_pos a, if_pos b] at hp; exact hp
          · rw [if_pos a, if_neg b] at hp; exact hp
          · rw [if_neg a] at hp; exact hp
    · exact ⟨-1, fun post hp => br_f h0 (br_f h1 (br_f h3 hp)), fun post hp => br_f h0 (br_f h2 (br_f h3 hp)), fun z => absurd z (by decide)⟩
end
theorem i_vc_submit {k : Nat} {u : SX} {v : SY} (I : i_Rel k u v) (hk : k + 5 ≤ 2560) (v1 : Int32) (v2 : Int32) (v3 : Int32) (v4 : Int32) : wpX_submit (fun r u' => wpY_submit (fun r' v' => r' = r ∧ i_Rel (k + 5) u' v') v v1 v2 v3 v4) u v1 v2 v3 v4 := by
  have R : i_Rel (k + 5) u v := I
  obtain ⟨ld, hx, pc, pn, pa, pb, p, m, c, g, st, cx, ip, hy, yc, yn, ya, yb, cy, rfl, rfl, C, P, I⟩ := I
  unfold wpX_submit wpY_submit
  obtain ⟨r, vX, vY, h0⟩ := sb_verdict (ld := ld) (hx := hx) (pc := pc) (pn := pn) (pa := pa) (pb := pb) (ly := ld) (ip := ip) (hy := hy) (yc := yc) (yn := yn) (ya := ya) (yb := yb) (p := p) (m := m) (c := c) (g := g) C v1 v2
  by_cases z : r = 0
  · subst z
    obtain ⟨hq, j, hj, rfl⟩ := h0 rfl
    obtain ⟨wl, LK, J, hP, mb⟩ := I
    obtain ⟨⟨n, hn, el, hi⟩, K⟩ := LK hq
    have ex : hx = -1 := hP (by rw [el]; exact es_n1 hn)
    obtain ⟨⟨a1, a2, a3, a4, a5, a6, a7, a8, a9, a10, a11, a12⟩, ⟨b1, b2, b3, b4, b5, b6, b7, b8, b9, b10, b11, b12⟩, R2, hX, hY⟩ := sb_settle (q := es_qg p m g) (ly := ld) (c := es_mk (es_in p m g (es_qg p m g)) c 5) rfl (es_C_d C j v2 v3 v4) P wl (Or.inl rfl) (fun _ _ _ _ _ => ex) (fun y => absurd y hq) (fun _ o _ => absurd hi (by rw [o n hn el]; decide)) mb
    refine vX _ (br_t rfl (xa_do hj (xa_qg (xa_mark (hX _ ?_)))))
    exact vY _ (br_t rfl (ya_carry rfl hq hj (hY _ ⟨rfl, R2⟩)))
  · exact vX _ (br_f z (vY _ (br_f z ⟨rfl, R⟩)))
theorem i_vc_submitAndStop {k : Nat} {u : SX} {v : SY} (I : i_Rel k u v) (hk : k + 5 ≤ 2560) (v1 : Int32) (v2 : Int32) (v3 : Int32) (v4 : Int32) : wpX_submitAndStop (fun r u' => wpY_submitAndStop (fun r' v' => r' = r ∧ i_Rel (k + 5) u' v') v v1 v2 v3 v4) u v1 v2 v3 v4 := by
  have R : i_Rel (k + 5) u v := I
  obtain ⟨ld, hx, pc, pn, pa, pb, p, m, c, g, st, cx, ip, hy, yc, yn, ya, yb, cy, rfl, rfl, C, P, I⟩ := I
  unfold wpX_submitAndStop wpY_submitAndStop
  obtain ⟨r, vX, vY, h0⟩ := sb_verdict (ld := ld) (hx := hx) (pc := pc) (pn := pn) (pa := pa) (pb := pb) (ly := ld) (ip := ip) (hy := hy) (yc := yc) (yn := yn) (ya := ya) (yb := yb) (p := p) (m := m) (c := c) (g := g) C v1 v2
  by_cases z : r = 0
  · subst z
    obtain ⟨hq, j, hj, rfl⟩ := h0 rfl
    obtain ⟨wl, LK, J, hP, mb⟩ := I
    obtain ⟨⟨n, hn, rfl, hi⟩, K⟩ := LK hq
    have w : vp_in (nI n) 5 := vp_in_nI hn (by omega)
    have e : upd p (nI n).toNatClampNeg (vp_nar .boolean 0) = upd p n 0 := by rw [nI_clamp (by omega), es_b0]
    have P2 : es_P (nI n) (nI j) v2 v3 v4 1 (nI n) (nI j) v2 v3 v4 := Or.inr ⟨n, j, hn, hj, rfl, rfl, rfl, rfl, rfl, rfl, rfl, rfl⟩
    have o : ∀ q n', n' < 5 → nI n = nI n' → es_in (upd p n 0) m g q n' = false := fun q n' hn' ee => by
      rw [nI_eq (by omega) (by omega)] at ee
      subst ee
      exact decide_eq_false (fun y => y.1 pk_us)
    obtain ⟨u2, v2', R2, hX, hY⟩ := sb_settle (q := es_qg (upd p n 0) m g) (ly := nI n) (c := c) rfl C P2 wl (Or.inl rfl) (fun _ n' hn' ee y => absurd y (by rw [o _ n' hn' ee]; decide)) (fun _ => J) (fun h1 _ nd => es_se J (es_qg_Q h1).1 (es_PW P2) nd) mb
    have R3 : i_Rel (k + 5) u2 v2' := R2
    obtain ⟨a1, a2, a3, a4, a5, a6, a7, a8, a9, a10, a11, a12, b2, b3, b4, b5, b6, b7, b12, rfl, rfl, C2, P3, I2⟩ := R2
    refine vX _ (br_t rfl (xa_node hn (br_f (by decide) ⟨w, nm_r e (hX _ ?_)⟩)))
    rcases P3 with ⟨rfl, rfl⟩ | ⟨h, l, hh, hl, rfl, rfl, rfl, rfl, rfl, rfl, rfl, rfl⟩
    · exact br_t rfl (vY _ (br_t rfl (br_t (nI_pos' (by omega)) ⟨w, nm_r e (hY _ (br_t rfl ⟨rfl, R3⟩))⟩)))
    · exact br_f (es_n1 hh) (vY _ (br_t rfl (br_t (nI_pos' (by omega)) ⟨w, nm_r e (hY _ (br_f (by decide) ⟨rfl, R3⟩))⟩)))
  · exact vX _ (br_f z (vY _ (br_f z ⟨rfl, R⟩)))
end
section
section
variable {ld hx pc pn pa pb ly ip hy yc yn ya yb : Int32} {p m c g st cx cy : Nat → Int32}
theorem es_ltQ {q : Int32} : nI (es_cnt (es_me m) 5) < 2 * nI (es_cnt (es_in p m g q) 5) ↔ es_Q p m g q = true := by
  have l1 := es_cnt_le (es_in p m g q) 5
  have l2 := es_cnt_le (es_me m) 5
  rw [es_2, nI_ltI (by omega) (by omega), es_Q_iff]
/-- the settling behind a change of the members that keeps the quorum -/
theorem sb_m1 {t : Int32} {n : Nat} (ht : t = 0 ∨ t = 1) (hq : ¬ es_qg p m g = -1) (hQ : es_Q p (upd m n t) g (es_qg p m g) = true) (C : es_C st cx cy) (P : es_P hx pc pn pa pb ip hy yc yn ya yb) (I : es_I ld hx p m c g)
    (hl : ly = ld ∨ (ly = -1 ∧ t = 0 ∧ ld = nI n)) (hn : n < 5) :
    ∃ (u : SX) (v : SY), es_R u v ∧ (∀ post : SX → Prop, post u → wpX_settle post (ld, hx, pc, pn, pa, pb, p, upd m n t, es_mk (es_in p (upd m n t) g (es_qg p m g)) c 5, g, st, cx)) ∧ (∀ post : SY → Prop, post v → wpY_settle post (ly, ip, hy, yc, yn, ya, yb, p, g, upd m n t, es_mk (es_in p (upd m n t) g (es_qg p m g)) c 5, cy)) := by
  obtain ⟨wl, LK, J, hP, mb⟩ := I
  obtain ⟨⟨i, hi, el, hin⟩, K⟩ := LK hq
  have ex : hx = -1 := hP (by rw [el]; exact es_n1 hi)
  obtain ⟨_, kk, hkk, ekk⟩ := es_qg_Q hq
  have e2 : es_qg p (upd m n t) g = es_qg p m g := by
    rw [ekk] at hQ ⊢; exact es_qg_of hkk hQ
  refine sb_settle (q := es_qg p m g) e2 C P wl ?_ (fun _ _ _ _ _ => ex) (fun y => absurd y hq) ?_ ?_
  · rcases hl with e | ⟨e, rfl, e3⟩
    · exact Or.inl e
    · refine Or.inr ⟨e, hq, fun j hj e4 => ?_⟩
      rw [e3, nI_eq (by omega) (by omega)] at e4
      subst e4
      exact decide_eq_false (fun y => y.2.1 pk_us)
  · intro _ o _
    rcases ht with rfl | rfl
    · obtain ⟨j, hj, z⟩ := es_cnt_pos 5 (f := es_in p (upd m n 0) g (es_qg p m g)) (by have := es_Q_iff.mp hQ; omega)
      have zz := es_in_iff.mp z
      have nj : j ≠ n := fun y => zz.2.1 (by rw [y]; exact pk_us)
      rw [pk_un nj] at zz
      refine ⟨j, hj, z, ?_, by rw [ex]; exact es_n1 hj⟩
      rw [es_mk_at, if_neg (fun y => absurd y.2 (by rw [z]; decide))]
      exact K j hj (es_in_iff.mpr zz)
    · have zz := es_in_iff.mp hin
      have z : es_in p (upd m n 1) g (es_qg p m g) i = true := by
        refine es_in_iff.mpr ⟨zz.1, ?_, zz.2.2⟩
        by_cases y : i = n
        · rw [y, pk_us]; decide
        · rw [pk_un y]; exact zz.2.1
      exact absurd z (by rw [o i hi el]; decide)
  · intro j hj
    by_cases y : j = n
    · rw [y, pk_us]; exact ht
    · rw [pk_un y]; exact mb j hj
theorem sb_mem {t : Int32} {n : Nat} (ht : t = 0 ∨ t = 1) (hn : n < 5) (hq : ¬ es_qg p m g = -1) (hm : ¬ m n = t) (C : es_C st cx cy) (P : es_P hx pc pn pa pb ip hy yc yn ya yb) (I : es_I ld hx p m c g) :
    ∃ (r : Int32) (u : SX) (v : SY), es_R u v ∧ (∀ post : Int32 → SX → Prop, post r u → wX_member_50 post (nI n) t (es_qg p m g) ld hx pc pn pa pb p m c g st cx) ∧ (∀ post : Int32 → SY → Prop, post r v → wY_member_49 post (nI n) t (es_qg p m g) ld ip hy yc yn ya yb p g m c cy) := by
  have w : vp_in (nI n) 5 := vp_in_nI hn (by omega)
  have en : vp_nar .boolean t = t := by rcases ht with rfl | rfl <;> rfl
  have em : upd m (nI n).toNatClampNeg (vp_nar .boolean t) = upd m n t := by rw [nI_clamp (by omega), en]
  have mb := I.2.2.2.2
  cases hQ : es_Q p (upd m n t) g (es_qg p m g) with
  | false =>
    have hlt : ¬ nI (es_cnt (es_me (upd m n t)) 5) < 2 * nI (es_cnt (es_in p (upd m n t) g (es_qg p m g)) 5) := by
      rw [es_ltQ, hQ]; decide
    refine ⟨-5, (ld, hx, pc, pn, pa, pb, p, m, c, g, st, cx), (ld, ip, hy, yc, yn, ya, yb, p, g, m, c, cy), ⟨_, _, _, _, _, _, _, _, _, _, _, _, _, _, _, _, _, _, _, rfl, rfl, C, P, I⟩, ?_, ?_⟩
    · intro post hp
      refine ⟨w, nm_r em (xa_isQ (fun y => absurd y (by rw [hQ]; decide)) (fun _ => br_t rfl ?_))⟩
      rcases ht with rfl | rfl
      · have er : upd (upd m n 0) (nI n).toNatClampNeg (vp_nar .boolean 1) = m := by
          rw [nI_clamp (by omega), es_b1]
          funext j
          by_cases y : j = n
          · subst y; rw [pk_us]; rcases mb j hn with z | z
            · exact absurd z hm
            · exact z.symm
          · rw [pk_un y, pk_un y]
        exact br_t rfl ⟨w, nm_r er hp⟩
      · have er : upd (upd m n 1) (nI n).toNatClampNeg (vp_nar .boolean 0) = m := by
          rw [nI_clamp (by omega), es_b0]
          funext j
          by_cases y : j = n
          · subst y; rw [pk_us]; rcases mb j hn with z | z
            · exact z.symm
            · exact absurd z hm
          · rw [pk_un y, pk_un y]
        exact br_f (by decide) ⟨w, nm_r er hp⟩
    · intro post hp
      refine ⟨w, nm_r em (ya_cu (ya_cm (br_f hlt ?_)))⟩
      rcases ht with rfl | rfl
      · have er : upd (upd m n 0) (nI n).toNatClampNeg (vp_nar .boolean 1) = m := by
          rw [nI_clamp (by omega), es_b1]
          funext j
          by_cases y : j = n
          · subst y; rw [pk_us]; rcases mb j hn with z | z
            · exact absurd z hm
            · exact z.symm
          · rw [pk_un y, pk_un y]
        exact br_t rfl ⟨w, nm_r er hp⟩
      · have er : upd (upd m n 1) (nI n).toNatClampNeg (vp_nar .boolean 0) = m := by
          rw [nI_clamp (by omega), es_b0]
          funext j
          by_cases y : j = n
          · subst y; rw [pk_us]; rcases mb j hn with z | z
            · exact z.symm
            · exact absurd z hm
          · rw [pk_un y, pk_un y]
        exact br_f (by decide) ⟨w, nm_r er hp⟩
  | true =>
    have hlt := (es_ltQ (p := p) (m := upd m n t) (g := g) (q := es_qg p m g)).mpr hQ
    obtain ⟨_, kk, hkk, ekk⟩ := es_qg_Q hq
    have e2 : es_qg p (upd m n t) g = es_qg p m g := by
      rw [ekk] at hQ ⊢; exact es_qg_of hkk hQ
    by_cases cs : t = 0 ∧ ld = nI n
    · obtain ⟨⟨a1, a2, a3, a4, a5, a6, a7, a8, a9, a10, a11, a12⟩, ⟨b1, b2, b3, b4, b5, b6, b7, b8, b9, b10, b11, b12⟩, R2, hX, hY⟩ := sb_m1 (ly := -1) ht hq hQ C P I (Or.inr ⟨rfl, cs.1, cs.2⟩) hn
      refine ⟨1, _, _, R2, fun post hp => ?_, fun post hp => ?_⟩
      · exact ⟨w, nm_r em (xa_isQ (fun _ => br_f (by decide) (xa_mark (hX _ hp))) (fun y => absurd hQ (by rw [y]; decide)))⟩
      · exact ⟨w, nm_r em (ya_cu (ya_cm (br_t hlt (ya_step e2 hq (br_t cs.1 (br_t cs.2 (hY _ hp)))))))⟩
    · obtain ⟨⟨a1, a2, a3, a4, a5, a6, a7, a8, a9, a10, a11, a12⟩, ⟨b1, b2, b3, b4, b5, b6, b7, b8, b9, b10, b11, b12⟩, R2, hX, hY⟩ := sb_m1 (ly := ld) ht hq hQ C P I (Or.inl rfl) hn
      refine ⟨1, _, _, R2, fun post hp => ?_, fun post hp => ?_⟩
      · exact ⟨w, nm_r em (xa_isQ (fun _ => br_f (by decide) (xa_mark (hX _ hp))) (fun y => absurd hQ (by rw [y]; decide)))⟩
      · exact ⟨w, nm_r em (ya_cu (ya_cm (br_t hlt (ya_step e2 hq (br_c (fun z => br_f (fun y => cs ⟨z, y⟩) (hY _ hp)) (fun _ => hY _ hp))))))⟩
end
theorem i_vc_member {k : Nat} {u : SX} {v : SY} (I : i_Rel k u v) (hk : k + 5 ≤ 2560) (v1 : Int32) (v2 : Int32) : wpX_member (fun r u' => wpY_member (fun r' v' => r' = r ∧ i_Rel (k + 5) u' v') v v1 (lw_bz v2)) u v1 (lw_bz v2) := by
  have R : i_Rel (k + 5) u v := I
  obtain ⟨ld, hx, pc, pn, pa, pb, p, m, c, g, st, cx, ip, hy, yc, yn, ya, yb, cy, rfl, rfl, C, P, I⟩ := I
  have ht := lw_bz_01 v2
  generalize lw_bz v2 = t at ht
  unfold wpX_member wpY_member
  rcases es_ix v1 (N := 5) (by omega) with b | ⟨n, hn, rfl⟩
  · exact xa_nodeB b (br_t rfl (ya_badB b (br_f (by decide) ⟨rfl, R⟩)))
  · have w : vp_in (nI n) 5 := vp_in_nI hn (by omega)
    have cl : (nI n).toNatClampNeg = n := nI_clamp (by omega)
    refine xa_node hn (br_f (by decide) (xa_qg ?_))
    by_cases hq : es_qg p m g = -1
    · refine br_t hq (ya_bad hn (br_t rfl (ya_q ?_)))
      rw [hq]; exact br_f (by decide) ⟨rfl, R⟩
    · have h0 := (es_qn rfl hq).2
      refine br_f hq ⟨w, br_c (fun z => ?_) (fun z => ?_)⟩
      · exact ya_bad hn (br_t rfl (ya_q (br_t h0 ⟨w, br_t z ⟨rfl, R⟩⟩)))
      · obtain ⟨r, u2, v2', R2, hX, hY⟩ := sb_mem ht hn hq (by rw [cl] at z; exact z) C P I
        refine br_c (fun y => xa_mc (br_c (fun x => ?_) (fun x => hX _ ?_))) (fun y => hX _ ?_)
        · exact ya_bad hn (br_t rfl (ya_q (br_t h0 ⟨w, br_f z (br_t y (ya_cm (br_t x ⟨rfl, R⟩)))⟩)))
        · exact ya_bad hn (br_t rfl (ya_q (br_t h0 ⟨w, br_f z (br_t y (ya_cm (br_f x (hY _ ⟨rfl, R2⟩))))⟩)))
        · exact ya_bad hn (br_t rfl (ya_q (br_t h0 ⟨w, br_f z (br_f y (hY _ ⟨rfl, R2⟩))⟩)))
end
