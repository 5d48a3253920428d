theorem pk_us {f : Nat → Int32} {k : Nat} {x : Int32} : upd f k x k = x := if_pos rfl
theorem pk_un {f : Nat → Int32} {k j : Nat} {x : Int32} (h : j ≠ k) : upd f k x j = f j := if_neg h
theorem pk_sub {a b : Nat} (h : b ≤ a) : nI a - nI b = nI (a - b) := by
  obtain ⟨c, rfl⟩ : ∃ c, a = c + b := ⟨a - b, by omega⟩
  rw [← nI_add, Int32.add_sub_cancel, Nat.add_sub_cancel]
theorem pk_m1 (n : Nat) : nI (n + 1) + (-1) = nI n := by
  rw [← nI_1, Int32.add_assoc, show (1 : Int32) + (-1) = 0 from rfl, Int32.add_zero]
theorem pk_mul (a b : Nat) : nI a * nI b = nI (a * b) := (Int32.ofNat_mul a b).symm
theorem pk_div {a d : Nat} (ha : a < 2 ^ 31) (h0 : 0 < d) (hd : d < 2 ^ 31) : nI a / nI d = nI (a / d) := by
  apply Int32.toInt_inj.mp
  rw [lg_idiv_nonneg (by rw [nI_toInt ha]; omega) (by rw [nI_toInt hd]; omega), nI_toInt ha, nI_toInt hd, nI_toInt (Nat.lt_of_le_of_lt (Nat.div_le_self a d) ha)]
  first | rfl | exact (Int.natCast_ediv _ _).symm
theorem pk_rem {a d : Nat} (ha : a < 2 ^ 31) (h0 : 0 < d) (hd : d < 2 ^ 31) : nI a - nI a / nI d * nI d = nI (a % d) := by
  rw [pk_div ha h0 hd, pk_mul, pk_sub (Nat.div_mul_le_self a d)]
  exact congrArg nI (by have := Nat.div_add_mod' a d; omega)
theorem pk_ix (x : Int32) {n : Nat} (hn : n < 2 ^ 31) : x < 0 ∨ nI n ≤ x ∨ ∃ j : Nat, j < n ∧ x = nI j := by
  by_cases h : x < 0
  · exact Or.inl h
  · obtain ⟨j, hj, rfl⟩ := nI_of h
    by_cases h2 : j < n
    · exact Or.inr (Or.inr ⟨j, h2, rfl⟩)
    · exact Or.inr (Or.inl (nI_le (by omega) hj))
/-- how many of the first i satisfy f -/
def es_cnt (f : Nat → Bool) : Nat → Nat
  | 0 => 0
  | i + 1 => es_cnt f i + (f i).toNat
/-- node n is an up member in group q -/
def es_in (p m g : Nat → Int32) (q : Int32) (n : Nat) : Bool := decide (¬ p n = 0 ∧ ¬ m n = 0 ∧ g n = q)
/-- node n is a member -/
def es_me (m : Nat → Int32) (n : Nat) : Bool := decide (¬ m n = 0)
/-- group q is a quorum -/
def es_Q (p m g : Nat → Int32) (q : Int32) : Bool := decide (es_cnt (es_me m) 5 < 2 * es_cnt (es_in p m g q) 5)
/-- the group of the quorum, -1 if there is none -/
def es_qg (p m g : Nat → Int32) : Int32 := if es_Q p m g 0 then 0 else if es_Q p m g 1 then 1 else if es_Q p m g 2 then 2 else -1
/-- the currents after a step whose quorum is f -/
def es_mk (f : Nat → Bool) (c : Nat → Int32) : Nat → Nat → Int32
  | 0 => c
  | i + 1 => if f i then es_mk f c i else upd (es_mk f c i) i 0
/-- the currents after the end of a settling -/
def es_rc (f : Nat → Bool) (c : Nat → Int32) : Nat → Nat → Int32
  | 0 => c
  | i + 1 => if f i then upd (es_rc f c i) i 1 else es_rc f c i
def es_cp (st : Nat → Int32) (k : Nat) (cx : Nat → Int32) : Nat → Nat → Int32
  | 0 => cx
  | i + 1 => upd (es_cp st k cx i) (k * 14 + i) (st i)
def es_rf (st : Nat → Int32) (f : Nat → Bool) (cx : Nat → Int32) : Nat → Nat → Int32
  | 0 => cx
  | i + 1 => if f i then es_cp st i (es_rf st f cx i) 14 else es_rf st f cx i
def es_cq (k : Nat) (cy : Nat → Int32) : Nat → Nat → Int32
  | 0 => cy
  | i + 1 => upd (es_cq k cy i) (14 * k + i) (es_cq k cy i (70 + i))
def es_rg (f : Nat → Bool) (cy : Nat → Int32) : Nat → Nat → Int32
  | 0 => cy
  | i + 1 => if f i then es_cq i (es_rg f cy i) 14 else es_rg f cy i
/-- the least of the last k nodes that satisfies h, -1 if none does -/
def es_fr (h : Nat → Bool) : Nat → Int32
  | 0 => -1
  | k + 1 => if h (4 - k) then nI (4 - k) else es_fr h k
/-- what a key's value x becomes by kind kd -/
def es_r (kd : Nat) (x a b : Int32) : Int32 := if kd = 0 then a else if kd = 1 then x + a else if x = a then b else x
def es_dx (st : Nat → Int32) (k : Nat) (num a b : Int32) : Nat → Int32 :=
  upd (upd (upd st (k % 6) (es_r (k / 24) (st (k % 6)) a b)) (6 + k / 6 % 4) num) (10 + k / 6 % 4) (st (k % 6))
def es_dy (cy : Nat → Int32) (k : Nat) (num a b : Int32) : Nat → Int32 :=
  upd (upd (upd cy (70 + k % 6) (es_r (k / 24) (cy (70 + k % 6)) a b)) (76 + k / 6 % 4) num) (80 + k / 6 % 4) (cy (70 + k % 6))
/-- the reference's copies hold the component's copies and behind them its state -/
def es_C (st cx cy : Nat → Int32) : Prop := (∀ j, j < 70 → cy j = cx j) ∧ ∀ j, j < 14 → cy (70 + j) = st j
/-- the holder is in quorum q and the others are not more than half -/
def es_nd (p m g : Nat → Int32) (q : Int32) (h : Nat) : Bool := es_in p m g q h && !decide (es_cnt (es_me m) 5 < 2 * (es_cnt (es_in p m g q) 5 - 1))
/-- the current members are more than half of the members -/
def es_J (m c : Nat → Int32) : Prop := es_cnt (es_me m) 5 < 2 * es_cnt (fun n => es_me m n && decide (¬ c n = 0)) 5
/-- a node or nobody -/
def es_W (l : Int32) : Prop := l = -1 ∨ ∃ n, n < 5 ∧ l = nI n
def es_I (ld hx : Int32) (p m c g : Nat → Int32) : Prop :=
  es_W ld ∧ (¬ es_qg p m g = -1 → (∃ n, n < 5 ∧ ld = nI n ∧ es_in p m g (es_qg p m g) n = true) ∧ ∀ n, n < 5 → es_in p m g (es_qg p m g) n = true → ¬ c n = 0) ∧ es_J m c ∧ (¬ ld = -1 → hx = -1) ∧ ∀ n, n < 5 → m n = 0 ∨ m n = 1
def es_P (hx pc pn pa pb ip hy yc yn ya yb : Int32) : Prop :=
  (hx = -1 ∧ ip = 0) ∨ ∃ h k, h < 5 ∧ k < 72 ∧ hx = nI h ∧ pc = nI k ∧ ip = 1 ∧ hy = nI h ∧ yc = nI k ∧ yn = pn ∧ ya = pa ∧ yb = pb
theorem es_n1 {n : Nat} (h : n < 5) : ¬ nI n = -1 := by
  intro e
  have := congrArg Int32.toInt e
  rw [nI_toInt (by omega), show ((-1 : Int32)).toInt = -1 from by decide] at this
  omega
theorem es_in_iff {p m g : Nat → Int32} {q : Int32} {n : Nat} : es_in p m g q n = true ↔ ¬ p n = 0 ∧ ¬ m n = 0 ∧ g n = q := decide_eq_true_iff
theorem es_me_iff {m : Nat → Int32} {n : Nat} : es_me m n = true ↔ ¬ m n = 0 := decide_eq_true_iff
theorem es_Q_iff {p m g : Nat → Int32} {q : Int32} : es_Q p m g q = true ↔ es_cnt (es_me m) 5 < 2 * es_cnt (es_in p m g q) 5 := decide_eq_true_iff
theorem es_in_me {p m g : Nat → Int32} {q : Int32} {n : Nat} (h : es_in p m g q n = true) : es_me m n = true := es_me_iff.mpr (es_in_iff.mp h).2.1
theorem es_cnt_le (f : Nat → Bool) : ∀ i, es_cnt f i ≤ i
  | 0 => Nat.le_refl 0
  | i + 1 => by
    have := es_cnt_le f i
    have h2 : (f i).toNat ≤ 1 := Bool.toNat_le _
    simp only [es_cnt]; omega
theorem es_cnt_pos {f : Nat → Bool} : ∀ i, 0 < es_cnt f i → ∃ j, j < i ∧ f j = true
  | 0, h => absurd h (Nat.lt_irrefl 0)
  | i + 1, h => by
    cases e : f i with
    | true => exact ⟨i, by omega, e⟩
    | false =>
      simp only [es_cnt, e, Bool.toNat_false, Nat.add_zero] at h
      obtain ⟨j, hj, h⟩ := es_cnt_pos i h
      exact ⟨j, by omega, h⟩
theorem es_cnt_mono {f h : Nat → Bool} : ∀ i, (∀ j, j < i → f j = true → h j = true) → es_cnt f i ≤ es_cnt h i
  | 0, _ => Nat.le_refl 0
  | i + 1, H => by
    have a := es_cnt_mono i (fun j hj => H j (by omega))
    have b := H i (by omega)
    simp only [es_cnt]
    cases e : f i with
    | true => rw [b e]; omega
    | false => simp only [Bool.toNat_false]; omega
/-- two majorities of m meet -/
theorem es_apart {f h m : Nat → Bool} : ∀ i, (∀ j, j < i → f j = true → m j = true) → (∀ j, j < i → h j = true → m j = true) → (∀ j, j < i → f j = true → h j = true → False) → es_cnt f i + es_cnt h i ≤ es_cnt m i
  | 0, _, _, _ => Nat.le_refl 0
  | i + 1, F, H, D => by
    have a := es_apart i (fun j hj => F j (by omega)) (fun j hj => H j (by omega)) (fun j hj => D j (by omega))
    have F := F i (by omega)
    have H := H i (by omega)
    have D := D i (by omega)
    simp only [es_cnt]
    cases e : f i with
    | true =>
      cases e2 : h i with
      | true => exact absurd (D e e2) id
      | false => rw [F e]; simp only [Bool.toNat_false]; omega
    | false =>
      cases e2 : h i with
      | true => rw [H e2]; simp only [Bool.toNat_false]; omega
      | false => simp only [Bool.toNat_false]; omega
theorem es_meet {f h m : Nat → Bool} (F : ∀ j, j < 5 → f j = true → m j = true) (H : ∀ j, j < 5 → h j = true → m j = true) (a : es_cnt m 5 < 2 * es_cnt f 5) (b : es_cnt m 5 < 2 * es_cnt h 5) : ∃ j, j < 5 ∧ f j = true ∧ h j = true := by
  apply Classical.byContradiction
  intro z
  have := es_apart 5 F H (fun j hj x y => z ⟨j, hj, x, y⟩)
  omega
/-- one less -/
theorem es_less (f : Nat → Bool) (h : Nat) : ∀ i, es_cnt f i ≤ es_cnt (fun j => f j && !decide (j = h)) i + (if h < i then 1 else 0)
  | 0 => Nat.zero_le _
  | i + 1 => by
    have a := es_less f h i
    simp only [es_cnt]
    by_cases e : i = h
    · subst e
      have h2 : (f i).toNat ≤ 1 := Bool.toNat_le _
      rw [if_neg (Nat.lt_irrefl i)] at a
      rw [if_pos (Nat.lt_succ_self i)]
      omega
    · have e2 : decide (i = h) = false := decide_eq_false e
      rw [e2, Bool.not_false, Bool.and_true]
      by_cases e3 : h < i
      · rw [if_pos e3] at a; rw [if_pos (by omega)]; omega
      · rw [if_neg e3] at a; rw [if_neg (by omega)]; omega
theorem es_uniq {p m g : Nat → Int32} {q r : Int32} (a : es_Q p m g q = true) (b : es_Q p m g r = true) : q = r := by
  obtain ⟨j, _, h1, h2⟩ := es_meet (fun j _ h => es_in_me h) (fun j _ h => es_in_me h) (es_Q_iff.mp a) (es_Q_iff.mp b)
  exact (es_in_iff.mp h1).2.2.symm.trans (es_in_iff.mp h2).2.2
/-- the group that is found is a quorum and one of three -/
theorem es_qg_Q {p m g : Nat → Int32} (h : ¬ es_qg p m g = -1) : es_Q p m g (es_qg p m g) = true ∧ ∃ k, k < 3 ∧ es_qg p m g = nI k := by
  unfold es_qg at h ⊢
  by_cases h0 : es_Q p m g 0 = true
  · rw [if_pos h0]; exact ⟨h0, 0, by omega, rfl⟩
  · rw [if_neg h0] at h ⊢
    by_cases h1 : es_Q p m g 1 = true
    · rw [if_pos h1]; exact ⟨h1, 1, by omega, rfl⟩
    · rw [if_neg h1] at h ⊢
      by_cases h2 : es_Q p m g 2 = true
      · rw [if_pos h2]; exact ⟨h2, 2, by omega, rfl⟩
      · rw [if_neg h2] at h; exact absurd rfl h
theorem es_qg_of {p m g : Nat → Int32} {k : Nat} (hk : k < 3) (h : es_Q p m g (nI k) = true) : es_qg p m g = nI k := by
  apply Classical.byContradiction
  intro z
  by_cases y : es_qg p m g = -1
  · unfold es_qg at y
    by_cases h0 : es_Q p m g 0 = true
    · rw [if_pos h0] at y; exact absurd y (by decide)
    · rw [if_neg h0] at y
      by_cases h1 : es_Q p m g 1 = true
      · rw [if_pos h1] at y; exact absurd y (by decide)
      · rw [if_neg h1] at y
        by_cases h2 : es_Q p m g 2 = true
        · rw [if_pos h2] at y; exact absurd y (by decide)
        · rcases (by omega : k = 0 ∨ k = 1 ∨ k = 2) with rfl | rfl | rfl
          · exact h0 h
          · exact h1 h
          · exact h2 h
  · exact z (es_uniq (es_qg_Q y).1 h)
theorem es_mk_at (f : Nat → Bool) (c : Nat → Int32) (j : Nat) : ∀ k, es_mk f c k j = if j < k ∧ f j = false then 0 else c j
  | 0 => by rw [if_neg (by omega)]; rfl
  | k + 1 => by
    have ih := es_mk_at f c j k
    simp only [es_mk]
    cases e : f k with
    | true =>
      rw [if_pos rfl, ih]
      by_cases e2 : j = k
      · subst e2; rw [if_neg (by omega), if_neg (by rw [e]; simp)]
      · by_cases e3 : j < k ∧ f j = false
        · rw [if_pos e3, if_pos ⟨by omega, e3.2⟩]
        · rw [if_neg e3, if_neg (fun z => e3 ⟨by omega, z.2⟩)]
    | false =>
      rw [if_neg (by decide)]
      by_cases e2 : j = k
      · subst e2; rw [pk_us, if_pos ⟨by omega, e⟩]
      · rw [pk_un e2, ih]
        by_cases e3 : j < k ∧ f j = false
        · rw [if_pos e3, if_pos ⟨by omega, e3.2⟩]
        · rw [if_neg e3, if_neg (fun z => e3 ⟨by omega, z.2⟩)]
theorem es_rc_at (f : Nat → Bool) (c : Nat → Int32) (j : Nat) : ∀ k, es_rc f c k j = if j < k ∧ f j = true then 1 else c j
  | 0 => by rw [if_neg (by omega)]; rfl
  | k + 1 => by
    have ih := es_rc_at f c j k
    simp only [es_rc]
    cases e : f k with
    | false =>
      rw [if_neg (by decide), ih]
      by_cases e2 : j = k
      · subst e2; rw [if_neg (by omega), if_neg (by rw [e]; simp)]
      · by_cases e3 : j < k ∧ f j = true
        · rw [if_pos e3, if_pos ⟨by omega, e3.2⟩]
        · rw [if_neg e3, if_neg (fun z => e3 ⟨by omega, z.2⟩)]
    | true =>
      rw [if_pos rfl]
      by_cases e2 : j = k
      · subst e2; rw [pk_us, if_pos ⟨by omega, e⟩]
      · rw [pk_un e2, ih]
        by_cases e3 : j < k ∧ f j = true
        · rw [if_pos e3, if_pos ⟨by omega, e3.2⟩]
        · rw [if_neg e3, if_neg (fun z => e3 ⟨by omega, z.2⟩)]
theorem es_mk2 (f : Nat → Bool) (c : Nat → Int32) : es_mk f (es_mk f c 5) 5 = es_mk f c 5 := by
  funext j
  rw [es_mk_at, es_mk_at]
  by_cases e : j < 5 ∧ f j = false
  · rw [if_pos e, if_pos e]
  · rw [if_neg e]
theorem es_C_cp {st cx cy : Nat → Int32} {k : Nat} (hk : k < 5) (h : es_C st cx cy) : ∀ i, i ≤ 14 → es_C st (es_cp st k cx i) (es_cq k cy i)
  | 0, _ => h
  | i + 1, hi => by
    have ih := es_C_cp hk h i (by omega)
    have e : 14 * k + i = k * 14 + i := by omega
    refine ⟨fun j hj => ?_, fun j hj => ?_⟩
    · simp only [es_cp, es_cq]
      rw [e, ih.2 i (by omega)]
      by_cases z : j = k * 14 + i
      · subst z; rw [pk_us, pk_us]
      · rw [pk_un z, pk_un z]; exact ih.1 j hj
    · simp only [es_cq]
      rw [pk_un (by omega)]; exact ih.2 j hj
theorem es_C_rf {st cx cy : Nat → Int32} {f : Nat → Bool} (h : es_C st cx cy) : ∀ i, i ≤ 5 → es_C st (es_rf st f cx i) (es_rg f cy i)
  | 0, _ => h
  | i + 1, hi => by
    have ih := es_C_rf (f := f) h i (by omega)
    simp only [es_rf, es_rg]
    cases e : f i with
    | true => rw [if_pos rfl, if_pos rfl]; exact es_C_cp (by omega) ih 14 (by omega)
    | false => rw [if_neg (by decide), if_neg (by decide)]; exact ih
theorem es_C_d {st cx cy : Nat → Int32} (h : es_C st cx cy) (k : Nat) (num a b : Int32) : es_C (es_dx st k num a b) cx (es_dy cy k num a b) := by
  have hk : k % 6 < 6 := Nat.mod_lt _ (by omega)
  have hs : k / 6 % 4 < 4 := Nat.mod_lt _ (by omega)
  unfold es_dx es_dy
  rw [h.2 (k % 6) (by omega)]
  generalize st (k % 6) = x
  generalize es_r (k / 24) x a b = r
  generalize k % 6 = e at hk
  generalize k / 6 % 4 = s at hs
  refine ⟨fun j hj => ?_, fun j hj => ?_⟩
  · rw [pk_un (by omega), pk_un (by omega), pk_un (by omega)]; exact h.1 j hj
  · by_cases h1 : j = 10 + s
    · subst h1; rw [show 70 + (10 + s) = 80 + s from by omega, pk_us, pk_us]
    · rw [pk_un (by omega), pk_un h1]
      by_cases h2 : j = 6 + s
      · subst h2; rw [show 70 + (6 + s) = 76 + s from by omega, pk_us, pk_us]
      · rw [pk_un (by omega), pk_un h2]
        by_cases h3 : j = e
        · subst h3; rw [pk_us, pk_us]
        · rw [pk_un (by omega), pk_un h3]; exact h.2 j hj
theorem es_fr_some {h : Nat → Bool} : ∀ k, k ≤ 5 → (∃ n, 5 - k ≤ n ∧ n < 5 ∧ h n = true) → ∃ n, n < 5 ∧ h n = true ∧ es_fr h k = nI n
  | 0, _, ⟨n, a, b, _⟩ => absurd b (by omega)
  | k + 1, hk, ⟨n, a, b, e⟩ => by
    simp only [es_fr]
    by_cases z : h (4 - k) = true
    · rw [if_pos z]; exact ⟨4 - k, by omega, z, rfl⟩
    · rw [if_neg z]
      refine es_fr_some k (by omega) ⟨n, ?_, b, e⟩
      by_cases y : n = 4 - k
      · subst y; exact absurd e z
      · omega
