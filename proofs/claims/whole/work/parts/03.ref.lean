section
variable {ly ip hy yc yn ya yb : Int32} {p g m c cy : Nat → Int32}
theorem ya_bad {post : Int32 → Prop} {n : Nat} (hn : n < 5) (h : post 0) : wpY_badNode post (ly, ip, hy, yc, yn, ya, yb, p, g, m, c, cy) (nI n) :=
  br_f (nI_pos (by omega)) (br_t (nI_le (b := 4) (by omega) (by omega)) h)
theorem ya_cm {post : Int32 → Prop} (h : post (nI (es_cnt (es_me m) 5))) : wpY_countMembers post (ly, ip, hy, yc, yn, ya, yb, p, g, m, c, cy) := by
  refine loop_0 (fun n i (s : Int32) => wY_countMembers_4 post ly ip hy yc yn ya yb p g m c cy n s (nI i)) (fun i s => s = nI (es_cnt (es_me m) i)) 5 0 rfl ?_ ?_
  · intro n s hs; subst hs; exact br_t (nI_le (Nat.le_refl 5) (by omega)) h
  · intro n i s hi hs ih
    subst hs
    have e : (nI i).toNatClampNeg = i := nI_clamp (by omega)
    refine br_f (nI_ge (b := 5) hi (by omega)) ⟨vp_in_nI hi (by omega), br_c (fun a => nm_r (nI_1 i) (ih _ (es_cf ?_))) (fun a => nm_e (nm_r (nI_1 i) (ih _ (es_ct ?_))))⟩
    · rw [e] at a; exact decide_eq_false (fun z => z a)
    · rw [e] at a; exact decide_eq_true a
theorem ya_cu {post : Int32 → Prop} {q : Int32} (h : post (nI (es_cnt (es_in p m g q) 5))) : wpY_countUp post (ly, ip, hy, yc, yn, ya, yb, p, g, m, c, cy) q := by
  refine loop_0 (fun n i (s : Int32) => wY_countUp_4 post q ly ip hy yc yn ya yb p g m c cy n s (nI i)) (fun i s => s = nI (es_cnt (es_in p m g q) i)) 5 0 rfl ?_ ?_
  · intro n s hs; subst hs; exact br_t (nI_le (Nat.le_refl 5) (by omega)) h
  · intro n i s hi hs ih
    subst hs
    have e : (nI i).toNatClampNeg = i := nI_clamp (by omega)
    have v : vp_in (nI i) 5 := vp_in_nI hi (by omega)
    refine br_f (nI_ge (b := 5) hi (by omega)) ⟨v, br_c (fun a => nm_r (nI_1 i) (ih _ (es_cf ?_))) (fun a => ⟨v, br_c (fun b => nm_r (nI_1 i) (ih _ (es_cf ?_))) (fun b => ⟨v, br_c (fun d => nm_e (nm_r (nI_1 i) (ih _ (es_ct ?_)))) (fun d => nm_r (nI_1 i) (ih _ (es_cf ?_)))⟩)⟩)⟩
    · rw [e] at a; exact decide_eq_false (fun z => z.1 a)
    · rw [e] at b; exact decide_eq_false (fun z => z.2.1 b)
    · rw [e] at a b d; exact decide_eq_true ⟨a, b, d⟩
    · rw [e] at d; exact decide_eq_false (fun z => d z.2.2)
/-- one turn of the search for a quorum -/
theorem ya_q1 {q : Int32} {A B : Prop} (h1 : es_Q p m g q = true → B) (h0 : es_Q p m g q = false → A) : (2 * nI (es_cnt (es_in p m g q) 5) ≤ nI (es_cnt (es_me m) 5) → A) ∧ (¬ 2 * nI (es_cnt (es_in p m g q) 5) ≤ nI (es_cnt (es_me m) 5) → B) := by
  have l1 := es_cnt_le (es_in p m g q) 5
  have l2 := es_cnt_le (es_me m) 5
  refine br_c (fun a => h0 ?_) (fun a => h1 ?_)
  · rw [es_2, nI_leI (by omega) (by omega)] at a; exact decide_eq_false (by omega)
  · rw [es_2, nI_leI (by omega) (by omega)] at a; exact decide_eq_true (by omega)
theorem ya_q {post : Int32 → Prop} (h : post (es_qg p m g)) : wpY_quorum post (ly, ip, hy, yc, yn, ya, yb, p, g, m, c, cy) := by
  refine ⟨4, br_f (by decide) (ya_cu (ya_cm (ya_q1 (fun a => ?_) (fun a => nm_r (e' := 1) rfl ?_))))⟩
  · unfold es_qg at h; rw [if_pos a] at h; exact h
  · refine br_f (by decide) (ya_cu (ya_cm (ya_q1 (fun b => ?_) (fun b => nm_r (e' := 2) rfl ?_))))
    · unfold es_qg at h; rw [a, if_neg (by decide), if_pos b] at h; exact h
    · refine br_f (by decide) (ya_cu (ya_cm (ya_q1 (fun d => ?_) (fun d => nm_r (e' := 3) rfl ?_))))
      · unfold es_qg at h; rw [a, if_neg (by decide), b, if_neg (by decide), if_pos d] at h; exact h
      · refine br_t (by decide) ?_
        unfold es_qg at h; rw [a, if_neg (by decide), b, if_neg (by decide), d, if_neg (by decide)] at h; exact h
theorem es_qn {q : Int32} (hq : es_qg p m g = q) (h1 : ¬ q = -1) : ¬ q < 0 ∧ 0 ≤ q := by
  subst hq
  obtain ⟨_, k, hk, e⟩ := es_qg_Q h1
  rw [e]; exact ⟨nI_pos (by omega), nI_pos' (by omega)⟩
theorem ya_in {post : Int32 → Prop} {q : Int32} {n : Nat} (hq : es_qg p m g = q) (hn1 : ¬ q = -1) (hn : n < 5) (h1 : es_in p m g q n = true → post 1) (h0 : es_in p m g q n = false → post 0) : wpY_isIn post (ly, ip, hy, yc, yn, ya, yb, p, g, m, c, cy) (nI n) := by
  have e : (nI n).toNatClampNeg = n := nI_clamp (by omega)
  have v : vp_in (nI n) 5 := vp_in_nI hn (by omega)
  have z := (es_qn hq hn1).1
  subst hq
  unfold wpY_isIn
  refine ya_q (br_f z ⟨v, br_c (fun a => h0 ?_) (fun a => ⟨v, br_c (fun b => h0 ?_) (fun b => ⟨v, br_c (fun d => h1 ?_) (fun d => h0 ?_)⟩)⟩)⟩)
  · rw [e] at a; exact decide_eq_false (fun z => z.1 a)
  · rw [e] at b; exact decide_eq_false (fun z => z.2.1 b)
  · rw [e] at a b d; exact decide_eq_true ⟨a, b, d⟩
  · rw [e] at d; exact decide_eq_false (fun z => d z.2.2)
theorem ya_step {post : SY → Prop} {q : Int32} (hq : es_qg p m g = q) (h1 : ¬ q = -1) (h : post (ly, ip, hy, yc, yn, ya, yb, p, g, m, es_mk (es_in p m g q) c 5, cy)) : wpY_step post (ly, ip, hy, yc, yn, ya, yb, p, g, m, c, cy) := by
  refine loop_0 (fun n i (s : Nat → Int32) => wY_step_2 post ly ip hy yc yn ya yb n (nI i) p g m s cy) (fun i s => s = es_mk (es_in p m g q) c i) 5 c rfl ?_ ?_
  · intro n s hs; subst hs; exact br_t (nI_le (Nat.le_refl 5) (by omega)) h
  · intro n i s hi hs ih
    subst hs
    refine br_f (nI_ge (b := 5) hi (by omega)) (ya_in hq h1 hi (fun a => br_f (by decide) (nm_r (nI_1 i) (ih _ ?_))) (fun a => br_t rfl ⟨vp_in_nI hi (by omega), nm_e (nm_r (nI_1 i) (ih _ ?_))⟩))
    · simp only [es_mk]; rw [if_pos a]
    · rw [nI_clamp (by omega), es_b0]; simp only [es_mk]; rw [a, if_neg (by decide)]
theorem ya_changed {post : Int32 → Prop} {k : Nat} {x a b : Int32} (hk : k < 3) (h : post (es_r k x a b)) : wpY_changed post (ly, ip, hy, yc, yn, ya, yb, p, g, m, c, cy) (nI k) x a b := by
  unfold es_r at h
  refine br_c (fun z => ?_) (fun z => br_c (fun y => ?_) (fun y => br_c (fun w => ?_) (fun w => ?_)))
  all_goals rw [show (0 : Int32) = nI 0 from rfl, nI_eq (by omega) (by omega)] at z
  · rw [if_pos z] at h; exact h
  all_goals rw [show (1 : Int32) = nI 1 from rfl, nI_eq (by omega) (by omega)] at y
  · rw [if_neg z, if_pos y] at h; exact h
  · rw [if_neg z, if_neg y, if_pos w] at h; exact h
  · rw [if_neg z, if_neg y, if_neg w] at h; exact h
theorem ya_carry {post : SY → Prop} {q : Int32} {k : Nat} {num a b : Int32} (hq : es_qg p m g = q) (h1 : ¬ q = -1) (hk : k < 72) (h : post (ly, ip, hy, yc, yn, ya, yb, p, g, m, es_mk (es_in p m g q) c 5, es_dy cy k num a b)) : wpY_carryOut post (ly, ip, hy, yc, yn, ya, yb, p, g, m, c, cy) (nI k) num a b := by
  obtain ⟨e1, e2, e3⟩ := es_cd hk
  have h6 : k % 6 < 6 := Nat.mod_lt _ (by omega)
  have hs : k / 6 % 4 < 4 := Nat.mod_lt _ (by omega)
  have a1 : 70 + nI (k % 6) = nI (70 + k % 6) := nI_add 70 _
  have a2 : 76 + nI (k / 6 % 4) = nI (76 + k / 6 % 4) := nI_add 76 _
  have a3 : 80 + nI (k / 6 % 4) = nI (80 + k / 6 % 4) := nI_add 80 _
  unfold wpY_carryOut
  refine ⟨by decide, nm_r e2 ⟨by decide, by decide, nm_r e3 ?_⟩⟩
  rw [a1, a2, a3, nI_clamp (by omega), nI_clamp (by omega), nI_clamp (by omega), e1]
  refine ⟨vp_in_nI (by omega) (by omega), nm_e ⟨by decide, ?_⟩⟩
  refine ya_changed (by omega) ⟨vp_in_nI (by omega) (by omega), nm_e ⟨vp_in_nI (by omega) (by omega), nm_e ⟨vp_in_nI (by omega) (by omega), nm_e ?_⟩⟩⟩
  exact ya_step hq h1 h
theorem ya_choose {post : SY → Prop} {q l : Int32} (hq : es_qg p m g = q) (h1 : ¬ q = -1) (h : post (l, ip, hy, yc, yn, ya, yb, p, g, m, es_mk (es_in p m g q) c 5, cy)) : wpY_choose post (ly, ip, hy, yc, yn, ya, yb, p, g, m, c, cy) l := by
  unfold wpY_choose
  exact ya_step hq h1 h
theorem ya_96 {post : SY → Prop} {q : Int32} {h : Nat → Bool} (hq : es_qg p m g = q) (h1 : ¬ q = -1) (H : ∀ n, n < 5 → (h n = true ↔ es_in p m g q n = true ∧ ¬ c n = 0 ∧ ¬ (¬ ip = 0 ∧ nI n = hy))) (hp : post (es_fr h 5, 0, hy, yc, yn, ya, yb, p, g, m, es_mk (es_in p m g q) c 5, cy)) : ∀ i, i ≤ 5 → wY_elect_96 post ly ip hy yc yn ya yb p g m c cy (i + 1) (es_fr h (5 - i)) (nI i + (-1))
  | 0, _ => br_t (by decide) (ya_choose hq h1 hp)
  | i + 1, hi => by
    have rr := ya_96 hq h1 H hp i (by omega)
    have hi : i < 5 := by omega
    have e : (nI i).toNatClampNeg = i := nI_clamp (by omega)
    have ef : es_fr h (5 - i) = if h i then nI i else es_fr h (5 - (i + 1)) := by
      rw [show 5 - i = (4 - i) + 1 from by omega, show 5 - (i + 1) = 4 - i from by omega]
      simp only [es_fr]
      rw [show 4 - (4 - i) = i from by omega]
    rw [ef] at rr
    rw [pk_m1]
    by_cases z : h i = true
    · rw [if_pos z] at rr
      obtain ⟨z1, z2, z3⟩ := (H _ hi).mp z
      refine br_f (nI_pos (by omega)) (ya_in hq h1 hi (fun _ => br_f (by decide) ⟨vp_in_nI hi (by omega), br_f (by rw [e]; exact z2) (br_c (fun _ => nm_e rr) (fun a => br_f (fun b => z3 ⟨a, b⟩) (nm_e rr)))⟩) (fun w => absurd z1 (by rw [w]; decide)))
    · rw [if_neg z] at rr
      refine br_f (nI_pos (by omega)) (ya_in hq h1 hi (fun w => br_f (by decide) ⟨vp_in_nI hi (by omega), br_c (fun _ => nm_e rr) (fun a => br_c (fun b => absurd ((H _ hi).mpr ⟨w, ?_, fun y => y.1 b⟩) z) (fun b => br_c (fun _ => nm_e rr) (fun d => absurd ((H _ hi).mpr ⟨w, ?_, fun y => d y.2⟩) z)))⟩) (fun _ => br_t rfl (nm_e rr)))
      · rw [e] at a; exact a
      · rw [e] at a; exact a
theorem ya_elN {post : SY → Prop} {q : Int32} {h k : Nat} (hq : es_qg p m g = q) (h1 : ¬ q = -1) (hh : h < 5) (hk : k < 72) (nd : es_nd p m g q h = true) (hp : post (nI h, 0, nI h, nI k, yn, ya, yb, p, g, m, es_mk (es_in p m g q) c 5, es_dy cy k yn ya yb)) : wpY_elect post (ly, 1, nI h, nI k, yn, ya, yb, p, g, m, c, cy) := by
  have a : es_in p m g q h = true := by
    unfold es_nd at nd; exact (Bool.and_eq_true _ _ ▸ nd).1
  have l : ¬ nI (es_cnt (es_me m) 5) < 2 * (nI (es_cnt (es_in p m g q) 5) - 1) := by
    rw [es_less1 hh a, ← es_nd_iff a, nd]; decide
  unfold wpY_elect
  refine br_f (by decide) (ya_in hq h1 hh (fun _ => br_f (by decide) ?_) (fun w => absurd a (by rw [w]; decide)))
  refine br_f (by decide) (ya_q ?_)
  rw [hq]
  refine ya_cu (ya_cm (br_f l ?_))
  refine br_f (by decide) (ya_choose hq h1 (ya_carry hq h1 hk ?_))
  rw [es_mk2]
  exact hp
theorem ya_el51 {post : SY → Prop} {q : Int32} {hh : Nat → Bool} (hq : es_qg p m g = q) (h1 : ¬ q = -1) (H : ∀ n, n < 5 → (hh n = true ↔ es_in p m g q n = true ∧ ¬ c n = 0 ∧ ¬ (¬ ip = 0 ∧ nI n = hy))) (hp : post (es_fr hh 5, 0, hy, yc, yn, ya, yb, p, g, m, es_mk (es_in p m g q) c 5, cy)) : wY_elect_51 post ly ip hy yc yn ya yb p g m c cy :=
  br_t rfl ⟨6, ya_96 hq h1 H hp 5 (by omega)⟩
theorem ya_elL {post : SY → Prop} {q : Int32} {hh : Nat → Bool} (hq : es_qg p m g = q) (h1 : ¬ q = -1) (w : ip = 0 ∨ ∃ h, h < 5 ∧ ip = 1 ∧ hy = nI h ∧ es_nd p m g q h = false) (H : ∀ n, n < 5 → (hh n = true ↔ es_in p m g q n = true ∧ ¬ c n = 0 ∧ ¬ (¬ ip = 0 ∧ nI n = hy))) (hp : post (es_fr hh 5, 0, hy, yc, yn, ya, yb, p, g, m, es_mk (es_in p m g q) c 5, cy)) : wpY_elect post (ly, ip, hy, yc, yn, ya, yb, p, g, m, c, cy) := by
  have k51 := ya_el51 (ly := ly) hq h1 H hp
  unfold wpY_elect
  rcases w with rfl | ⟨h, hh5, rfl, rfl, nd⟩
  · exact br_t rfl (br_t rfl k51)
  · refine br_f (by decide) (ya_in hq h1 hh5 (fun a => br_f (by decide) ?_) (fun a => br_t rfl (br_t rfl k51)))
    refine br_f (by decide) (ya_q ?_)
    rw [hq]
    exact ya_cu (ya_cm (br_t ((es_less1 hh5 a).mpr ((es_nd_iff a).mp nd)) k51))
theorem ya_59 {post : SY → Prop} {J : Int32 → (Nat → Int32) → (Nat → Int32) → (Nat → Int32) → (Nat → Int32) → (Nat → Int32) → Prop} {k : Nat} (hk : k < 5) (h : J (nI (k + 1)) p g m c (es_cq k cy 14)) : ∃ n, wY_settle_59 post J (nI k) ly ip hy yc yn ya yb n 0 p g m c cy := by
  refine loop_0 (fun n i (s : Nat → Int32) => wY_settle_59 post J (nI k) ly ip hy yc yn ya yb n (nI i) p g m c s) (fun i s => s = es_cq k cy i) 14 cy rfl ?_ ?_
  · intro n s hs; subst hs; exact br_t (nI_le (Nat.le_refl 14) (by omega)) (nm_r (nI_1 k) h)
  · intro n i s hi hs ih
    subst hs
    have a1 : 70 + nI i = nI (70 + i) := nI_add 70 _
    refine br_f (nI_ge (b := 14) hi (by omega)) ?_
    rw [a1, es_41, nI_clamp (by omega), nI_clamp (by omega)]
    exact ⟨vp_in_nI (by omega) (by omega), vp_in_nI (by omega) (by omega), nm_e (nm_r (nI_1 i) (ih _ rfl))⟩
theorem ya_37 {post : SY → Prop} {q : Int32} (hq : es_qg p m g = q) (h1 : ¬ q = -1) (h : post (ly, ip, hy, yc, yn, ya, yb, p, g, m, es_rc (es_in p m g q) c 5, es_rg (es_in p m g q) cy 5)) : ∃ n, wY_settle_37 post ly ip hy yc yn ya yb n 0 p g m c cy := by
  refine loop_0 (fun n i (s : (Nat → Int32) × (Nat → Int32)) => wY_settle_37 post ly ip hy yc yn ya yb n (nI i) p g m s.1 s.2) (fun i s => s = (es_rc (es_in p m g q) c i, es_rg (es_in p m g q) cy i)) 5 (c, cy) rfl ?_ ?_
  · intro n s hs; subst hs; exact br_t (nI_le (Nat.le_refl 5) (by omega)) h
  · intro n i s hi hs ih
    subst hs
    refine br_f (nI_ge (b := 5) hi (by omega)) (ya_in hq h1 hi (fun a => br_f (by decide) ⟨vp_in_nI hi (by omega), nm_e (ya_59 hi (ih (upd (es_rc (es_in p m g q) c i) (nI i).toNatClampNeg (vp_nar .boolean 1), es_cq i (es_rg (es_in p m g q) cy i) 14) ?_))⟩) (fun a => br_t rfl (nm_r (nI_1 i) (ih (es_rc (es_in p m g q) c i, es_rg (es_in p m g q) cy i) ?_))))
    · rw [nI_clamp (by omega), es_b1]; simp only [es_rc, es_rg]; rw [if_pos a, if_pos a]
    · simp only [es_rc, es_rg]; rw [a, if_neg (by decide), if_neg (by decide)]
theorem ya_s0 {post : SY → Prop} (hq : es_qg p m g = -1) (h : post (-1, ip, hy, yc, yn, ya, yb, p, g, m, c, cy)) : wpY_settle post (ly, ip, hy, yc, yn, ya, yb, p, g, m, c, cy) := by
  unfold wpY_settle
  refine ya_q ?_
  rw [hq]
  exact br_f (by decide) h
theorem ya_s1 {post : SY → Prop} {q : Int32} {n : Nat} (hq : es_qg p m g = q) (h1 : ¬ q = -1) (hn : n < 5) (hi : es_in p m g q n = true) (h : post (nI n, ip, hy, yc, yn, ya, yb, p, g, m, es_rc (es_in p m g q) c 5, es_rg (es_in p m g q) cy 5)) : wpY_settle post (nI n, ip, hy, yc, yn, ya, yb, p, g, m, c, cy) := by
  unfold wpY_settle
  refine ya_q ?_
  rw [hq]
  exact br_t (es_qn hq h1).2 (br_f (nI_pos (by omega)) (ya_in hq h1 hn (fun _ => br_f (by decide) (ya_37 hq h1 h)) (fun z => absurd hi (by rw [z]; decide))))
/-- a settling with a quorum whose leader is not in it -/
theorem ya_sE {post : SY → Prop} {q : Int32} (hq : es_qg p m g = q) (h1 : ¬ q = -1) (w : es_W ly) (o : ∀ n, n < 5 → ly = nI n → es_in p m g q n = false) (h : wY_settle_31 post ly ip hy yc yn ya yb p g m c cy) : wpY_settle post (ly, ip, hy, yc, yn, ya, yb, p, g, m, c, cy) := by
  unfold wpY_settle
  refine ya_q ?_
  rw [hq]
  refine br_t (es_qn hq h1).2 ?_
  rcases w with rfl | ⟨n, hn, rfl⟩
  · exact br_t (by decide) h
  · exact br_f (nI_pos (by omega)) (ya_in hq h1 hn (fun z => absurd z (by rw [o n hn rfl]; decide)) (fun _ => br_t rfl h))
theorem ya_sN {post : SY → Prop} {q : Int32} {h k : Nat} (hq : es_qg p m g = q) (h1 : ¬ q = -1) (w : es_W ly) (o : ∀ n, n < 5 → ly = nI n → es_in p m g q n = false) (hh : h < 5) (hk : k < 72) (nd : es_nd p m g q h = true)
    (hp : post (nI h, 0, nI h, nI k, yn, ya, yb, p, g, m, es_rc (es_in p m g q) (es_mk (es_in p m g q) c 5) 5, es_rg (es_in p m g q) (es_dy cy k yn ya yb) 5)) : wpY_settle post (ly, 1, nI h, nI k, yn, ya, yb, p, g, m, c, cy) := by
  refine ya_sE hq h1 w o ?_
  unfold wY_settle_31
  exact ya_elN hq h1 hh hk nd (ya_37 hq h1 hp)
theorem ya_sL {post : SY → Prop} {q : Int32} {hh : Nat → Bool} (hq : es_qg p m g = q) (h1 : ¬ q = -1) (wl : es_W ly) (o : ∀ n, n < 5 → ly = nI n → es_in p m g q n = false) (w : ip = 0 ∨ ∃ h, h < 5 ∧ ip = 1 ∧ hy = nI h ∧ es_nd p m g q h = false) (H : ∀ n, n < 5 → (hh n = true ↔ es_in p m g q n = true ∧ ¬ c n = 0 ∧ ¬ (¬ ip = 0 ∧ nI n = hy)))
    (hp : post (es_fr hh 5, 0, hy, yc, yn, ya, yb, p, g, m, es_rc (es_in p m g q) (es_mk (es_in p m g q) c 5) 5, es_rg (es_in p m g q) cy 5)) : wpY_settle post (ly, ip, hy, yc, yn, ya, yb, p, g, m, c, cy) := by
  refine ya_sE hq h1 wl o ?_
  unfold wY_settle_31
  exact ya_elL hq h1 w H (ya_37 hq h1 hp)
end
