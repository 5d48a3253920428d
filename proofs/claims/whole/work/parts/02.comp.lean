theorem es_b0 : vp_nar .boolean 0 = 0 := rfl
theorem es_b1 : vp_nar .boolean 1 = 1 := rfl
theorem es_ct {f : Nat → Bool} {i : Nat} (h : f i = true) : nI (es_cnt f i) + 1 = nI (es_cnt f (i + 1)) := by
  rw [nI_1]; simp only [es_cnt, h]; rfl
theorem es_cf {f : Nat → Bool} {i : Nat} (h : f i = false) : nI (es_cnt f i) = nI (es_cnt f (i + 1)) := by
  simp only [es_cnt, h]; rfl
theorem es_2 (a : Nat) : (2 : Int32) * nI a = nI (2 * a) := pk_mul 2 a
theorem es_14 (k i : Nat) : nI k * 14 + nI i = nI (k * 14 + i) := by rw [show (14 : Int32) = nI 14 from rfl, pk_mul, nI_add]
theorem es_41 (k i : Nat) : 14 * nI k + nI i = nI (14 * k + i) := by rw [show (14 : Int32) = nI 14 from rfl, pk_mul, nI_add]
theorem es_cd {k : Nat} (h : k < 72) : nI k / 24 = nI (k / 24) ∧ nI k - nI k / 6 * 6 = nI (k % 6) ∧ (nI k / 6) - (nI k / 6) / 4 * 4 = nI (k / 6 % 4) := by
  refine ⟨pk_div (d := 24) (by omega) (by omega) (by omega), pk_rem (d := 6) (by omega) (by omega) (by omega), ?_⟩
  rw [show nI k / 6 = nI (k / 6) from pk_div (d := 6) (by omega) (by omega) (by omega)]
  exact pk_rem (d := 4) (by omega) (by omega) (by omega)
theorem es_upd_self (f : Nat → Int32) (k : Nat) : upd f k (f k) = f := by
  funext j
  by_cases h : j = k
  · subst h; exact pk_us
  · exact pk_un h
section
variable {ld hx pc pn pa pb : Int32} {p m c g st cx : Nat → Int32}
theorem xa_in {post : Int32 → Prop} {q : Int32} {n : Nat} (hn : n < 5) (h1 : es_in p m g q n = true → post 1) (h0 : es_in p m g q n = false → post 0) : wpX_isUpMemberIn post (ld, hx, pc, pn, pa, pb, p, m, c, g, st, cx) (nI n) q := by
  have e : (nI n).toNatClampNeg = n := nI_clamp (by omega)
  have v : vp_in (nI n) 5 := vp_in_nI hn (by omega)
  refine br_f (nI_pos (by omega)) (br_f (nI_ge (b := 5) hn (by omega)) ⟨v, br_c (fun a => h0 ?_) (fun a => ⟨v, br_c (fun b => h0 ?_) (fun b => ⟨v, br_c (fun d => h1 ?_) (fun d => h0 ?_)⟩)⟩)⟩)
  · rw [e] at a; exact decide_eq_false (fun z => z.1 a)
  · rw [e] at b; exact decide_eq_false (fun z => z.2.1 b)
  · rw [e] at a b d; exact decide_eq_true ⟨a, b, d⟩
  · rw [e] at d; exact decide_eq_false (fun z => d z.2.2)
theorem xa_in0 {post : Int32 → Prop} {q : Int32} (h : post 0) : wpX_isUpMemberIn post (ld, hx, pc, pn, pa, pb, p, m, c, g, st, cx) (-1) q := br_t (by decide) h
/-- a node or nobody, not in q -/
theorem xa_out {post : Int32 → Prop} {q l : Int32} (w : es_W l) (o : ∀ n, n < 5 → l = nI n → es_in p m g q n = false) (h : post 0) : wpX_isUpMemberIn post (ld, hx, pc, pn, pa, pb, p, m, c, g, st, cx) l q := by
  rcases w with rfl | ⟨n, hn, rfl⟩
  · exact xa_in0 h
  · exact xa_in hn (fun z => absurd z (by rw [o n hn rfl]; decide)) (fun _ => h)
theorem xa_umc {post : Int32 → Prop} {q : Int32} (h : post (nI (es_cnt (es_in p m g q) 5))) : wpX_upMemberCount post (ld, hx, pc, pn, pa, pb, p, m, c, g, st, cx) q := by
  refine loop_0 (fun n i (s : Int32) => wX_upMemberCount_4 post q ld hx pc pn pa pb p m c g st cx n s (nI i)) (fun i s => s = nI (es_cnt (es_in p m g q) i)) 5 0 rfl ?_ ?_
  · intro n s hs; subst hs; exact br_t (nI_le (Nat.le_refl 5) (by omega)) h
  · intro n i s hi hs ih
    subst hs
    exact br_f (nI_ge (b := 5) hi (by omega)) (xa_in hi (fun a => br_f (by decide) (nm_e (nm_r (nI_1 i) (ih _ (es_ct a))))) (fun a => br_t rfl (nm_r (nI_1 i) (ih _ (es_cf a)))))
theorem xa_mc {post : Int32 → Prop} (h : post (nI (es_cnt (es_me m) 5))) : wpX_memberCount post (ld, hx, pc, pn, pa, pb, p, m, c, g, st, cx) := by
  refine loop_0 (fun n i (s : Int32) => wX_memberCount_4 post ld hx pc pn pa pb p m c g st cx n s (nI i)) (fun i s => s = nI (es_cnt (es_me m) i)) 5 0 rfl ?_ ?_
  · intro n s hs; subst hs; exact br_t (nI_le (Nat.le_refl 5) (by omega)) h
  · intro n i s hi hs ih
    subst hs
    have e : (nI i).toNatClampNeg = i := nI_clamp (by omega)
    refine br_f (nI_ge (b := 5) hi (by omega)) ⟨vp_in_nI hi (by omega), br_c (fun a => nm_r (nI_1 i) (ih _ (es_cf ?_))) (fun a => nm_e (nm_r (nI_1 i) (ih _ (es_ct ?_))))⟩
    · rw [e] at a; exact decide_eq_false (fun z => z a)
    · rw [e] at a; exact decide_eq_true a
theorem xa_isQ {post : Int32 → Prop} {q : Int32} (h1 : es_Q p m g q = true → post 1) (h0 : es_Q p m g q = false → post 0) : wpX_isQuorum post (ld, hx, pc, pn, pa, pb, p, m, c, g, st, cx) q := by
  unfold wpX_isQuorum
  have l1 := es_cnt_le (es_in p m g q) 5
  have l2 := es_cnt_le (es_me m) 5
  refine xa_umc (xa_mc ?_)
  refine br_c (fun a => h0 ?_) (fun a => h1 ?_)
  · rw [es_2, nI_leI (by omega) (by omega)] at a; exact decide_eq_false (by omega)
  · rw [es_2, nI_leI (by omega) (by omega)] at a; exact decide_eq_true (by omega)
theorem xa_qg {post : Int32 → Prop} (h : post (es_qg p m g)) : wpX_quorumGroup post (ld, hx, pc, pn, pa, pb, p, m, c, g, st, cx) := by
  refine ⟨4, br_f (by decide) (xa_isQ (fun a => br_f (by decide) ?_) (fun a => br_t rfl (nm_r (e' := 1) rfl ?_)))⟩
  · unfold es_qg at h; rw [if_pos a] at h; exact h
  · refine br_f (by decide) (xa_isQ (fun b => br_f (by decide) ?_) (fun b => br_t rfl (nm_r (e' := 2) rfl ?_)))
    · unfold es_qg at h; rw [a, if_neg (by decide), if_pos b] at h; exact h
    · refine br_f (by decide) (xa_isQ (fun d => br_f (by decide) ?_) (fun d => br_t rfl (nm_r (e' := 3) rfl ?_)))
      · unfold es_qg at h; rw [a, if_neg (by decide), b, if_neg (by decide), if_pos d] at h; exact h
      · refine br_t (by decide) ?_
        unfold es_qg at h; rw [a, if_neg (by decide), b, if_neg (by decide), d, if_neg (by decide)] at h; exact h
theorem xa_ls {post : Int32 → Prop} {q hb : Int32} {h : Nat → Bool} (H : ∀ n, n < 5 → (h n = true ↔ es_in p m g q n = true ∧ ¬ c n = 0 ∧ ¬ nI n = hb)) : ∀ k, k ≤ 5 → post (es_fr h k) → wX_leastCurrent_2 post q hb ld hx pc pn pa pb p m c g st cx (k + 1) (nI (5 - k))
  | 0, _, hp => br_t (nI_le (Nat.le_refl 5) (by omega)) hp
  | k + 1, hk, hp => by
    have hi : 4 - k < 5 := by omega
    have e : (nI (4 - k)).toNatClampNeg = 4 - k := nI_clamp (by omega)
    have r : nI (4 - k) + 1 = nI (5 - k) := by rw [nI_1, show 4 - k + 1 = 5 - k from by omega]
    rw [show 5 - (k + 1) = 4 - k from by omega]
    simp only [es_fr] at hp
    by_cases z : h (4 - k) = true
    · rw [if_pos z] at hp
      obtain ⟨z1, z2, z3⟩ := (H _ hi).mp z
      refine br_f (nI_ge (b := 5) hi (by omega)) (br_f z3 ⟨vp_in_nI hi (by omega), br_f (by rw [e]; exact z2) (xa_in hi (fun _ => br_f (by decide) hp) (fun w => absurd z1 (by rw [w]; decide)))⟩)
    · rw [if_neg z] at hp
      have rr := xa_ls H k (by omega) hp
      refine br_f (nI_ge (b := 5) hi (by omega)) (br_c (fun a => nm_r r rr) (fun a => ⟨vp_in_nI hi (by omega), br_c (fun b => nm_r r rr) (fun b => xa_in hi (fun w => absurd ((H _ hi).mpr ⟨w, ?_, a⟩) z) (fun w => br_t rfl (nm_r r rr)))⟩))
      rw [e] at b; exact b
theorem xa_least {post : Int32 → Prop} {q hb : Int32} {h : Nat → Bool} (H : ∀ n, n < 5 → (h n = true ↔ es_in p m g q n = true ∧ ¬ c n = 0 ∧ ¬ nI n = hb)) (hp : post (es_fr h 5)) : wpX_leastCurrent post (ld, hx, pc, pn, pa, pb, p, m, c, g, st, cx) q hb := ⟨6, xa_ls H 5 (by omega) hp⟩
theorem xa_mark {post : SX → Prop} {q : Int32} (h : post (ld, hx, pc, pn, pa, pb, p, m, es_mk (es_in p m g q) c 5, g, st, cx)) : wpX_markStep post (ld, hx, pc, pn, pa, pb, p, m, c, g, st, cx) q := by
  refine loop_0 (fun n i (s : Nat → Int32) => wX_markStep_2 post q ld hx pc pn pa pb n (nI i) p m s g st cx) (fun i s => s = es_mk (es_in p m g q) c i) 5 c rfl ?_ ?_
  · intro n s hs; subst hs; exact br_t (nI_le (Nat.le_refl 5) (by omega)) h
  · intro n i s hi hs ih
    subst hs
    refine br_f (nI_ge (b := 5) hi (by omega)) (xa_in hi (fun a => br_f (by decide) (nm_r (nI_1 i) (ih _ ?_))) (fun a => br_t rfl ⟨vp_in_nI hi (by omega), nm_e (nm_r (nI_1 i) (ih _ ?_))⟩))
    · simp only [es_mk]; rw [if_pos a]
    · rw [nI_clamp (by omega), es_b0]; simp only [es_mk]; rw [a, if_neg (by decide)]
theorem xa_copy {post : SX → Prop} {k : Nat} (hk : k < 5) (h : post (ld, hx, pc, pn, pa, pb, p, m, c, g, st, es_cp st k cx 14)) : wpX_copyStateTo post (ld, hx, pc, pn, pa, pb, p, m, c, g, st, cx) (nI k) := by
  refine loop_0 (fun n i (s : Nat → Int32) => wX_copyStateTo_2 post (nI k) ld hx pc pn pa pb n (nI i) p m c g st s) (fun i s => s = es_cp st k cx i) 14 cx rfl ?_ ?_
  · intro n s hs; subst hs; exact br_t (nI_le (Nat.le_refl 14) (by omega)) h
  · intro n i s hi hs ih
    subst hs
    refine br_f (nI_ge (b := 14) hi (by omega)) ⟨vp_in_nI hi (by omega), ?_⟩
    rw [es_14, nI_clamp (by omega), nI_clamp (by omega)]
    exact ⟨vp_in_nI (by omega) (by omega), nm_e (nm_r (nI_1 i) (ih _ rfl))⟩
theorem xa_ref {post : SX → Prop} {q : Int32} (h : post (ld, hx, pc, pn, pa, pb, p, m, es_rc (es_in p m g q) c 5, g, st, es_rf st (es_in p m g q) cx 5)) : wpX_refreshQuorum post (ld, hx, pc, pn, pa, pb, p, m, c, g, st, cx) q := by
  refine loop_0 (fun n i (s : (Nat → Int32) × (Nat → Int32)) => wX_refreshQuorum_2 post q n (nI i) ld hx pc pn pa pb p m s.1 g st s.2) (fun i s => s = (es_rc (es_in p m g q) c i, es_rf st (es_in p m g q) cx i)) 5 (c, cx) rfl ?_ ?_
  · intro n s hs; subst hs; exact br_t (nI_le (Nat.le_refl 5) (by omega)) h
  · intro n i s hi hs ih
    subst hs
    refine br_f (nI_ge (b := 5) hi (by omega)) (xa_in hi (fun a => br_f (by decide) ⟨vp_in_nI hi (by omega), nm_e (xa_copy hi (nm_r (nI_1 i) (ih (upd (es_rc (es_in p m g q) c i) (nI i).toNatClampNeg (vp_nar .boolean 1), es_cp st i (es_rf st (es_in p m g q) cx i) 14) ?_)))⟩) (fun a => br_t rfl (nm_r (nI_1 i) (ih (_, _) ?_))))
    · rw [nI_clamp (by omega), es_b1]; simp only [es_rc, es_rf]; rw [if_pos a, if_pos a]
    · simp only [es_rc, es_rf]; rw [a, if_neg (by decide), if_neg (by decide)]
theorem es_nd_iff {q : Int32} {h : Nat} (a : es_in p m g q h = true) : es_nd p m g q h = false ↔ es_cnt (es_me m) 5 < 2 * (es_cnt (es_in p m g q) 5 - 1) := by
  unfold es_nd
  rw [a, Bool.true_and, Bool.not_eq_false', decide_eq_true_iff]
theorem es_pos {f : Nat → Bool} {h : Nat} (e : f h = true) : ∀ i, h < i → 0 < es_cnt f i
  | 0, z => absurd z (by omega)
  | i + 1, z => by
    simp only [es_cnt]
    by_cases y : h = i
    · subst y; rw [e]; exact Nat.succ_pos _
    · have := es_pos e i (by omega); omega
/-- the two counts beside each other, less one -/
theorem es_less1 {q : Int32} {h : Nat} (hh : h < 5) (a : es_in p m g q h = true) : nI (es_cnt (es_me m) 5) < 2 * (nI (es_cnt (es_in p m g q) 5) - 1) ↔ es_cnt (es_me m) 5 < 2 * (es_cnt (es_in p m g q) 5 - 1) := by
  have l1 := es_cnt_le (es_in p m g q) 5
  have l2 := es_cnt_le (es_me m) 5
  have l3 := es_pos a 5 hh
  rw [show (1 : Int32) = nI 1 from rfl, pk_sub (by omega), es_2, nI_ltI (by omega) (by omega)]
theorem xa_need {post : Int32 → Prop} {q : Int32} {h : Nat} (hh : h < 5) (h1 : es_nd p m g q h = true → post 1) (h0 : es_nd p m g q h = false → post 0) : wpX_isHolderNeeded post (ld, nI h, pc, pn, pa, pb, p, m, c, g, st, cx) q := by
  unfold wpX_isHolderNeeded
  refine xa_in hh (fun a => br_f (by decide) (xa_umc (xa_mc (br_c (fun b => h0 ?_) (fun b => h1 ?_))))) (fun a => br_t rfl (h0 ?_))
  · rw [es_less1 hh a] at b; exact (es_nd_iff a).mpr b
  · rw [es_less1 hh a, ← es_nd_iff a] at b; exact Bool.not_eq_false _ ▸ b
  · unfold es_nd; rw [a]; rfl
theorem xa_need0 {post : Int32 → Prop} {q : Int32} (h0 : post 0) : wpX_isHolderNeeded post (ld, -1, pc, pn, pa, pb, p, m, c, g, st, cx) q := by
  unfold wpX_isHolderNeeded
  exact xa_in0 (br_t rfl h0)
theorem xa_d79 {post : SX → Prop} {k : Nat} {num x : Int32} {t : Nat → Int32} (h : post (ld, hx, pc, pn, pa, pb, p, m, c, g, upd (upd t (6 + k / 6 % 4) num) (10 + k / 6 % 4) x, cx)) : wX_doCommand_79 post num (nI (k / 6 % 4)) x ld hx pc pn pa pb p m c g t cx := by
  have hs : k / 6 % 4 < 4 := Nat.mod_lt _ (by omega)
  have e1 : 6 + nI (k / 6 % 4) = nI (6 + k / 6 % 4) := nI_add 6 _
  have e2 : 10 + nI (k / 6 % 4) = nI (10 + k / 6 % 4) := nI_add 10 _
  unfold wX_doCommand_79
  rw [e1, e2, nI_clamp (by omega), nI_clamp (by omega)]
  exact ⟨vp_in_nI (by omega) (by omega), nm_e ⟨vp_in_nI (by omega) (by omega), nm_e h⟩⟩
theorem xa_do {post : SX → Prop} {k : Nat} {num a b : Int32} (hk : k < 72) (h : post (ld, hx, pc, pn, pa, pb, p, m, c, g, es_dx st k num a b, cx)) : wpX_doCommand post (ld, hx, pc, pn, pa, pb, p, m, c, g, st, cx) (nI k) num a b := by
  obtain ⟨e1, e2, e3⟩ := es_cd hk
  have h6 : k % 6 < 6 := Nat.mod_lt _ (by omega)
  have h3 : k / 24 < 3 := by omega
  have cl : (nI (k % 6)).toNatClampNeg = k % 6 := nI_clamp (by omega)
  have vi : vp_in (nI (k % 6)) 14 := vp_in_nI (by omega) (by omega)
  unfold wpX_doCommand
  refine ⟨by decide, nm_r e1 ?_⟩
  refine ⟨by decide, by decide, ?_⟩
  rw [e3]
  refine ⟨by decide, nm_r e2 ⟨vi, nm_e ?_⟩⟩
  rw [cl]
  refine br_c (fun z => ⟨vi, nm_e (xa_d79 ?_)⟩) (fun z => br_c (fun y => ⟨vi, nm_e (xa_d79 ?_)⟩) (fun y => br_c (fun w => ⟨vi, nm_e (xa_d79 ?_)⟩) (fun w => xa_d79 ?_)))
  all_goals unfold es_dx es_r at h
  · rw [show (0 : Int32) = nI 0 from rfl, nI_eq (by omega) (by omega)] at z
    rw [if_pos z] at h; exact h
  · rw [show (0 : Int32) = nI 0 from rfl, nI_eq (by omega) (by omega)] at z
    rw [show (1 : Int32) = nI 1 from rfl, nI_eq (by omega) (by omega)] at y
    rw [if_neg z, if_pos y] at h; exact h
  · rw [show (0 : Int32) = nI 0 from rfl, nI_eq (by omega) (by omega)] at z
    rw [show (1 : Int32) = nI 1 from rfl, nI_eq (by omega) (by omega)] at y
    rw [if_neg z, if_neg y, if_pos w] at h; exact h
  · rw [show (0 : Int32) = nI 0 from rfl, nI_eq (by omega) (by omega)] at z
    rw [show (1 : Int32) = nI 1 from rfl, nI_eq (by omega) (by omega)] at y
    rw [if_neg z, if_neg y, if_neg w, es_upd_self] at h; exact h
theorem xa_elN {post : SX → Prop} {q : Int32} {h k : Nat} (hh : h < 5) (hk : k < 72) (nd : es_nd p m g q h = true) (hp : post (nI h, -1, nI k, pn, pa, pb, p, m, es_mk (es_in p m g q) c 5, g, es_dx st k pn pa pb, cx)) : wpX_elect post (ld, nI h, nI k, pn, pa, pb, p, m, c, g, st, cx) q := by
  unfold wpX_elect
  refine xa_need hh (fun _ => br_f (by decide) (xa_do hk ?_)) (fun z => absurd nd (by rw [z]; decide))
  exact xa_mark hp
theorem xa_elL {post : SX → Prop} {q : Int32} {hh : Nat → Bool} (w : es_W hx) (nd : ∀ n, n < 5 → hx = nI n → es_nd p m g q n = false) (H : ∀ n, n < 5 → (hh n = true ↔ es_in p m g q n = true ∧ ¬ c n = 0 ∧ ¬ nI n = hx)) (hp : post (es_fr hh 5, -1, pc, pn, pa, pb, p, m, es_mk (es_in p m g q) c 5, g, st, cx)) : wpX_elect post (ld, hx, pc, pn, pa, pb, p, m, c, g, st, cx) q := by
  unfold wpX_elect
  rcases w with rfl | ⟨n, hn, rfl⟩
  · exact xa_need0 (br_t rfl (xa_least H (xa_mark hp)))
  · exact xa_need hn (fun z => absurd z (by rw [nd n hn rfl]; decide)) (fun _ => br_t rfl (xa_least H (xa_mark hp)))
theorem xa_s0 {post : SX → Prop} (hq : es_qg p m g = -1) (h : post (-1, hx, pc, pn, pa, pb, p, m, c, g, st, cx)) : wpX_settle post (ld, hx, pc, pn, pa, pb, p, m, c, g, st, cx) := by
  unfold wpX_settle
  exact xa_qg (br_t hq h)
theorem xa_s1 {post : SX → Prop} {q : Int32} {n : Nat} (hq : es_qg p m g = q) (h1 : ¬ q = -1) (hn : n < 5) (hi : es_in p m g q n = true) (h : post (nI n, hx, pc, pn, pa, pb, p, m, es_rc (es_in p m g q) c 5, g, st, es_rf st (es_in p m g q) cx 5)) : wpX_settle post (nI n, hx, pc, pn, pa, pb, p, m, c, g, st, cx) := by
  subst hq
  unfold wpX_settle
  exact xa_qg (br_f h1 (xa_in hn (fun _ => br_f (by decide) (xa_ref h)) (fun z => absurd hi (by rw [z]; decide))))
theorem xa_sN {post : SX → Prop} {q : Int32} {h k : Nat} (hq : es_qg p m g = q) (h1 : ¬ q = -1) (w : es_W ld) (o : ∀ n, n < 5 → ld = nI n → es_in p m g q n = false) (hh : h < 5) (hk : k < 72) (nd : es_nd p m g q h = true)
    (hp : post (nI h, -1, nI k, pn, pa, pb, p, m, es_rc (es_in p m g q) (es_mk (es_in p m g q) c 5) 5, g, es_dx st k pn pa pb, es_rf (es_dx st k pn pa pb) (es_in p m g q) cx 5)) : wpX_settle post (ld, nI h, nI k, pn, pa, pb, p, m, c, g, st, cx) := by
  subst hq
  unfold wpX_settle
  exact xa_qg (br_f h1 (xa_out w o (br_t rfl (xa_elN hh hk nd (xa_ref hp)))))
theorem xa_sL {post : SX → Prop} {q : Int32} {hh : Nat → Bool} (hq : es_qg p m g = q) (h1 : ¬ q = -1) (wl : es_W ld) (o : ∀ n, n < 5 → ld = nI n → es_in p m g q n = false) (w : es_W hx) (nd : ∀ n, n < 5 → hx = nI n → es_nd p m g q n = false) (H : ∀ n, n < 5 → (hh n = true ↔ es_in p m g q n = true ∧ ¬ c n = 0 ∧ ¬ nI n = hx))
    (hp : post (es_fr hh 5, -1, pc, pn, pa, pb, p, m, es_rc (es_in p m g q) (es_mk (es_in p m g q) c 5) 5, g, st, es_rf st (es_in p m g q) cx 5)) : wpX_settle post (ld, hx, pc, pn, pa, pb, p, m, c, g, st, cx) := by
  subst hq
  unfold wpX_settle
  exact xa_qg (br_f h1 (xa_out wl o (br_t rfl (xa_elL w nd H (xa_ref hp)))))
end
