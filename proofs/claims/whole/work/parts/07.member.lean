section
variable {ld hx pc pn pa pb ly ip hy yc yn ya yb : Int32} {p m c g st cx cy : Nat → Int32}
theorem es_ltQ {q : Int32} : nI (es_cnt (es_me m) 5) < 2 * nI (es_cnt (es_in p m g q) 5) ↔ es_Q p m g q = true := by
  have l1 := es_cnt_le (es_in p m g q) 5
  have l2 := es_cnt_le (es_me m) 5
  rw [es_2, nI_ltI (by omega) (by omega), es_Q_iff]
/-- the settling behind a change of the members that keeps the quorum -/
theorem sb_m1 {t : Int32} {n : Nat} (ht : t = 0 ∨ t = 1) (hq : ¬ es_qg p m g = -1) (hQ : es_Q p (upd m n t) g (es_qg p m g) = true) (C : es_C st cx cy) (P : es_P hx pc pn pa pb ip hy yc yn ya yb) (I : es_I ld hx p m c g)
    (hl : ly = ld ∨ (ly = -1 ∧ t = 0 ∧ ld = nI n)) (hn : n < 5) :
    ∃ (u : SX) (v : SY), es_R u v ∧ (∀ post : SX → Prop, post u → wpX_settle post (ld, hx, pc, pn, pa, pb, p, upd m n t, es_mk (es_in p (upd m n t) g (es_qg p m g)) c 5, g, st, cx)) ∧ (∀ post : SY → Prop, post v → wpY_settle post (ly, ip, hy, yc, yn, ya, yb, p, g, upd m n t, es_mk (es_in p (upd m n t) g (es_qg p m g)) c 5, cy)) := by
  obtain ⟨wl, LK, J, hP, mb⟩ := I
  obtain ⟨⟨i, hi, el, hin⟩, K⟩ := LK hq
  have ex : hx = -1 := hP (by rw [el]; exact es_n1 hi)
  obtain ⟨_, kk, hkk, ekk⟩ := es_qg_Q hq
  have e2 : es_qg p (upd m n t) g = es_qg p m g := by
    rw [ekk] at hQ ⊢; exact es_qg_of hkk hQ
  refine sb_settle (q := es_qg p m g) e2 C P wl ?_ (fun _ _ _ _ _ => ex) (fun y => absurd y hq) ?_ ?_
  · rcases hl with e | ⟨e, rfl, e3⟩
    · exact Or.inl e
    · refine Or.inr ⟨e, hq, fun j hj e4 => ?_⟩
      rw [e3, nI_eq (by omega) (by omega)] at e4
      subst e4
      exact decide_eq_false (fun y => y.2.1 pk_us)
  · intro _ o _
    rcases ht with rfl | rfl
    · obtain ⟨j, hj, z⟩ := es_cnt_pos 5 (f := es_in p (upd m n 0) g (es_qg p m g)) (by have := es_Q_iff.mp hQ; omega)
      have zz := es_in_iff.mp z
      have nj : j ≠ n := fun y => zz.2.1 (by rw [y]; exact pk_us)
      rw [pk_un nj] at zz
      refine ⟨j, hj, z, ?_, by rw [ex]; exact es_n1 hj⟩
      rw [es_mk_at, if_neg (fun y => absurd y.2 (by rw [z]; decide))]
      exact K j hj (es_in_iff.mpr zz)
    · have zz := es_in_iff.mp hin
      have z : es_in p (upd m n 1) g (es_qg p m g) i = true := by
        refine es_in_iff.mpr ⟨zz.1, ?_, zz.2.2⟩
        by_cases y : i = n
        · rw [y, pk_us]; decide
        · rw [pk_un y]; exact zz.2.1
      exact absurd z (by rw [o i hi el]; decide)
  · intro j hj
    by_cases y : j = n
    · rw [y, pk_us]; exact ht
    · rw [pk_un y]; exact mb j hj
theorem sb_mem {t : Int32} {n : Nat} (ht : t = 0 ∨ t = 1) (hn : n < 5) (hq : ¬ es_qg p m g = -1) (hm : ¬ m n = t) (C : es_C st cx cy) (P : es_P hx pc pn pa pb ip hy yc yn ya yb) (I : es_I ld hx p m c g) :
    ∃ (r : Int32) (u : SX) (v : SY), es_R u v ∧ (∀ post : Int32 → SX → Prop, post r u → wX_member_50 post (nI n) t (es_qg p m g) ld hx pc pn pa pb p m c g st cx) ∧ (∀ post : Int32 → SY → Prop, post r v → wY_member_49 post (nI n) t (es_qg p m g) ld ip hy yc yn ya yb p g m c cy) := by
  have w : vp_in (nI n) 5 := vp_in_nI hn (by omega)
  have en : vp_nar .boolean t = t := by rcases ht with rfl | rfl <;> rfl
  have em : upd m (nI n).toNatClampNeg (vp_nar .boolean t) = upd m n t := by rw [nI_clamp (by omega), en]
  have mb := I.2.2.2.2
  cases hQ : es_Q p (upd m n t) g (es_qg p m g) with
  | false =>
    have hlt : ¬ nI (es_cnt (es_me (upd m n t)) 5) < 2 * nI (es_cnt (es_in p (upd m n t) g (es_qg p m g)) 5) := by
      rw [es_ltQ, hQ]; decide
    refine ⟨-5, (ld, hx, pc, pn, pa, pb, p, m, c, g, st, cx), (ld, ip, hy, yc, yn, ya, yb, p, g, m, c, cy), ⟨_, _, _, _, _, _, _, _, _, _, _, _, _, _, _, _, _, _, _, rfl, rfl, C, P, I⟩, ?_, ?_⟩
    · intro post hp
      refine ⟨w, nm_r em (xa_isQ (fun y => absurd y (by rw [hQ]; decide)) (fun _ => br_t rfl ?_))⟩
      rcases ht with rfl | rfl
      · have er : upd (upd m n 0) (nI n).toNatClampNeg (vp_nar .boolean 1) = m := by
          rw [nI_clamp (by omega), es_b1]
          funext j
          by_cases y : j = n
          · subst y; rw [pk_us]; rcases mb j hn with z | z
            · exact absurd z hm
            · exact z.symm
          · rw [pk_un y, pk_un y]
        exact br_t rfl ⟨w, nm_r er hp⟩
      · have er : upd (upd m n 1) (nI n).toNatClampNeg (vp_nar .boolean 0) = m := by
          rw [nI_clamp (by omega), es_b0]
          funext j
          by_cases y : j = n
          · subst y; rw [pk_us]; rcases mb j hn with z | z
            · exact z.symm
            · exact absurd z hm
          · rw [pk_un y, pk_un y]
        exact br_f (by decide) ⟨w, nm_r er hp⟩
    · intro post hp
      refine ⟨w, nm_r em (ya_cu (ya_cm (br_f hlt ?_)))⟩
      rcases ht with rfl | rfl
      · have er : upd (upd m n 0) (nI n).toNatClampNeg (vp_nar .boolean 1) = m := by
          rw [nI_clamp (by omega), es_b1]
          funext j
          by_cases y : j = n
          · subst y; rw [pk_us]; rcases mb j hn with z | z
            · exact absurd z hm
            · exact z.symm
          · rw [pk_un y, pk_un y]
        exact br_t rfl ⟨w, nm_r er hp⟩
      · have er : upd (upd m n 1) (nI n).toNatClampNeg (vp_nar .boolean 0) = m := by
          rw [nI_clamp (by omega), es_b0]
          funext j
          by_cases y : j = n
          · subst y; rw [pk_us]; rcases mb j hn with z | z
            · exact z.symm
            · exact absurd z hm
          · rw [pk_un y, pk_un y]
        exact br_f (by decide) ⟨w, nm_r er hp⟩
  | true =>
    have hlt := (es_ltQ (p := p) (m := upd m n t) (g := g) (q := es_qg p m g)).mpr hQ
    obtain ⟨_, kk, hkk, ekk⟩ := es_qg_Q hq
    have e2 : es_qg p (upd m n t) g = es_qg p m g := by
      rw [ekk] at hQ ⊢; exact es_qg_of hkk hQ
    by_cases cs : t = 0 ∧ ld = nI n
    · obtain ⟨⟨a1, a2, a3, a4, a5, a6, a7, a8, a9, a10, a11, a12⟩, ⟨b1, b2, b3, b4, b5, b6, b7, b8, b9, b10, b11, b12⟩, R2, hX, hY⟩ := sb_m1 (ly := -1) ht hq hQ C P I (Or.inr ⟨rfl, cs.1, cs.2⟩) hn
      refine ⟨1, _, _, R2, fun post hp => ?_, fun post hp => ?_⟩
      · exact ⟨w, nm_r em (xa_isQ (fun _ => br_f (by decide) (xa_mark (hX _ hp))) (fun y => absurd hQ (by rw [y]; decide)))⟩
      · exact ⟨w, nm_r em (ya_cu (ya_cm (br_t hlt (ya_step e2 hq (br_t cs.1 (br_t cs.2 (hY _ hp)))))))⟩
    · obtain ⟨⟨a1, a2, a3, a4, a5, a6, a7, a8, a9, a10, a11, a12⟩, ⟨b1, b2, b3, b4, b5, b6, b7, b8, b9, b10, b11, b12⟩, R2, hX, hY⟩ := sb_m1 (ly := ld) ht hq hQ C P I (Or.inl rfl) hn
      refine ⟨1, _, _, R2, fun post hp => ?_, fun post hp => ?_⟩
      · exact ⟨w, nm_r em (xa_isQ (fun _ => br_f (by decide) (xa_mark (hX _ hp))) (fun y => absurd hQ (by rw [y]; decide)))⟩
      · exact ⟨w, nm_r em (ya_cu (ya_cm (br_t hlt (ya_step e2 hq (br_c (fun z => br_f (fun y => cs ⟨z, y⟩) (hY _ hp)) (fun _ => hY _ hp))))))⟩
end
theorem i_vc_member {k : Nat} {u : SX} {v : SY} (I : i_Rel k u v) (hk : k + 5 ≤ 2560) (v1 : Int32) (v2 : Int32) : wpX_member (fun r u' => wpY_member (fun r' v' => r' = r ∧ i_Rel (k + 5) u' v') v v1 (lw_bz v2)) u v1 (lw_bz v2) := by
  have R : i_Rel (k + 5) u v := I
  obtain ⟨ld, hx, pc, pn, pa, pb, p, m, c, g, st, cx, ip, hy, yc, yn, ya, yb, cy, rfl, rfl, C, P, I⟩ := I
  have ht := lw_bz_01 v2
  generalize lw_bz v2 = t at ht
  unfold wpX_member wpY_member
  rcases es_ix v1 (N := 5) (by omega) with b | ⟨n, hn, rfl⟩
  · exact xa_nodeB b (br_t rfl (ya_badB b (br_f (by decide) ⟨rfl, R⟩)))
  · have w : vp_in (nI n) 5 := vp_in_nI hn (by omega)
    have cl : (nI n).toNatClampNeg = n := nI_clamp (by omega)
    refine xa_node hn (br_f (by decide) (xa_qg ?_))
    by_cases hq : es_qg p m g = -1
    · refine br_t hq (ya_bad hn (br_t rfl (ya_q ?_)))
      rw [hq]; exact br_f (by decide) ⟨rfl, R⟩
    · have h0 := (es_qn rfl hq).2
      refine br_f hq ⟨w, br_c (fun z => ?_) (fun z => ?_)⟩
      · exact ya_bad hn (br_t rfl (ya_q (br_t h0 ⟨w, br_t z ⟨rfl, R⟩⟩)))
      · obtain ⟨r, u2, v2', R2, hX, hY⟩ := sb_mem ht hn hq (by rw [cl] at z; exact z) C P I
        refine br_c (fun y => xa_mc (br_c (fun x => ?_) (fun x => hX _ ?_))) (fun y => hX _ ?_)
        · exact ya_bad hn (br_t rfl (ya_q (br_t h0 ⟨w, br_f z (br_t y (ya_cm (br_t x ⟨rfl, R⟩)))⟩)))
        · exact ya_bad hn (br_t rfl (ya_q (br_t h0 ⟨w, br_f z (br_t y (ya_cm (br_f x (hY _ ⟨rfl, R2⟩))))⟩)))
        · exact ya_bad hn (br_t rfl (ya_q (br_t h0 ⟨w, br_f z (br_f y (hY _ ⟨rfl, R2⟩))⟩)))
