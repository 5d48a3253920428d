theorem i_vc_stop {k : Nat} {u : SX} {v : SY} (I : i_Rel k u v) (hk : k + 5 ≤ 2560) (v1 : Int32) : wpX_stop (fun r u' => wpY_stop (fun r' v' => r' = r ∧ i_Rel (k + 5) u' v') v v1) u v1 := by
  have R : i_Rel (k + 5) u v := I
  obtain ⟨ld, hx, pc, pn, pa, pb, p, m, c, g, st, cx, ip, hy, yc, yn, ya, yb, cy, rfl, rfl, C, P, I⟩ := I
  unfold wpX_stop wpY_stop
  rcases es_ix v1 (N := 5) (by omega) with b | ⟨n, hn, rfl⟩
  · exact xa_nodeB b (br_t rfl (ya_badB b (br_f (by decide) ⟨rfl, R⟩)))
  · have w : vp_in (nI n) 5 := vp_in_nI hn (by omega)
    have e : upd p (nI n).toNatClampNeg (vp_nar .boolean 0) = upd p n 0 := by rw [nI_clamp (by omega), es_b0]
    obtain ⟨⟨a1, a2, a3, a4, a5, a6, a7, a8, a9, a10, a11, a12⟩, ⟨b1, b2, b3, b4, b5, b6, b7, b8, b9, b10, b11, b12⟩, R2, hX, hY⟩ := sb_any (upd p n 0) g C P I
    refine xa_node hn (br_f (by decide) ⟨w, br_c (fun z => ⟨w, nm_r e (hX _ ?_)⟩) (fun z => ⟨w, nm_r e (hX _ ?_)⟩)⟩)
    · exact ya_bad hn (br_t rfl ⟨w, nm_e ⟨w, nm_r e (hY _ (br_t z ⟨rfl, R2⟩))⟩⟩)
    · exact ya_bad hn (br_t rfl ⟨w, nm_e ⟨w, nm_r e (hY _ (br_f z ⟨rfl, R2⟩))⟩⟩)
theorem i_vc_start {k : Nat} {u : SX} {v : SY} (I : i_Rel k u v) (hk : k + 5 ≤ 2560) (v1 : Int32) : wpX_start (fun r u' => wpY_start (fun r' v' => r' = r ∧ i_Rel (k + 5) u' v') v v1) u v1 := by
  have R : i_Rel (k + 5) u v := I
  obtain ⟨ld, hx, pc, pn, pa, pb, p, m, c, g, st, cx, ip, hy, yc, yn, ya, yb, cy, rfl, rfl, C, P, I⟩ := I
  unfold wpX_start wpY_start
  rcases es_ix v1 (N := 5) (by omega) with b | ⟨n, hn, rfl⟩
  · exact xa_nodeB b (br_t rfl (ya_badB b (br_f (by decide) ⟨rfl, R⟩)))
  · have w : vp_in (nI n) 5 := vp_in_nI hn (by omega)
    have e : upd p (nI n).toNatClampNeg (vp_nar .boolean 1) = upd p n 1 := by rw [nI_clamp (by omega), es_b1]
    obtain ⟨⟨a1, a2, a3, a4, a5, a6, a7, a8, a9, a10, a11, a12⟩, ⟨b1, b2, b3, b4, b5, b6, b7, b8, b9, b10, b11, b12⟩, R2, hX, hY⟩ := sb_any (upd p n 1) g C P I
    refine xa_node hn (br_f (by decide) ⟨w, br_c (fun z => ⟨w, nm_r e (hX _ ?_)⟩) (fun z => ⟨w, nm_r e (hX _ ?_)⟩)⟩)
    · exact ya_bad hn (br_t rfl ⟨w, nm_e ⟨w, nm_r e (hY _ (br_t z ⟨rfl, R2⟩))⟩⟩)
    · exact ya_bad hn (br_t rfl ⟨w, nm_e ⟨w, nm_r e (hY _ (br_f z ⟨rfl, R2⟩))⟩⟩)
theorem i_vc_move {k : Nat} {u : SX} {v : SY} (I : i_Rel k u v) (hk : k + 5 ≤ 2560) (v1 : Int32) (v2 : Int32) : wpX_move (fun r u' => wpY_move (fun r' v' => r' = r ∧ i_Rel (k + 5) u' v') v v1 v2) u v1 v2 := by
  have R : i_Rel (k + 5) u v := I
  obtain ⟨ld, hx, pc, pn, pa, pb, p, m, c, g, st, cx, ip, hy, yc, yn, ya, yb, cy, rfl, rfl, C, P, I⟩ := I
  unfold wpX_move wpY_move
  rcases es_ix v1 (N := 5) (by omega) with b | ⟨n, hn, rfl⟩
  · exact xa_nodeB b (br_t rfl (ya_badB b (br_f (by decide) ⟨rfl, R⟩)))
  · rcases es_ix v2 (N := 3) (by omega) with b | ⟨j, hj, rfl⟩
    · by_cases z : v2 < 0
      · exact xa_node hn (br_f (by decide) (br_t z (ya_bad hn (br_t rfl (br_t z ⟨rfl, R⟩)))))
      · have y : nI 3 ≤ v2 := b.resolve_left z
        exact xa_node hn (br_f (by decide) (br_f z (br_f (Int32.not_lt.mpr y) (ya_bad hn (br_t rfl (br_f z (br_f (es_gap (a := 2) (by omega) y) ⟨rfl, R⟩)))))))
    · have w : vp_in (nI n) 5 := vp_in_nI hn (by omega)
      have e : upd g (nI n).toNatClampNeg (nI j) = upd g n (nI j) := by rw [nI_clamp (by omega)]
      obtain ⟨⟨a1, a2, a3, a4, a5, a6, a7, a8, a9, a10, a11, a12⟩, ⟨b1, b2, b3, b4, b5, b6, b7, b8, b9, b10, b11, b12⟩, R2, hX, hY⟩ := sb_any p (upd g n (nI j)) C P I
      have h0 : ¬ nI j < 0 := nI_pos (by omega)
      have h3 : nI j < 3 := nI_lt (b := 3) hj (by omega)
      have h2 : nI j ≤ 2 := nI_le (b := 2) (by omega) (by omega)
      refine xa_node hn (br_f (by decide) (br_f h0 (br_t h3 ⟨w, nm_e ⟨w, nm_r e (hX _ ?_)⟩⟩)))
      exact ya_bad hn (br_t rfl (br_f h0 (br_t h2 ⟨w, nm_e ⟨w, nm_r e (hY _ ⟨rfl, R2⟩)⟩⟩)))
section
variable {ld hx pc pn pa pb ly ip hy yc yn ya yb : Int32} {p m c g st cx cy : Nat → Int32}
/-- what both sides say of a command before they do it -/
theorem sb_verdict (C : es_C st cx cy) (v1 v2 : Int32) : ∃ r : Int32, (∀ post : Int32 → Prop, post r → wpX_verdictOn post (ld, hx, pc, pn, pa, pb, p, m, c, g, st, cx) v1 v2) ∧ (∀ post : Int32 → Prop, post r → wpY_refused post (ly, ip, hy, yc, yn, ya, yb, p, g, m, c, cy) v1 v2) ∧ (r = 0 → ¬ es_qg p m g = -1 ∧ ∃ k, k < 72 ∧ v1 = nI k) := by
  unfold wpX_verdictOn wpY_refused
  rcases es_ix v1 (N := 72) (by omega) with b | ⟨k, hk, rfl⟩
  · refine ⟨-1, ?_, ?_, fun z => absurd z (by decide)⟩
    · intro post hp
      by_cases z : v1 < 0
      · exact br_t z hp
      · exact br_f z (br_t (b.resolve_left z) hp)
    · intro post hp
      by_cases z : v1 < 0
      · exact br_t z hp
      · exact br_f z (br_t (Int32.not_le.mp (es_gap (a := 71) (by omega) (b.resolve_left z))) hp)
  · have h0 : ¬ nI k < 0 := nI_pos (by omega)
    have h1 : ¬ 72 ≤ nI k := nI_ge (b := 72) hk (by omega)
    have h2 : ¬ 71 < nI k := nI_nlt (a := 71) (by omega) (by omega)
    by_cases h3 : 1 ≤ v2
    · by_cases hq : es_qg p m g = -1
      · refine ⟨-2, ?_, ?_, fun z => absurd z (by decide)⟩
        · intro post hp
          exact br_f h0 (br_f h1 (br_t h3 (xa_qg (br_t hq hp))))
        · intro post hp
          refine br_f h0 (br_f h2 (br_t h3 (ya_q ?_)))
          rw [hq]; exact br_f (by decide) hp
      · obtain ⟨e1, e2, e3⟩ := es_cd hk
        have hs : k / 6 % 4 < 4 := Nat.mod_lt _ (by omega)
        have f1 : 6 + nI (k / 6 % 4) = nI (6 + k / 6 % 4) := nI_add 6 _
        have f2 : 76 + nI (k / 6 % 4) = nI (76 + k / 6 % 4) := nI_add 76 _
        have f3 : cy (76 + k / 6 % 4) = st (6 + k / 6 % 4) := by
          rw [show 76 + k / 6 % 4 = 70 + (6 + k / 6 % 4) from by omega]; exact C.2 _ (by omega)
        refine ⟨if st (6 + k / 6 % 4) ≤ v2 then (if v2 = st (6 + k / 6 % 4) then 1 else 0) else -3, ?_, ?_, fun _ => ⟨hq, k, hk, rfl⟩⟩
        · intro post hp
          refine br_f h0 (br_f h1 (br_t h3 (xa_qg (br_f hq ⟨by decide, by decide, ?_⟩))))
          rw [e3]
          dsimp only
          rw [f1, nI_clamp (by omega)]
          refine ⟨vp_in_nI (by omega) (by omega), nm_e (br_c (fun a => br_c (fun b => ?_) (fun b => ?_)) (fun a => ?_))⟩
          · rw [if_pos a, if_pos b] at hp; exact hp
          · rw [if_pos a, if_neg b] at hp; exact hp
          · rw [if_neg a] at hp; exact hp
        · intro post hp
          refine br_f h0 (br_f h2 (br_t h3 (ya_q (br_t (es_qn rfl hq).2 ⟨by decide, by decide, ?_⟩))))
          rw [e3, f2, nI_clamp (by omega), f3]
          refine ⟨vp_in_nI (by omega) (by omega), nm_e (br_c (fun a => br_c (fun b => ?_) (fun b => ?_)) (fun a => ?_))⟩
          · rw [if_pos a, if_pos b] at hp; exact hp
          · rw [if_pos a, if_neg b] at hp; exact hp
          · rw [if_neg a] at hp; exact hp
    · exact ⟨-1, fun post hp => br_f h0 (br_f h1 (br_f h3 hp)), fun post hp => br_f h0 (br_f h2 (br_f h3 hp)), fun z => absurd z (by decide)⟩
end
theorem i_vc_submit {k : Nat} {u : SX} {v : SY} (I : i_Rel k u v) (hk : k + 5 ≤ 2560) (v1 : Int32) (v2 : Int32) (v3 : Int32) (v4 : Int32) : wpX_submit (fun r u' => wpY_submit (fun r' v' => r' = r ∧ i_Rel (k + 5) u' v') v v1 v2 v3 v4) u v1 v2 v3 v4 := by
  have R : i_Rel (k + 5) u v := I
  obtain ⟨ld, hx, pc, pn, pa, pb, p, m, c, g, st, cx, ip, hy, yc, yn, ya, yb, cy, rfl, rfl, C, P, I⟩ := I
  unfold wpX_submit wpY_submit
  obtain ⟨r, vX, vY, h0⟩ := sb_verdict (ld := ld) (hx := hx) (pc := pc) (pn := pn) (pa := pa) (pb := pb) (ly := ld) (ip := ip) (hy := hy) (yc := yc) (yn := yn) (ya := ya) (yb := yb) (p := p) (m := m) (c := c) (g := g) C v1 v2
  by_cases z : r = 0
  · subst z
    obtain ⟨hq, j, hj, rfl⟩ := h0 rfl
    obtain ⟨wl, LK, J, hP, mb⟩ := I
    obtain ⟨⟨n, hn, el, hi⟩, K⟩ := LK hq
    have ex : hx = -1 := hP (by rw [el]; exact es_n1 hn)
    obtain ⟨⟨a1, a2, a3, a4, a5, a6, a7, a8, a9, a10, a11, a12⟩, ⟨b1, b2, b3, b4, b5, b6, b7, b8, b9, b10, b11, b12⟩, R2, hX, hY⟩ := sb_settle (q := es_qg p m g) (ly := ld) (c := es_mk (es_in p m g (es_qg p m g)) c 5) rfl (es_C_d C j v2 v3 v4) P wl (Or.inl rfl) (fun _ _ _ _ _ => ex) (fun y => absurd y hq) (fun _ o _ => absurd hi (by rw [o n hn el]; decide)) mb
    refine vX _ (br_t rfl (xa_do hj (xa_qg (xa_mark (hX _ ?_)))))
    exact vY _ (br_t rfl (ya_carry rfl hq hj (hY _ ⟨rfl, R2⟩)))
  · exact vX _ (br_f z (vY _ (br_f z ⟨rfl, R⟩)))
theorem i_vc_submitAndStop {k : Nat} {u : SX} {v : SY} (I : i_Rel k u v) (hk : k + 5 ≤ 2560) (v1 : Int32) (v2 : Int32) (v3 : Int32) (v4 : Int32) : wpX_submitAndStop (fun r u' => wpY_submitAndStop (fun r' v' => r' = r ∧ i_Rel (k + 5) u' v') v v1 v2 v3 v4) u v1 v2 v3 v4 := by
  have R : i_Rel (k + 5) u v := I
  obtain ⟨ld, hx, pc, pn, pa, pb, p, m, c, g, st, cx, ip, hy, yc, yn, ya, yb, cy, rfl, rfl, C, P, I⟩ := I
  unfold wpX_submitAndStop wpY_submitAndStop
  obtain ⟨r, vX, vY, h0⟩ := sb_verdict (ld := ld) (hx := hx) (pc := pc) (pn := pn) (pa := pa) (pb := pb) (ly := ld) (ip := ip) (hy := hy) (yc := yc) (yn := yn) (ya := ya) (yb := yb) (p := p) (m := m) (c := c) (g := g) C v1 v2
  by_cases z : r = 0
  · subst z
    obtain ⟨hq, j, hj, rfl⟩ := h0 rfl
    obtain ⟨wl, LK, J, hP, mb⟩ := I
    obtain ⟨⟨n, hn, rfl, hi⟩, K⟩ := LK hq
    have w : vp_in (nI n) 5 := vp_in_nI hn (by omega)
    have e : upd p (nI n).toNatClampNeg (vp_nar .boolean 0) = upd p n 0 := by rw [nI_clamp (by omega), es_b0]
    have P2 : es_P (nI n) (nI j) v2 v3 v4 1 (nI n) (nI j) v2 v3 v4 := Or.inr ⟨n, j, hn, hj, rfl, rfl, rfl, rfl, rfl, rfl, rfl, rfl⟩
    have o : ∀ q n', n' < 5 → nI n = nI n' → es_in (upd p n 0) m g q n' = false := fun q n' hn' ee => by
      rw [nI_eq (by omega) (by omega)] at ee
      subst ee
      exact decide_eq_false (fun y => y.1 pk_us)
    obtain ⟨u2, v2', R2, hX, hY⟩ := sb_settle (q := es_qg (upd p n 0) m g) (ly := nI n) (c := c) rfl C P2 wl (Or.inl rfl) (fun _ n' hn' ee y => absurd y (by rw [o _ n' hn' ee]; decide)) (fun _ => J) (fun h1 _ nd => es_se J (es_qg_Q h1).1 (es_PW P2) nd) mb
    have R3 : i_Rel (k + 5) u2 v2' := R2
    obtain ⟨a1, a2, a3, a4, a5, a6, a7, a8, a9, a10, a11, a12, b2, b3, b4, b5, b6, b7, b12, rfl, rfl, C2, P3, I2⟩ := R2
    refine vX _ (br_t rfl (xa_node hn (br_f (by decide) ⟨w, nm_r e (hX _ ?_)⟩)))
    rcases P3 with ⟨rfl, rfl⟩ | ⟨h, l, hh, hl, rfl, rfl, rfl, rfl, rfl, rfl, rfl, rfl⟩
    · exact br_t rfl (vY _ (br_t rfl (br_t (nI_pos' (by omega)) ⟨w, nm_r e (hY _ (br_t rfl ⟨rfl, R3⟩))⟩)))
    · exact br_f (es_n1 hh) (vY _ (br_t rfl (br_t (nI_pos' (by omega)) ⟨w, nm_r e (hY _ (br_f (by decide) ⟨rfl, R3⟩))⟩)))
  · exact vX _ (br_f z (vY _ (br_f z ⟨rfl, R⟩)))
