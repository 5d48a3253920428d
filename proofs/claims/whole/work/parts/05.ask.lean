def i_Rel (k : Nat) (u : SX) (v : SY) : Prop := es_R u v
theorem i_up {k : Nat} {u : SX} {v : SY} (h : i_Rel k u v) : i_Rel (k + 5) u v := h
theorem es_ix (l : Int32) {N : Nat} (h : N < 2 ^ 31) : (l < 0 ∨ nI N ≤ l) ∨ ∃ n, n < N ∧ l = nI n := by
  rcases pk_ix l h with z | z | z
  · exact Or.inl (Or.inl z)
  · exact Or.inl (Or.inr z)
  · exact Or.inr z
theorem es_gap {a : Nat} {l : Int32} (ha : a + 1 < 2 ^ 31) (h : nI (a + 1) ≤ l) : ¬ l ≤ nI a := by
  rw [Int32.le_iff_toInt_le, nI_toInt (by omega)] at *
  omega
theorem ix_init {post : SX → Prop} (h : post (0, -1, 0, 0, 0, 0, es_rc (fun _ => true) (fun _ => 0) 5, es_rc (fun _ => true) (fun _ => 0) 5, es_rc (fun _ => true) (fun _ => 0) 5, fun _ => 0, fun _ => 0, fun _ => 0)) : wpX_init post := by
  refine loop_0 (fun n i (s : Nat → Int32) => wX_init_50 post 0 0 0 0 0 0 n (nI i) s s s (fun _ => 0) (fun _ => 0) (fun _ => 0)) (fun i s => s = es_rc (fun _ => true) (fun _ => 0) i) 5 (fun _ => 0) rfl ?_ ?_
  · intro n s hs; subst hs; exact br_t (nI_le (Nat.le_refl 5) (by omega)) h
  · intro n i s hi hs ih
    subst hs
    have v : vp_in (nI i) 5 := vp_in_nI hi (by omega)
    have e : upd (es_rc (fun _ => true) (fun _ => 0) i) (nI i).toNatClampNeg (vp_nar .boolean 1) = es_rc (fun _ => true) (fun _ => 0) (i + 1) := by
      rw [nI_clamp (by omega), es_b1]; simp only [es_rc]; rfl
    exact br_f (nI_ge (b := 5) hi (by omega)) ⟨v, nm_r e ⟨v, nm_r e ⟨v, nm_r e (nm_r (nI_1 i) (ih _ rfl))⟩⟩⟩
theorem iy_init {post : SY → Prop} (h : post (0, 0, 0, 0, 0, 0, 0, es_rc (fun _ => true) (fun _ => 0) 5, fun _ => 0, es_rc (fun _ => true) (fun _ => 0) 5, es_rc (fun _ => true) (fun _ => 0) 5, fun _ => 0)) : wpY_init post := by
  refine loop_0 (fun n i (s : Nat → Int32) => wY_init_42 post 0 0 0 0 0 0 0 n (nI i) s (fun _ => 0) s s (fun _ => 0)) (fun i s => s = es_rc (fun _ => true) (fun _ => 0) i) 5 (fun _ => 0) rfl ?_ ?_
  · intro n s hs; subst hs; exact br_t (nI_le (Nat.le_refl 5) (by omega)) h
  · intro n i s hi hs ih
    subst hs
    have v : vp_in (nI i) 5 := vp_in_nI hi (by omega)
    have e : upd (es_rc (fun _ => true) (fun _ => 0) i) (nI i).toNatClampNeg (vp_nar .boolean 1) = es_rc (fun _ => true) (fun _ => 0) (i + 1) := by
      rw [nI_clamp (by omega), es_b1]; simp only [es_rc]; rfl
    exact br_f (nI_ge (b := 5) hi (by omega)) ⟨v, nm_r e ⟨v, nm_r e ⟨v, nm_r e (nm_r (nI_1 i) (ih _ rfl))⟩⟩⟩
theorem es_I0 : es_I 0 (-1) (es_rc (fun _ => true) (fun _ => 0) 5) (es_rc (fun _ => true) (fun _ => 0) 5) (es_rc (fun _ => true) (fun _ => 0) 5) (fun _ => 0) := by
  refine es_I_of (n := 0) (d := fun _ => 0) (q := 0) ?_ (by decide) (by omega) ?_ ?_
  · decide +kernel
  · decide +kernel
  · intro n hn; rw [es_rc_at, if_pos ⟨hn, rfl⟩]; exact Or.inr rfl
theorem i_vc0 : wpX_init (fun u => wpY_init (fun v => i_Rel 0 u v)) :=
  ix_init (iy_init ⟨_, _, _, _, _, _, _, _, _, _, _, _, _, _, _, _, _, _, _, rfl, rfl, ⟨fun _ _ => rfl, fun _ _ => rfl⟩, es_P0, es_I0⟩)
section
variable {ld hx pc pn pa pb ly ip hy yc yn ya yb : Int32} {p m c g st cx cy : Nat → Int32} {post : Int32 → Prop} {l : Int32}
theorem xa_node {n : Nat} (hn : n < 5) (h : post 1) : wpX_isNode post (ld, hx, pc, pn, pa, pb, p, m, c, g, st, cx) (nI n) := br_f (nI_pos (by omega)) (br_f (nI_ge (b := 5) hn (by omega)) h)
theorem xa_nodeB (b : l < 0 ∨ nI 5 ≤ l) (h : post 0) : wpX_isNode post (ld, hx, pc, pn, pa, pb, p, m, c, g, st, cx) l := by
  by_cases z : l < 0
  · exact br_t z h
  · exact br_f z (br_t (b.resolve_left z) h)
theorem xa_key {n : Nat} (hn : n < 6) (h : post 1) : wpX_isKey post (ld, hx, pc, pn, pa, pb, p, m, c, g, st, cx) (nI n) := br_f (nI_pos (by omega)) (br_f (nI_ge (b := 6) hn (by omega)) h)
theorem xa_keyB (b : l < 0 ∨ nI 6 ≤ l) (h : post 0) : wpX_isKey post (ld, hx, pc, pn, pa, pb, p, m, c, g, st, cx) l := by
  by_cases z : l < 0
  · exact br_t z h
  · exact br_f z (br_t (b.resolve_left z) h)
theorem xa_ses {n : Nat} (hn : n < 4) (h : post 1) : wpX_isSession post (ld, hx, pc, pn, pa, pb, p, m, c, g, st, cx) (nI n) := br_f (nI_pos (by omega)) (br_f (nI_ge (b := 4) hn (by omega)) h)
theorem xa_sesB (b : l < 0 ∨ nI 4 ≤ l) (h : post 0) : wpX_isSession post (ld, hx, pc, pn, pa, pb, p, m, c, g, st, cx) l := by
  by_cases z : l < 0
  · exact br_t z h
  · exact br_f z (br_t (b.resolve_left z) h)
theorem ya_badB (b : l < 0 ∨ nI 5 ≤ l) (h : post 1) : wpY_badNode post (ly, ip, hy, yc, yn, ya, yb, p, g, m, c, cy) l := by
  by_cases z : l < 0
  · exact br_t z h
  · exact br_f z (br_f (es_gap (a := 4) (by omega) (b.resolve_left z)) h)
theorem ya_key {n : Nat} (hn : n < 6) (h : post 0) : wpY_badKey post (ly, ip, hy, yc, yn, ya, yb, p, g, m, c, cy) (nI n) :=
  br_f (nI_pos (by omega)) (br_t (nI_le (b := 5) (by omega) (by omega)) h)
theorem ya_keyB (b : l < 0 ∨ nI 6 ≤ l) (h : post 1) : wpY_badKey post (ly, ip, hy, yc, yn, ya, yb, p, g, m, c, cy) l := by
  by_cases z : l < 0
  · exact br_t z h
  · exact br_f z (br_f (es_gap (a := 5) (by omega) (b.resolve_left z)) h)
theorem ya_ses {n : Nat} (hn : n < 4) (h : post 0) : wpY_badSession post (ly, ip, hy, yc, yn, ya, yb, p, g, m, c, cy) (nI n) :=
  br_f (nI_pos (by omega)) (br_t (nI_le (b := 3) (by omega) (by omega)) h)
theorem ya_sesB (b : l < 0 ∨ nI 4 ≤ l) (h : post 1) : wpY_badSession post (ly, ip, hy, yc, yn, ya, yb, p, g, m, c, cy) l := by
  by_cases z : l < 0
  · exact br_t z h
  · exact br_f z (br_f (es_gap (a := 3) (by omega) (b.resolve_left z)) h)
end
theorem i_vc_isUp {k : Nat} {u : SX} {v : SY} (I : i_Rel k u v) (hk : k + 5 ≤ 2560) (v1 : Int32) : wpX_isUp (fun r => wpY_isUp (fun r' => r' = r ∧ i_Rel (k + 5) u v) v v1) u v1 := by
  have R : i_Rel (k + 5) u v := I
  obtain ⟨ld, hx, pc, pn, pa, pb, p, m, c, g, st, cx, ip, hy, yc, yn, ya, yb, cy, rfl, rfl, C, P, I⟩ := I
  unfold wpX_isUp wpY_isUp
  rcases es_ix v1 (N := 5) (by omega) with b | ⟨n, hn, rfl⟩
  · exact xa_nodeB b (br_t rfl (ya_badB b (br_f (by decide) ⟨rfl, R⟩)))
  · have v : vp_in (nI n) 5 := vp_in_nI hn (by omega)
    exact xa_node hn (br_f (by decide) ⟨v, br_c (fun z => ya_bad hn (br_t rfl ⟨v, br_t z ⟨rfl, R⟩⟩)) (fun z => ya_bad hn (br_t rfl ⟨v, br_f z ⟨rfl, R⟩⟩))⟩)
theorem i_vc_isMember {k : Nat} {u : SX} {v : SY} (I : i_Rel k u v) (hk : k + 5 ≤ 2560) (v1 : Int32) : wpX_isMember (fun r => wpY_isMember (fun r' => r' = r ∧ i_Rel (k + 5) u v) v v1) u v1 := by
  have R : i_Rel (k + 5) u v := I
  obtain ⟨ld, hx, pc, pn, pa, pb, p, m, c, g, st, cx, ip, hy, yc, yn, ya, yb, cy, rfl, rfl, C, P, I⟩ := I
  unfold wpX_isMember wpY_isMember
  rcases es_ix v1 (N := 5) (by omega) with b | ⟨n, hn, rfl⟩
  · exact xa_nodeB b (br_t rfl (ya_badB b (br_f (by decide) ⟨rfl, R⟩)))
  · have v : vp_in (nI n) 5 := vp_in_nI hn (by omega)
    exact xa_node hn (br_f (by decide) ⟨v, br_c (fun z => ya_bad hn (br_t rfl ⟨v, br_t z ⟨rfl, R⟩⟩)) (fun z => ya_bad hn (br_t rfl ⟨v, br_f z ⟨rfl, R⟩⟩))⟩)
theorem i_vc_leader {k : Nat} {u : SX} {v : SY} (I : i_Rel k u v) (hk : k + 5 ≤ 2560) : wpX_leader (fun r => wpY_leader (fun r' => r' = r ∧ i_Rel (k + 5) u v) v) u := by
  have R : i_Rel (k + 5) u v := I
  obtain ⟨ld, hx, pc, pn, pa, pb, p, m, c, g, st, cx, ip, hy, yc, yn, ya, yb, cy, rfl, rfl, C, P, I⟩ := I
  rcases I.1 with rfl | ⟨n, hn, rfl⟩
  · exact br_t rfl (br_f (by decide) ⟨rfl, R⟩)
  · exact br_f (es_n1 hn) (br_t (nI_pos' (by omega)) ⟨rfl, R⟩)
theorem i_vc_pending {k : Nat} {u : SX} {v : SY} (I : i_Rel k u v) (hk : k + 5 ≤ 2560) : wpX_pending (fun r => wpY_pending (fun r' => r' = r ∧ i_Rel (k + 5) u v) v) u := by
  have R : i_Rel (k + 5) u v := I
  obtain ⟨ld, hx, pc, pn, pa, pb, p, m, c, g, st, cx, ip, hy, yc, yn, ya, yb, cy, rfl, rfl, C, P, I⟩ := I
  rcases P with ⟨rfl, rfl⟩ | ⟨h, k, hh, hk, rfl, rfl, rfl, rfl, rfl, rfl, rfl, rfl⟩
  · exact br_t rfl (br_t rfl ⟨rfl, R⟩)
  · exact br_f (es_n1 hh) (br_f (by decide) ⟨rfl, R⟩)
theorem i_vc_get {k : Nat} {u : SX} {v : SY} (I : i_Rel k u v) (hk : k + 5 ≤ 2560) (v1 : Int32) : wpX_get (fun r => wpY_get (fun r' => r' = r ∧ i_Rel (k + 5) u v) v v1) u v1 := by
  have R : i_Rel (k + 5) u v := I
  obtain ⟨ld, hx, pc, pn, pa, pb, p, m, c, g, st, cx, ip, hy, yc, yn, ya, yb, cy, rfl, rfl, C, P, I⟩ := I
  unfold wpX_get wpY_get
  rcases es_ix v1 (N := 6) (by omega) with b | ⟨n, hn, rfl⟩
  · exact xa_keyB b (br_t rfl (ya_keyB b (br_f (by decide) ⟨rfl, R⟩)))
  · refine xa_key hn (br_f (by decide) (xa_qg ?_))
    by_cases hq : es_qg p m g = -1
    · refine br_t hq (ya_key hn (br_t rfl (ya_q ?_)))
      rw [hq]; exact br_f (by decide) ⟨rfl, R⟩
    · refine br_f hq ⟨vp_in_nI (by omega) (by omega), ya_key hn (br_t rfl (ya_q (br_t (es_qn rfl hq).2 ?_)))⟩
      rw [show 70 + nI n = nI (70 + n) from nI_add 70 n, nI_clamp (by omega), nI_clamp (by omega)]
      exact ⟨vp_in_nI (by omega) (by omega), C.2 n (by omega), R⟩
theorem i_vc_canGet {k : Nat} {u : SX} {v : SY} (I : i_Rel k u v) (hk : k + 5 ≤ 2560) (v1 : Int32) : wpX_canGet (fun r => wpY_canGet (fun r' => r' = r ∧ i_Rel (k + 5) u v) v v1) u v1 := by
  have R : i_Rel (k + 5) u v := I
  obtain ⟨ld, hx, pc, pn, pa, pb, p, m, c, g, st, cx, ip, hy, yc, yn, ya, yb, cy, rfl, rfl, C, P, I⟩ := I
  unfold wpX_canGet wpY_canGet
  rcases es_ix v1 (N := 6) (by omega) with b | ⟨n, hn, rfl⟩
  · refine xa_keyB b (br_t rfl (ya_q ?_))
    exact br_c (fun _ => ya_keyB b (br_f (by decide) ⟨rfl, R⟩)) (fun _ => ya_keyB b (br_f (by decide) ⟨rfl, R⟩))
  · refine xa_key hn (br_f (by decide) (xa_qg ?_))
    by_cases hq : es_qg p m g = -1
    · refine br_t hq (ya_q ?_)
      rw [hq]; exact br_f (by decide) (ya_key hn (br_t rfl ⟨rfl, R⟩))
    · exact br_f hq (ya_q (br_t (es_qn rfl hq).2 (ya_key hn (br_t rfl ⟨rfl, R⟩))))
theorem i_vc_local {k : Nat} {u : SX} {v : SY} (I : i_Rel k u v) (hk : k + 5 ≤ 2560) (v1 : Int32) (v2 : Int32) : wpX_local (fun r => wpY_local (fun r' => r' = r ∧ i_Rel (k + 5) u v) v v1 v2) u v1 v2 := by
  have R : i_Rel (k + 5) u v := I
  obtain ⟨ld, hx, pc, pn, pa, pb, p, m, c, g, st, cx, ip, hy, yc, yn, ya, yb, cy, rfl, rfl, C, P, I⟩ := I
  unfold wpX_local wpY_local
  rcases es_ix v1 (N := 5) (by omega) with b | ⟨n, hn, rfl⟩
  · exact xa_nodeB b (br_t rfl (ya_badB b (br_f (by decide) ⟨rfl, R⟩)))
  · rcases es_ix v2 (N := 6) (by omega) with b | ⟨j, hj, rfl⟩
    · exact xa_node hn (br_f (by decide) (xa_keyB b (br_t rfl (ya_bad hn (br_t rfl (ya_keyB b (br_f (by decide) ⟨rfl, R⟩)))))))
    · refine xa_node hn (br_f (by decide) (xa_key hj (br_f (by decide) ?_)))
      rw [es_14, nI_clamp (by omega)]
      refine ⟨vp_in_nI (by omega) (by omega), ya_bad hn (br_t rfl (ya_key hj (br_t rfl ?_)))⟩
      rw [es_41, nI_clamp (by omega), show 14 * n + j = n * 14 + j from by omega]
      exact ⟨vp_in_nI (by omega) (by omega), C.1 _ (by omega), R⟩
theorem es_14a (k a i : Nat) : nI k * 14 + nI a + nI i = nI (k * 14 + a + i) := by rw [es_14, nI_add]
theorem es_41a (k a i : Nat) : 14 * nI k + nI a + nI i = nI (14 * k + a + i) := by rw [es_41, nI_add]
theorem i_vc_lastNumber {k : Nat} {u : SX} {v : SY} (I : i_Rel k u v) (hk : k + 5 ≤ 2560) (v1 : Int32) (v2 : Int32) : wpX_lastNumber (fun r => wpY_lastNumber (fun r' => r' = r ∧ i_Rel (k + 5) u v) v v1 v2) u v1 v2 := by
  have R : i_Rel (k + 5) u v := I
  obtain ⟨ld, hx, pc, pn, pa, pb, p, m, c, g, st, cx, ip, hy, yc, yn, ya, yb, cy, rfl, rfl, C, P, I⟩ := I
  unfold wpX_lastNumber wpY_lastNumber
  rcases es_ix v1 (N := 5) (by omega) with b | ⟨n, hn, rfl⟩
  · exact xa_nodeB b (br_t rfl (ya_badB b (br_f (by decide) ⟨rfl, R⟩)))
  · rcases es_ix v2 (N := 4) (by omega) with b | ⟨j, hj, rfl⟩
    · exact xa_node hn (br_f (by decide) (xa_sesB b (br_t rfl (ya_bad hn (br_t rfl (ya_sesB b (br_f (by decide) ⟨rfl, R⟩)))))))
    · refine xa_node hn (br_f (by decide) (xa_ses hj (br_f (by decide) ?_)))
      rw [show nI n * 14 + 6 + nI j = nI (n * 14 + 6 + j) from es_14a n 6 j, nI_clamp (by omega)]
      refine ⟨vp_in_nI (by omega) (by omega), ya_bad hn (br_t rfl (ya_ses hj (br_t rfl ?_)))⟩
      rw [show 14 * nI n + 6 + nI j = nI (14 * n + 6 + j) from es_41a n 6 j, nI_clamp (by omega), show 14 * n + 6 + j = n * 14 + 6 + j from by omega]
      exact ⟨vp_in_nI (by omega) (by omega), C.1 _ (by omega), R⟩
theorem i_vc_answer {k : Nat} {u : SX} {v : SY} (I : i_Rel k u v) (hk : k + 5 ≤ 2560) (v1 : Int32) (v2 : Int32) : wpX_answer (fun r => wpY_answer (fun r' => r' = r ∧ i_Rel (k + 5) u v) v v1 v2) u v1 v2 := by
  have R : i_Rel (k + 5) u v := I
  obtain ⟨ld, hx, pc, pn, pa, pb, p, m, c, g, st, cx, ip, hy, yc, yn, ya, yb, cy, rfl, rfl, C, P, I⟩ := I
  unfold wpX_answer wpY_answer
  rcases es_ix v1 (N := 5) (by omega) with b | ⟨n, hn, rfl⟩
  · exact xa_nodeB b (br_t rfl (ya_badB b (br_f (by decide) ⟨rfl, R⟩)))
  · rcases es_ix v2 (N := 4) (by omega) with b | ⟨j, hj, rfl⟩
    · exact xa_node hn (br_f (by decide) (xa_sesB b (br_t rfl (ya_bad hn (br_t rfl (ya_sesB b (br_f (by decide) ⟨rfl, R⟩)))))))
    · refine xa_node hn (br_f (by decide) (xa_ses hj (br_f (by decide) ?_)))
      rw [show nI n * 14 + 10 + nI j = nI (n * 14 + 10 + j) from es_14a n 10 j, nI_clamp (by omega)]
      refine ⟨vp_in_nI (by omega) (by omega), ya_bad hn (br_t rfl (ya_ses hj (br_t rfl ?_)))⟩
      rw [show 14 * nI n + 10 + nI j = nI (14 * n + 10 + j) from es_41a n 10 j, nI_clamp (by omega), show 14 * n + 10 + j = n * 14 + 10 + j from by omega]
      exact ⟨vp_in_nI (by omega) (by omega), C.1 _ (by omega), R⟩
section
variable {ld hx pc pn pa pb ly ip hy yc yn ya yb : Int32} {p m c g st cx cy : Nat → Int32}
theorem sm_scan {a b : Nat} (ha : a < 5) (hb : b < 5) (C : es_C st cx cy) : ∀ d j : Nat, j + d = 14 → ∃ r : Int32, (∀ post : Int32 → Prop, post r → wX_same_20 post (nI a) (nI b) ld hx pc pn pa pb p m c g st cx (d + 1) (nI j)) ∧ (∀ post : Int32 → Prop, post r → wY_same_20 post (nI a) (nI b) ly ip hy yc yn ya yb p g m c cy (d + 1) (nI j))
  | 0, j, hj => by
    have h : (14 : Int32) ≤ nI j := nI_le (a := 14) (by omega) (by omega)
    exact ⟨1, fun _ hp => br_t h hp, fun _ hp => br_t h hp⟩
  | d + 1, j, hj => by
    have h : ¬ (14 : Int32) ≤ nI j := nI_ge (b := 14) (by omega) (by omega)
    have c1 : (nI a * 14 + nI j).toNatClampNeg = a * 14 + j := by rw [es_14, nI_clamp (by omega)]
    have c2 : (nI b * 14 + nI j).toNatClampNeg = b * 14 + j := by rw [es_14, nI_clamp (by omega)]
    have c3 : (14 * nI a + nI j).toNatClampNeg = a * 14 + j := by rw [es_41, nI_clamp (by omega)]; omega
    have c4 : (14 * nI b + nI j).toNatClampNeg = b * 14 + j := by rw [es_41, nI_clamp (by omega)]; omega
    have d1 : vp_in (nI a * 14 + nI j) 70 := by rw [es_14]; exact vp_in_nI (by omega) (by omega)
    have d2 : vp_in (nI b * 14 + nI j) 70 := by rw [es_14]; exact vp_in_nI (by omega) (by omega)
    have d3 : vp_in (14 * nI a + nI j) 84 := by rw [es_41]; exact vp_in_nI (by omega) (by omega)
    have d4 : vp_in (14 * nI b + nI j) 84 := by rw [es_41]; exact vp_in_nI (by omega) (by omega)
    have e1 := C.1 (a * 14 + j) (by omega)
    have e2 := C.1 (b * 14 + j) (by omega)
    by_cases z : cx (a * 14 + j) = cx (b * 14 + j)
    · obtain ⟨r, hX, hY⟩ := sm_scan ha hb C d (j + 1) (by omega)
      exact ⟨r, fun post hp => br_f h ⟨d1, d2, br_t (by rw [c1, c2]; exact z) (nm_r (nI_1 j) (hX post hp))⟩, fun post hp => br_f h ⟨d3, d4, br_t (by rw [c3, c4, e1, e2]; exact z) (nm_r (nI_1 j) (hY post hp))⟩⟩
    · exact ⟨0, fun post hp => br_f h ⟨d1, d2, br_f (by rw [c1, c2]; exact z) hp⟩, fun post hp => br_f h ⟨d3, d4, br_f (by rw [c3, c4, e1, e2]; exact z) hp⟩⟩
end
theorem i_vc_same {k : Nat} {u : SX} {v : SY} (I : i_Rel k u v) (hk : k + 5 ≤ 2560) (v1 : Int32) (v2 : Int32) : wpX_same (fun r => wpY_same (fun r' => r' = r ∧ i_Rel (k + 5) u v) v v1 v2) u v1 v2 := by
  have R : i_Rel (k + 5) u v := I
  obtain ⟨ld, hx, pc, pn, pa, pb, p, m, c, g, st, cx, ip, hy, yc, yn, ya, yb, cy, rfl, rfl, C, P, I⟩ := I
  unfold wpX_same wpY_same
  rcases es_ix v1 (N := 5) (by omega) with b | ⟨n, hn, rfl⟩
  · exact xa_nodeB b (br_t rfl (ya_badB b (br_f (by decide) ⟨rfl, R⟩)))
  · rcases es_ix v2 (N := 5) (by omega) with b | ⟨j, hj, rfl⟩
    · exact xa_node hn (br_f (by decide) (xa_nodeB b (br_t rfl (ya_bad hn (br_t rfl (ya_badB b (br_f (by decide) ⟨rfl, R⟩)))))))
    · obtain ⟨r, hX, hY⟩ := sm_scan (ld := ld) (hx := hx) (pc := pc) (pn := pn) (pa := pa) (pb := pb) (ly := ld) (ip := ip) (hy := hy) (yc := yc) (yn := yn) (ya := ya) (yb := yb) (p := p) (m := m) (c := c) (g := g) hn hj C 14 0 rfl
      exact xa_node hn (br_f (by decide) (xa_node hj (br_f (by decide) ⟨_, hX _ (ya_bad hn (br_t rfl (ya_bad hj (br_t rfl ⟨_, hY _ ⟨rfl, R⟩⟩))))⟩)))
theorem i_vc_compact {k : Nat} {u : SX} {v : SY} (I : i_Rel k u v) (hk : k + 5 ≤ 2560) : wpX_compact (fun u' => wpY_compact (fun v' => i_Rel (k + 5) u' v') v) u := by
  have R : i_Rel (k + 5) u v := I
  obtain ⟨ld, hx, pc, pn, pa, pb, p, m, c, g, st, cx, ip, hy, yc, yn, ya, yb, cy, rfl, rfl, C, P, I⟩ := I
  exact R
theorem i_vc_faults {k : Nat} {u : SX} {v : SY} (I : i_Rel k u v) (hk : k + 5 ≤ 2560) : wpX_faults (fun r => wpY_faults (fun r' => r' = r ∧ i_Rel (k + 5) u v) v) u := by
  have R : i_Rel (k + 5) u v := I
  obtain ⟨ld, hx, pc, pn, pa, pb, p, m, c, g, st, cx, ip, hy, yc, yn, ya, yb, cy, rfl, rfl, C, P, I⟩ := I
  exact ⟨rfl, R⟩
