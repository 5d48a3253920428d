/-- the relation: the same nodes, the same leader, the state and the copies as they lie in the reference's row, the same pending command, and the invariant -/
def es_R (u : SX) (v : SY) : Prop := ∃ (ld hx pc pn pa pb : Int32) (p m c g st cx : Nat → Int32) (ip hy yc yn ya yb : Int32) (cy : Nat → Int32), u = (ld, hx, pc, pn, pa, pb, p, m, c, g, st, cx) ∧ v = (ld, ip, hy, yc, yn, ya, yb, p, g, m, c, cy) ∧ es_C st cx cy ∧ es_P hx pc pn pa pb ip hy yc yn ya yb ∧ es_I ld hx p m c g
section
variable {ld hx pc pn pa pb ly ip hy yc yn ya yb : Int32} {p m c g st cx cy : Nat → Int32}
theorem es_PW (P : es_P hx pc pn pa pb ip hy yc yn ya yb) : es_W hx := by
  rcases P with ⟨h, _⟩ | ⟨h, k, hh, _, e, _⟩
  · exact Or.inl h
  · exact Or.inr ⟨h, hh, e⟩
theorem es_P0 {a b d e f i j o r : Int32} : es_P (-1) a b d e 0 f i j o r := Or.inl ⟨rfl, rfl⟩
theorem es_J_of {q : Int32} (K : ∀ n, n < 5 → es_in p m g q n = true → ¬ c n = 0) (Q : es_Q p m g q = true) : es_J m c := by
  have a := es_Q_iff.mp Q
  have b := es_cnt_mono (f := es_in p m g q) (h := fun n => es_me m n && decide (¬ c n = 0)) 5 (fun j hj z => by
    show (es_me m j && decide (¬ c j = 0)) = true
    rw [es_in_me z, decide_eq_true (K j hj z)]; rfl)
  unfold es_J
  omega
/-- a new leader is found -/
theorem es_se {q : Int32} (J : es_J m c) (Q : es_Q p m g q = true) (w : es_W hx) (nd : ∀ h, h < 5 → hx = nI h → es_nd p m g q h = false) : ∃ n, n < 5 ∧ es_in p m g q n = true ∧ ¬ c n = 0 ∧ ¬ nI n = hx := by
  have hc : ∀ j, j < 5 → (fun n => es_me m n && decide (¬ c n = 0)) j = true → es_me m j = true := fun j _ z => (Bool.and_eq_true _ _ ▸ z).1
  have hd : ∀ j, (fun n => es_me m n && decide (¬ c n = 0)) j = true → ¬ c j = 0 := fun j z => of_decide_eq_true (Bool.and_eq_true _ _ ▸ z).2
  rcases w with rfl | ⟨h, hh, rfl⟩
  · obtain ⟨n, hn, a, b⟩ := es_meet (fun j _ z => es_in_me z) hc (es_Q_iff.mp Q) J
    exact ⟨n, hn, a, hd n b, es_n1 hn⟩
  · cases a : es_in p m g q h with
    | true =>
      have l := (es_nd_iff a).mp (nd h hh rfl)
      have l2 := es_less (es_in p m g q) h 5
      rw [if_pos hh] at l2
      obtain ⟨n, hn, z, b⟩ := es_meet (f := fun j => es_in p m g q j && !decide (j = h)) (m := es_me m) (fun j _ z => es_in_me (Bool.and_eq_true _ _ ▸ z).1) hc (by omega) J
      have z2 := (Bool.and_eq_true _ _ ▸ z)
      refine ⟨n, hn, z2.1, hd n b, fun e => ?_⟩
      rw [nI_eq (by omega) (by omega)] at e
      have z3 := z2.2
      rw [decide_eq_true e] at z3
      exact absurd z3 (by decide)
    | false =>
      obtain ⟨n, hn, z, b⟩ := es_meet (fun j _ z => es_in_me z) hc (es_Q_iff.mp Q) J
      refine ⟨n, hn, z, hd n b, fun e => ?_⟩
      rw [nI_eq (by omega) (by omega)] at e
      rw [e, a] at z
      exact absurd z (by decide)
/-- the invariant behind a settling with a quorum -/
theorem es_I_of {q : Int32} {n : Nat} {d : Nat → Int32} (hq : es_qg p m g = q) (h1 : ¬ q = -1) (hn : n < 5) (hi : es_in p m g q n = true) (mb : ∀ n, n < 5 → m n = 0 ∨ m n = 1) : es_I (nI n) (-1) p m (es_rc (es_in p m g q) d 5) g := by
  have K : ∀ n, n < 5 → es_in p m g q n = true → ¬ es_rc (es_in p m g q) d 5 n = 0 := fun n hn z => by
    rw [es_rc_at, if_pos ⟨hn, z⟩]; decide
  have Q : es_Q p m g q = true := by
    have := (es_qg_Q (p := p) (m := m) (g := g) (by rw [hq]; exact h1)).1
    rw [hq] at this; exact this
  refine ⟨Or.inr ⟨n, hn, rfl⟩, fun _ => ?_, es_J_of K Q, fun _ => rfl, mb⟩
  rw [hq]
  exact ⟨⟨n, hn, rfl, hi⟩, K⟩
theorem sb_settle {q : Int32} (hq : es_qg p m g = q) (C : es_C st cx cy) (P : es_P hx pc pn pa pb ip hy yc yn ya yb) (wl : es_W ld)
    (hl : ly = ld ∨ (ly = -1 ∧ ¬ q = -1 ∧ ∀ n, n < 5 → ld = nI n → es_in p m g q n = false))
    (sp : ¬ q = -1 → ∀ n, n < 5 → ld = nI n → es_in p m g q n = true → hx = -1)
    (sj : q = -1 → es_J m c)
    (se : ¬ q = -1 → (∀ n, n < 5 → ld = nI n → es_in p m g q n = false) → (∀ h, h < 5 → hx = nI h → es_nd p m g q h = false) → ∃ n, n < 5 ∧ es_in p m g q n = true ∧ ¬ c n = 0 ∧ ¬ nI n = hx)
    (mb : ∀ n, n < 5 → m n = 0 ∨ m n = 1) :
    ∃ (u : SX) (v : SY), es_R u v ∧ (∀ post : SX → Prop, post u → wpX_settle post (ld, hx, pc, pn, pa, pb, p, m, c, g, st, cx)) ∧ (∀ post : SY → Prop, post v → wpY_settle post (ly, ip, hy, yc, yn, ya, yb, p, g, m, c, cy)) := by
  by_cases h1 : q = -1
  · subst h1
    exact ⟨_, _, ⟨_, _, _, _, _, _, _, _, _, _, _, _, _, _, _, _, _, _, _, rfl, rfl, C, P, Or.inl rfl, fun z => absurd hq z, sj rfl, fun z => absurd rfl z, mb⟩, fun post h => xa_s0 hq h, fun post h => ya_s0 hq h⟩
  · by_cases hin : ∃ n, n < 5 ∧ ld = nI n ∧ es_in p m g q n = true
    · obtain ⟨n, hn, rfl, hi⟩ := hin
      have e : hx = -1 := sp h1 n hn rfl hi
      subst e
      have e : ly = nI n := by
        rcases hl with e | ⟨_, _, o⟩
        · exact e
        · exact absurd hi (by rw [o n hn rfl]; decide)
      subst e
      exact ⟨_, _, ⟨_, _, _, _, _, _, _, _, _, _, _, _, _, _, _, _, _, _, _, rfl, rfl, es_C_rf C 5 (Nat.le_refl 5), P, es_I_of hq h1 hn hi mb⟩, fun post h => xa_s1 hq h1 hn hi h, fun post h => ya_s1 hq h1 hn hi h⟩
    · have o : ∀ n, n < 5 → ld = nI n → es_in p m g q n = false := fun n hn e => by
        cases z : es_in p m g q n with
        | false => rfl
        | true => exact absurd ⟨n, hn, e, z⟩ hin
      have wy : es_W ly := by
        rcases hl with e | ⟨e, _⟩
        · rw [e]; exact wl
        · exact Or.inl e
      have oy : ∀ n, n < 5 → ly = nI n → es_in p m g q n = false := by
        rcases hl with e | ⟨e, _⟩
        · rw [e]; exact o
        · intro n hn e2; exact absurd (e2.symm.trans e) (es_n1 hn)
      rcases P with ⟨rfl, rfl⟩ | ⟨h, k, hh, hk, rfl, rfl, rfl, rfl, rfl, rfl, rfl, rfl⟩
      · have nd : ∀ h, h < 5 → (-1 : Int32) = nI h → es_nd p m g q h = false := fun h hh e => absurd e.symm (es_n1 hh)
        have H : ∀ n, n < 5 → ((fun n => es_in p m g q n && decide (¬ c n = 0)) n = true ↔ es_in p m g q n = true ∧ ¬ c n = 0 ∧ ¬ nI n = -1) := fun n hn => by
          rw [Bool.and_eq_true, decide_eq_true_iff]
          exact ⟨fun z => ⟨z.1, z.2, es_n1 hn⟩, fun z => ⟨z.1, z.2.1⟩⟩
        have H2 : ∀ n, n < 5 → ((fun n => es_in p m g q n && decide (¬ c n = 0)) n = true ↔ es_in p m g q n = true ∧ ¬ c n = 0 ∧ ¬ (¬ (0 : Int32) = 0 ∧ nI n = hy)) := fun n hn => by
          rw [Bool.and_eq_true, decide_eq_true_iff]
          exact ⟨fun z => ⟨z.1, z.2, fun y => y.1 rfl⟩, fun z => ⟨z.1, z.2.1⟩⟩
        obtain ⟨n, hn, z1, z2, z3⟩ := se h1 o nd
        obtain ⟨n, hn, z, ef⟩ := es_fr_some (h := fun n => es_in p m g q n && decide (¬ c n = 0)) 5 (Nat.le_refl 5) ⟨n, by omega, hn, (H n hn).mpr ⟨z1, z2, z3⟩⟩
        have hi := ((H n hn).mp z).1
        refine ⟨_, _, ?_, fun post h => xa_sL hq h1 wl o (Or.inl rfl) nd H h, fun post h => ya_sL hq h1 wy oy (Or.inl rfl) H2 h⟩
        rw [ef]
        exact ⟨_, _, _, _, _, _, _, _, _, _, _, _, _, _, _, _, _, _, _, rfl, rfl, es_C_rf C 5 (Nat.le_refl 5), es_P0, es_I_of hq h1 hn hi mb⟩
      · cases nd : es_nd p m g q h with
        | true =>
          have hi : es_in p m g q h = true := by
            unfold es_nd at nd; exact (Bool.and_eq_true _ _ ▸ nd).1
          exact ⟨_, _, ⟨_, _, _, _, _, _, _, _, _, _, _, _, _, _, _, _, _, _, _, rfl, rfl, es_C_rf (es_C_d C k _ _ _) 5 (Nat.le_refl 5), es_P0, es_I_of hq h1 hh hi mb⟩, fun post z => xa_sN hq h1 wl o hh hk nd z, fun post z => ya_sN hq h1 wy oy hh hk nd z⟩
        | false =>
          have nd2 : ∀ j, j < 5 → nI h = nI j → es_nd p m g q j = false := fun j hj e => by
            rw [nI_eq (by omega) (by omega)] at e
            subst e; exact nd
          have H : ∀ n, n < 5 → ((fun n => es_in p m g q n && (decide (¬ c n = 0) && decide (¬ nI n = nI h))) n = true ↔ es_in p m g q n = true ∧ ¬ c n = 0 ∧ ¬ nI n = nI h) := fun n hn => by
            rw [Bool.and_eq_true, Bool.and_eq_true, decide_eq_true_iff, decide_eq_true_iff]
          have H2 : ∀ n, n < 5 → ((fun n => es_in p m g q n && (decide (¬ c n = 0) && decide (¬ nI n = nI h))) n = true ↔ es_in p m g q n = true ∧ ¬ c n = 0 ∧ ¬ (¬ (1 : Int32) = 0 ∧ nI n = nI h)) := fun n hn => by
            rw [Bool.and_eq_true, Bool.and_eq_true, decide_eq_true_iff, decide_eq_true_iff]
            exact ⟨fun z => ⟨z.1, z.2.1, fun y => z.2.2 y.2⟩, fun z => ⟨z.1, z.2.1, fun y => z.2.2 ⟨by decide, y⟩⟩⟩
          obtain ⟨n, hn, z1, z2, z3⟩ := se h1 o nd2
          obtain ⟨n, hn, z, ef⟩ := es_fr_some (h := fun n => es_in p m g q n && (decide (¬ c n = 0) && decide (¬ nI n = nI h))) 5 (Nat.le_refl 5) ⟨n, by omega, hn, (H n hn).mpr ⟨z1, z2, z3⟩⟩
          have hi := ((H n hn).mp z).1
          refine ⟨_, _, ?_, fun post z => xa_sL hq h1 wl o (Or.inr ⟨h, hh, rfl⟩) nd2 H z, fun post z => ya_sL hq h1 wy oy (Or.inr ⟨h, hh, rfl, rfl, nd⟩) H2 z⟩
          rw [ef]
          exact ⟨_, _, _, _, _, _, _, _, _, _, _, _, _, _, _, _, _, _, _, rfl, rfl, es_C_rf C 5 (Nat.le_refl 5), es_P0, es_I_of hq h1 hn hi mb⟩
/-- behind any change of who is up and where -/
theorem sb_any (a b : Nat → Int32) (C : es_C st cx cy) (P : es_P hx pc pn pa pb ip hy yc yn ya yb) (I : es_I ld hx p m c g) :
    ∃ (u : SX) (v : SY), es_R u v ∧ (∀ post : SX → Prop, post u → wpX_settle post (ld, hx, pc, pn, pa, pb, a, m, c, b, st, cx)) ∧ (∀ post : SY → Prop, post v → wpY_settle post (ld, ip, hy, yc, yn, ya, yb, a, b, m, c, cy)) := by
  obtain ⟨wl, _, J, hP, mb⟩ := I
  refine sb_settle rfl C P wl (Or.inl rfl) (fun _ n hn e _ => hP (by rw [e]; exact es_n1 hn)) (fun _ => J) (fun h1 _ nd => es_se J (es_qg_Q h1).1 (es_PW P) nd) mb
end
