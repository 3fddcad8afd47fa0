/-! the relation, and what is owed -/
def gs_RB (R : Int32 × Int32 × Int32 × Int32 × (Nat → Int32) × (Nat → Int32)) : Prop := ∃ c, c ≤ 1000 ∧ R.2.1 = nI c
def i_Rel (_ : Nat) (u : SX) (v : SY) : Prop := ∃ ak av ac ek ev ex ey : Nat → Nat, gx_RX ak av ac ek ev ex ey u ∧ gy_RY ak av ac ek ev ex ey v ∧ gx_run u = gy_run v ∧ gs_RB (gx_run u)
theorem i_up {k : Nat} {u : SX} {v : SY} (h : i_Rel k u v) : i_Rel (k + 6) u v := h
theorem gs_cA_uniq {n k v c n' k' v' c' : Nat} {p0 p1 p2 p3 : Int32} (h : gs_cA n k v c p0 p1 p2 p3) (h' : gs_cA n' k' v' c' p0 p1 p2 p3) : n = n' ∧ k = k' ∧ v = v' ∧ c = c' := by
  obtain ⟨a1, a2, a3, a4, a5, a6, a7, a8, a9⟩ := h
  obtain ⟨b1, b2, b3, b4, b5, b6, b7, b8, b9⟩ := h'
  have e1 : n = n' := (nI_eq (by omega) (by omega)).mp (a3.symm.trans b3)
  have e2 : k = k' := (nI_eq (by omega) (by omega)).mp (a4.symm.trans b4)
  subst e1 e2
  refine ⟨rfl, rfl, ?_, ?_⟩
  · by_cases q : k = 0
    · rw [a6 q, b6 q]
    · have := a5 q
      have := b5 q
      exact (nI_eq (by omega) (by omega)).mp ((a5 q).2.symm.trans (b5 q).2)
  · by_cases q : k = 1 ∨ k = 2
    · have := a7 q
      have := b7 q
      exact (nI_eq (by omega) (by omega)).mp ((a7 q).2.symm.trans (b7 q).2)
    · by_cases q3 : k = 3
      · have := a8 q3
        have := b8 q3
        exact (nI_eq (by omega) (by omega)).mp ((a8 q3).2.symm.trans (b8 q3).2)
      · rw [a9 (by omega), b9 (by omega)]
theorem gs_cE_uniq {n k v x y n' k' v' x' y' : Nat} {p0 p1 p2 p3 p4 : Int32} (h : gs_cE n k v x y p0 p1 p2 p3 p4) (h' : gs_cE n' k' v' x' y' p0 p1 p2 p3 p4) : n = n' ∧ k = k' ∧ v = v' ∧ x = x' ∧ y = y' := by
  obtain ⟨a1, a2, a3, a4, a5, a6, a7, a8⟩ := h
  obtain ⟨b1, b2, b3, b4, b5, b6, b7, b8⟩ := h'
  have e1 : n = n' := (nI_eq (by omega) (by omega)).mp (a3.symm.trans b3)
  have e2 : k = k' := (nI_eq (by omega) (by omega)).mp (a4.symm.trans b4)
  subst e1 e2
  refine ⟨rfl, rfl, ?_, ?_, ?_⟩
  · by_cases q : k = 2
    · have := a7 q
      have := b7 q
      exact (nI_eq (by omega) (by omega)).mp ((a7 q).2.1.symm.trans (b7 q).2.1)
    · rw [(a8 q).1, (b8 q).1]
  · by_cases q : k = 0
    · rw [a6 q, b6 q]
    · have := a5 q
      have := b5 q
      exact (nI_eq (by omega) (by omega)).mp ((a5 q).2.symm.trans (b5 q).2)
  · by_cases q : k = 2
    · have := a7 q
      have := b7 q
      exact (nI_eq (by omega) (by omega)).mp ((a7 q).2.2.2.symm.trans (b7 q).2.2.2)
    · rw [(a8 q).2, (b8 q).2]
theorem i_vc0 : wpX_init (fun u => wpY_init (fun v => i_Rel 0 u v)) := by
  refine ⟨fun _ => 0, fun _ => 0, fun _ => 0, fun _ => 0, fun _ => 0, fun _ => 0, fun _ => 0, ⟨⟨fun _ => by dsimp only; omega, fun _ => by dsimp only; omega, fun _ => by dsimp only; omega, fun _ => rfl, fun _ => rfl, fun _ => rfl⟩, ⟨fun _ => by dsimp only; omega, fun _ => by dsimp only; omega, fun _ => by dsimp only; omega, fun _ _ => by dsimp only; omega, fun _ => by dsimp only; omega, fun _ => rfl, fun _ => rfl, fun _ => rfl, fun _ => rfl⟩, fun z => absurd z (by decide)⟩, ⟨⟨fun _ => by dsimp only; omega, fun _ => by dsimp only; omega, fun _ => by dsimp only; omega, fun _ => by dsimp only; omega, fun _ => rfl, fun _ _ => rfl, fun _ _ => rfl, fun _ _ => rfl⟩, ⟨fun _ => by dsimp only; omega, fun _ => by dsimp only; omega, fun _ => by dsimp only; omega, fun _ _ => by dsimp only; omega, fun _ => rfl, fun _ _ => rfl, fun _ _ => rfl⟩, fun z => absurd rfl z⟩, rfl, ⟨0, by omega, rfl⟩⟩
theorem gs_Qset_uniq {ek ex ey : Nat → Nat} {w : Int32} {n : Nat} {r r' : Int32} (h : gs_Qset ek ex ey w n r) (h' : gs_Qset ek ex ey w n r') : r' = r := by
  rcases h with ⟨a, b⟩ | ⟨a, b⟩ | ⟨a, b⟩ | ⟨a, b⟩ <;> rcases h' with ⟨c, d⟩ | ⟨c, d⟩ | ⟨c, d⟩ | ⟨c, d⟩
  · exact gs_Mk_uniq d b
  · exact absurd (a.symm.trans c) (by decide)
  · exact absurd (a.symm.trans c) (by decide)
  · exact absurd a c.1
  · exact absurd (a.symm.trans c) (by decide)
  · exact gs_Mk_uniq d b
  · exact absurd (a.symm.trans c) (by decide)
  · exact absurd a c.2.1
  · exact absurd (a.symm.trans c) (by decide)
  · exact absurd (a.symm.trans c) (by decide)
  · exact gs_Mk_uniq d b
  · exact absurd a c.2.2
  · exact absurd c a.1
  · exact absurd c a.2.1
  · exact absurd c a.2.2
  · rw [b, d]
theorem gs_Amg_uniq {ak av ek ex ey : Nat → Nat} {p r r' : Int32} (h : gs_Amg ak av ek ex ey p r) (h' : gs_Amg ak av ek ex ey p r') : r' = r := by
  rcases h with ⟨v, hv, e, b⟩ | ⟨a, b⟩ <;> rcases h' with ⟨v', hv', e', b'⟩ | ⟨a', b'⟩
  · have : v = v' := (nI_eq (by omega) (by omega)).mp (e.symm.trans e')
    subst this
    exact gs_Mk_uniq b' b
  · exact absurd e (a' v hv)
  · exact absurd e' (a v' hv')
  · rw [b, b']
theorem gs_Akn_uniq {ak av ac ek ev ex ey : Nat → Nat} {p q r r' : Int32} (h : gs_Akn ak av ac ek ev ex ey p q r) (h' : gs_Akn ak av ac ek ev ex ey p q r') : r' = r := by
  rcases h with ⟨n, v, hn, hv, e, f, b⟩ | ⟨a, b⟩ <;> rcases h' with ⟨n', v', hn', hv', e', f', b'⟩ | ⟨a', b'⟩
  · have h1 : n = n' := (nI_eq (by omega) (by omega)).mp (e.symm.trans e')
    have h2 : v = v' := (nI_eq (by omega) (by omega)).mp (f.symm.trans f')
    subst h1 h2
    rw [b, b']
  · rcases a' with a' | a'
    · exact absurd e (a' n hn)
    · exact absurd f (a' v hv)
  · rcases a with a | a
    · exact absurd e' (a n' hn')
    · exact absurd f' (a v' hv')
  · rw [b, b']
theorem gs_Aws_uniq {ek ev ex ey : Nat → Nat} {r r' : Int32} (h : gs_Aws ek ev ex ey r) (h' : gs_Aws ek ev ex ey r') : r' = r := by
  rcases h with ⟨a, b⟩ | ⟨a, b⟩ <;> rcases h' with ⟨a', b'⟩ | ⟨a', b'⟩
  · rw [b, b']
  · exact absurd a a'
  · exact absurd a' a
  · rw [b, b']
theorem gs_Awd_uniq {ek ev ex ey : Nat → Nat} {p r r' : Int32} (hl : (gs_cF ek ex ey ev).1.length ≤ 158) (h : gs_Awd ek ev ex ey p r) (h' : gs_Awd ek ev ex ey p r') : r' = r := by
  rcases h with ⟨a, j, hj, e, b⟩ | ⟨a, b⟩ <;> rcases h' with ⟨a', j', hj', e', b'⟩ | ⟨a', b'⟩
  · have : j = j' := (nI_eq (by omega) (by omega)).mp (e.symm.trans e')
    subst this
    rw [b, b']
  · rcases a' with a' | a'
    · exact absurd a a'
    · exact absurd e (a' j hj)
  · rcases a with a | a
    · exact absurd a' a
    · exact absurd e' (a j' hj')
  · rw [b, b']
theorem i_vc_number {k : Nat} {u : SX} {v : SY} (I : i_Rel k u v) (hk : k + 6 ≤ 3072) (v1 : Int32) : wpX_number (fun r u' => wpY_number (fun r' v' => r' = r ∧ i_Rel (k + 6) u' v') v v1) u v1 := by
  obtain ⟨ak, av, ac, ek, ev, ex, ey, RX, RY, RR, RB⟩ := I
  obtain ⟨x0, x1, x2, x3, x4, x5, x6, x7, x8, x9, x10, x11, x12, x13, x14, x15, x16, x17, x18, x19, x20, x21, x22, x23, x24, x25, x26, x27, x28, x29, x30, x31, x32, x33, x34⟩ := u
  obtain ⟨y0, y1, y2, y3, y4, y5, y6, y7, y8, y9, y10, y11, y12, y13, y14, y15, y16, y17, y18, y19, y20, y21, y22⟩ := v
  have hx := RX.1.2.1
  have hy := RX.1.2.2.1
  exact gx_m_number RX (fun r u' hr RX' ru => gy_m_number RY (fun r' v' hr' RY' rv => ⟨gs_Q_uniq hx hy (fun n _ r r' a b => b.trans a.symm) hr hr', ⟨ak, av, ac, ek, ev, ex, ey, RX', RY', ru.trans (RR.trans rv.symm), by rw [ru]; exact RB⟩⟩))
theorem i_vc_chief {k : Nat} {u : SX} {v : SY} (I : i_Rel k u v) (hk : k + 6 ≤ 3072) (v1 : Int32) : wpX_chief (fun r u' => wpY_chief (fun r' v' => r' = r ∧ i_Rel (k + 6) u' v') v v1) u v1 := by
  obtain ⟨ak, av, ac, ek, ev, ex, ey, RX, RY, RR, RB⟩ := I
  obtain ⟨x0, x1, x2, x3, x4, x5, x6, x7, x8, x9, x10, x11, x12, x13, x14, x15, x16, x17, x18, x19, x20, x21, x22, x23, x24, x25, x26, x27, x28, x29, x30, x31, x32, x33, x34⟩ := u
  obtain ⟨y0, y1, y2, y3, y4, y5, y6, y7, y8, y9, y10, y11, y12, y13, y14, y15, y16, y17, y18, y19, y20, y21, y22⟩ := v
  have hx := RX.1.2.1
  have hy := RX.1.2.2.1
  exact gx_m_chief RX (fun r u' hr RX' ru => gy_m_chief RY (fun r' v' hr' RY' rv => ⟨gs_Q_uniq hx hy (fun n _ r r' a b => gs_Fst_uniq b a (fun _ _ => Iff.rfl)) hr hr', ⟨ak, av, ac, ek, ev, ex, ey, RX', RY', ru.trans (RR.trans rv.symm), by rw [ru]; exact RB⟩⟩))
theorem i_vc_tail {k : Nat} {u : SX} {v : SY} (I : i_Rel k u v) (hk : k + 6 ≤ 3072) (v1 : Int32) : wpX_tail (fun r u' => wpY_tail (fun r' v' => r' = r ∧ i_Rel (k + 6) u' v') v v1) u v1 := by
  obtain ⟨ak, av, ac, ek, ev, ex, ey, RX, RY, RR, RB⟩ := I
  obtain ⟨x0, x1, x2, x3, x4, x5, x6, x7, x8, x9, x10, x11, x12, x13, x14, x15, x16, x17, x18, x19, x20, x21, x22, x23, x24, x25, x26, x27, x28, x29, x30, x31, x32, x33, x34⟩ := u
  obtain ⟨y0, y1, y2, y3, y4, y5, y6, y7, y8, y9, y10, y11, y12, y13, y14, y15, y16, y17, y18, y19, y20, y21, y22⟩ := v
  have hx := RX.1.2.1
  have hy := RX.1.2.2.1
  exact gx_m_tail RX (fun r u' hr RX' ru => gy_m_tail RY (fun r' v' hr' RY' rv => ⟨gs_Q_uniq hx hy (fun n _ r r' a b => gs_Fst_uniq b a (fun _ _ => Iff.rfl)) hr hr', ⟨ak, av, ac, ek, ev, ex, ey, RX', RY', ru.trans (RR.trans rv.symm), by rw [ru]; exact RB⟩⟩))
theorem i_vc_set {k : Nat} {u : SX} {v : SY} (I : i_Rel k u v) (hk : k + 6 ≤ 3072) (v1 : Int32) (v2 : Int32) : wpX_set (fun r u' => wpY_set (fun r' v' => r' = r ∧ i_Rel (k + 6) u' v') v v1 v2) u v1 v2 := by
  obtain ⟨ak, av, ac, ek, ev, ex, ey, RX, RY, RR, RB⟩ := I
  obtain ⟨x0, x1, x2, x3, x4, x5, x6, x7, x8, x9, x10, x11, x12, x13, x14, x15, x16, x17, x18, x19, x20, x21, x22, x23, x24, x25, x26, x27, x28, x29, x30, x31, x32, x33, x34⟩ := u
  obtain ⟨y0, y1, y2, y3, y4, y5, y6, y7, y8, y9, y10, y11, y12, y13, y14, y15, y16, y17, y18, y19, y20, y21, y22⟩ := v
  have hx := RX.1.2.1
  have hy := RX.1.2.2.1
  exact gx_m_set RX (fun r u' hr RX' ru => gy_m_set RY (fun r' v' hr' RY' rv => ⟨gs_Q_uniq (Q := gs_Qset ek ex ey v2) hx hy (fun n _ r r' a b => gs_Qset_uniq a b) hr hr', ⟨ak, av, ac, ek, ev, ex, ey, RX', RY', ru.trans (RR.trans rv.symm), by rw [ru]; exact RB⟩⟩))
theorem i_vc_depth {k : Nat} {u : SX} {v : SY} (I : i_Rel k u v) (hk : k + 6 ≤ 3072) (v1 : Int32) : wpX_depth (fun r u' => wpY_depth (fun r' v' => r' = r ∧ i_Rel (k + 6) u' v') v v1) u v1 := by
  obtain ⟨ak, av, ac, ek, ev, ex, ey, RX, RY, RR, RB⟩ := I
  obtain ⟨x0, x1, x2, x3, x4, x5, x6, x7, x8, x9, x10, x11, x12, x13, x14, x15, x16, x17, x18, x19, x20, x21, x22, x23, x24, x25, x26, x27, x28, x29, x30, x31, x32, x33, x34⟩ := u
  obtain ⟨y0, y1, y2, y3, y4, y5, y6, y7, y8, y9, y10, y11, y12, y13, y14, y15, y16, y17, y18, y19, y20, y21, y22⟩ := v
  have hx := RX.1.2.1
  have hy := RX.1.2.2.1
  exact gx_m_depth RX (fun r u' hr RX' ru => gy_m_depth RY (fun r' v' hr' RY' rv => ⟨gs_Q_uniq hx hy (fun n _ r r' a b => b.trans a.symm) hr hr', ⟨ak, av, ac, ek, ev, ex, ey, RX', RY', ru.trans (RR.trans rv.symm), by rw [ru]; exact RB⟩⟩))
theorem i_vc_head {k : Nat} {u : SX} {v : SY} (I : i_Rel k u v) (hk : k + 6 ≤ 3072) (v1 : Int32) : wpX_head (fun r u' => wpY_head (fun r' v' => r' = r ∧ i_Rel (k + 6) u' v') v v1) u v1 := by
  obtain ⟨ak, av, ac, ek, ev, ex, ey, RX, RY, RR, RB⟩ := I
  obtain ⟨x0, x1, x2, x3, x4, x5, x6, x7, x8, x9, x10, x11, x12, x13, x14, x15, x16, x17, x18, x19, x20, x21, x22, x23, x24, x25, x26, x27, x28, x29, x30, x31, x32, x33, x34⟩ := u
  obtain ⟨y0, y1, y2, y3, y4, y5, y6, y7, y8, y9, y10, y11, y12, y13, y14, y15, y16, y17, y18, y19, y20, y21, y22⟩ := v
  have hx := RX.1.2.1
  have hy := RX.1.2.2.1
  exact gx_m_head RX (fun r u' hr RX' ru => gy_m_head RY (fun r' v' hr' RY' rv => ⟨gs_Q_uniq hx hy (fun n _ r r' a b => b.trans a.symm) hr hr', ⟨ak, av, ac, ek, ev, ex, ey, RX', RY', ru.trans (RR.trans rv.symm), by rw [ru]; exact RB⟩⟩))
theorem i_vc_live {k : Nat} {u : SX} {v : SY} (I : i_Rel k u v) (hk : k + 6 ≤ 3072) (v1 : Int32) : wpX_live (fun r u' => wpY_live (fun r' v' => r' = r ∧ i_Rel (k + 6) u' v') v v1) u v1 := by
  obtain ⟨ak, av, ac, ek, ev, ex, ey, RX, RY, RR, RB⟩ := I
  obtain ⟨x0, x1, x2, x3, x4, x5, x6, x7, x8, x9, x10, x11, x12, x13, x14, x15, x16, x17, x18, x19, x20, x21, x22, x23, x24, x25, x26, x27, x28, x29, x30, x31, x32, x33, x34⟩ := u
  obtain ⟨y0, y1, y2, y3, y4, y5, y6, y7, y8, y9, y10, y11, y12, y13, y14, y15, y16, y17, y18, y19, y20, y21, y22⟩ := v
  have hx := RX.1.2.1
  have hy := RX.1.2.2.1
  exact gx_m_live RX (fun r u' hr RX' ru => gy_m_live RY (fun r' v' hr' RY' rv => ⟨gs_Q_uniq (Q := fun n r => gs_Mk r (fun v => gs_liv ak av ac ek ev ex ey v n)) hx hy (fun n _ r r' a b => gs_Mk_uniq b a) hr hr', ⟨ak, av, ac, ek, ev, ex, ey, RX', RY', ru.trans (RR.trans rv.symm), by rw [ru]; exact RB⟩⟩))
theorem i_vc_merges {k : Nat} {u : SX} {v : SY} (I : i_Rel k u v) (hk : k + 6 ≤ 3072) (v1 : Int32) : wpX_merges (fun r u' => wpY_merges (fun r' v' => r' = r ∧ i_Rel (k + 6) u' v') v v1) u v1 := by
  obtain ⟨ak, av, ac, ek, ev, ex, ey, RX, RY, RR, RB⟩ := I
  obtain ⟨x0, x1, x2, x3, x4, x5, x6, x7, x8, x9, x10, x11, x12, x13, x14, x15, x16, x17, x18, x19, x20, x21, x22, x23, x24, x25, x26, x27, x28, x29, x30, x31, x32, x33, x34⟩ := u
  obtain ⟨y0, y1, y2, y3, y4, y5, y6, y7, y8, y9, y10, y11, y12, y13, y14, y15, y16, y17, y18, y19, y20, y21, y22⟩ := v
  have hx := RX.1.2.1
  have hy := RX.1.2.2.1
  exact gx_m_merges RX (fun r u' hr RX' ru => gy_m_merges RY (fun r' v' hr' RY' rv => ⟨gs_Amg_uniq hr hr', ⟨ak, av, ac, ek, ev, ex, ey, RX', RY', ru.trans (RR.trans rv.symm), by rw [ru]; exact RB⟩⟩))
theorem i_vc_known {k : Nat} {u : SX} {v : SY} (I : i_Rel k u v) (hk : k + 6 ≤ 3072) (v1 : Int32) (v2 : Int32) : wpX_known (fun r u' => wpY_known (fun r' v' => r' = r ∧ i_Rel (k + 6) u' v') v v1 v2) u v1 v2 := by
  obtain ⟨ak, av, ac, ek, ev, ex, ey, RX, RY, RR, RB⟩ := I
  obtain ⟨x0, x1, x2, x3, x4, x5, x6, x7, x8, x9, x10, x11, x12, x13, x14, x15, x16, x17, x18, x19, x20, x21, x22, x23, x24, x25, x26, x27, x28, x29, x30, x31, x32, x33, x34⟩ := u
  obtain ⟨y0, y1, y2, y3, y4, y5, y6, y7, y8, y9, y10, y11, y12, y13, y14, y15, y16, y17, y18, y19, y20, y21, y22⟩ := v
  have hx := RX.1.2.1
  have hy := RX.1.2.2.1
  exact gx_m_known RX (fun r u' hr RX' ru => gy_m_known RY (fun r' v' hr' RY' rv => ⟨gs_Akn_uniq hr hr', ⟨ak, av, ac, ek, ev, ex, ey, RX', RY', ru.trans (RR.trans rv.symm), by rw [ru]; exact RB⟩⟩))
theorem i_vc_words {k : Nat} {u : SX} {v : SY} (I : i_Rel k u v) (hk : k + 6 ≤ 3072) : wpX_words (fun r u' => wpY_words (fun r' v' => r' = r ∧ i_Rel (k + 6) u' v') v) u := by
  obtain ⟨ak, av, ac, ek, ev, ex, ey, RX, RY, RR, RB⟩ := I
  obtain ⟨x0, x1, x2, x3, x4, x5, x6, x7, x8, x9, x10, x11, x12, x13, x14, x15, x16, x17, x18, x19, x20, x21, x22, x23, x24, x25, x26, x27, x28, x29, x30, x31, x32, x33, x34⟩ := u
  obtain ⟨y0, y1, y2, y3, y4, y5, y6, y7, y8, y9, y10, y11, y12, y13, y14, y15, y16, y17, y18, y19, y20, y21, y22⟩ := v
  have hx := RX.1.2.1
  have hy := RX.1.2.2.1
  exact gx_m_words RX (fun r u' hr RX' ru => gy_m_words RY (fun r' v' hr' RY' rv => ⟨gs_Aws_uniq hr hr', ⟨ak, av, ac, ek, ev, ex, ey, RX', RY', ru.trans (RR.trans rv.symm), by rw [ru]; exact RB⟩⟩))
theorem i_vc_word {k : Nat} {u : SX} {v : SY} (I : i_Rel k u v) (hk : k + 6 ≤ 3072) (v1 : Int32) : wpX_word (fun r u' => wpY_word (fun r' v' => r' = r ∧ i_Rel (k + 6) u' v') v v1) u v1 := by
  obtain ⟨ak, av, ac, ek, ev, ex, ey, RX, RY, RR, RB⟩ := I
  obtain ⟨x0, x1, x2, x3, x4, x5, x6, x7, x8, x9, x10, x11, x12, x13, x14, x15, x16, x17, x18, x19, x20, x21, x22, x23, x24, x25, x26, x27, x28, x29, x30, x31, x32, x33, x34⟩ := u
  obtain ⟨y0, y1, y2, y3, y4, y5, y6, y7, y8, y9, y10, y11, y12, y13, y14, y15, y16, y17, y18, y19, y20, y21, y22⟩ := v
  have hx := RX.1.2.1
  have hy := RX.1.2.2.1
  exact gx_m_word RX (fun r u' hr RX' ru => gy_m_word RY (fun r' v' hr' RY' rv => ⟨gs_Awd_uniq (gs_cF_len RX.1.1 hx hy RX.2.1.2.2.2.2.1) hr hr', ⟨ak, av, ac, ek, ev, ex, ey, RX', RY', ru.trans (RR.trans rv.symm), by rw [ru]; exact RB⟩⟩))
theorem i_vc_straight {k : Nat} {u : SX} {v : SY} (I : i_Rel k u v) (hk : k + 6 ≤ 3072) : wpX_straight (fun r u' => wpY_straight (fun r' v' => r' = r ∧ i_Rel (k + 6) u' v') v) u := by
  obtain ⟨ak, av, ac, ek, ev, ex, ey, RX, RY, RR, RB⟩ := I
  obtain ⟨x0, x1, x2, x3, x4, x5, x6, x7, x8, x9, x10, x11, x12, x13, x14, x15, x16, x17, x18, x19, x20, x21, x22, x23, x24, x25, x26, x27, x28, x29, x30, x31, x32, x33, x34⟩ := u
  obtain ⟨y0, y1, y2, y3, y4, y5, y6, y7, y8, y9, y10, y11, y12, y13, y14, y15, y16, y17, y18, y19, y20, y21, y22⟩ := v
  have hx := RX.1.2.1
  have hy := RX.1.2.2.1
  refine gx_m_straight RX (fun r u' hr RX' ru => gy_m_straight RY (fun r' f_fresh a_number a_before a_behind a_reached a_todo a_words hr' hf V => ⟨?_, ak, av, ac, ek, ev, ex, ey, RX', ⟨RY.1, RY.2.1, fun _ => V⟩, ru.trans (RR.trans rfl), by rw [ru]; exact RB⟩))
  rcases hr with ⟨a, b⟩ | ⟨a, b⟩ <;> rcases hr' with ⟨c, d⟩ | ⟨c, d⟩
  · rw [a, c]
  · exact absurd b d
  · exact absurd d b
  · rw [a, c]
theorem i_vc_act {k : Nat} {u : SX} {v : SY} (I : i_Rel k u v) (hk : k + 6 ≤ 3072) (v1 : Int32) (v2 : Int32) (v3 : Int32) (v4 : Int32) : wpX_act (fun r u' => wpY_act (fun r' v' => r' = r ∧ i_Rel (k + 6) u' v') v v1 v2 v3 v4) u v1 v2 v3 v4 := by
  obtain ⟨ak, av, ac, ek, ev, ex, ey, RX, RY, RR, RB⟩ := I
  obtain ⟨x0, x1, x2, x3, x4, x5, x6, x7, x8, x9, x10, x11, x12, x13, x14, x15, x16, x17, x18, x19, x20, x21, x22, x23, x24, x25, x26, x27, x28, x29, x30, x31, x32, x33, x34⟩ := u
  obtain ⟨y0, y1, y2, y3, y4, y5, y6, y7, y8, y9, y10, y11, y12, y13, y14, y15, y16, y17, y18, y19, y20, y21, y22⟩ := v
  have hx := RX.1.2.1
  have hy := RX.1.2.2.1
  refine gx_m_act RX (fun hno => gy_m_act RY (fun _ => ⟨rfl, ak, av, ac, ek, ev, ex, ey, RX, RY, RR, RB⟩) (fun n k v c h => absurd ⟨n, k, v, c, h⟩ hno)) (fun n k v c h u' RX' ru => gy_m_act RY (fun hno => absurd ⟨n, k, v, c, h⟩ hno) (fun n' k' v' c' h' v'' RY' rv => ⟨rfl, ?_⟩))
  obtain ⟨e1, e2, e3, e4⟩ := gs_cA_uniq h h'
  subst e1 e2 e3 e4
  exact ⟨_, _, _, ek, ev, ex, ey, RX', RY', ru.trans (RR.trans rv.symm), by rw [ru]; exact RB⟩
theorem i_vc_end {k : Nat} {u : SX} {v : SY} (I : i_Rel k u v) (hk : k + 6 ≤ 3072) (v1 : Int32) (v2 : Int32) (v3 : Int32) (v4 : Int32) (v5 : Int32) : wpX_end (fun r u' => wpY_end (fun r' v' => r' = r ∧ i_Rel (k + 6) u' v') v v1 v2 v3 v4 v5) u v1 v2 v3 v4 v5 := by
  obtain ⟨ak, av, ac, ek, ev, ex, ey, RX, RY, RR, RB⟩ := I
  obtain ⟨x0, x1, x2, x3, x4, x5, x6, x7, x8, x9, x10, x11, x12, x13, x14, x15, x16, x17, x18, x19, x20, x21, x22, x23, x24, x25, x26, x27, x28, x29, x30, x31, x32, x33, x34⟩ := u
  obtain ⟨y0, y1, y2, y3, y4, y5, y6, y7, y8, y9, y10, y11, y12, y13, y14, y15, y16, y17, y18, y19, y20, y21, y22⟩ := v
  have hx := RX.1.2.1
  have hy := RX.1.2.2.1
  refine gx_m_end RX (fun hno => gy_m_end RY (fun _ => ⟨rfl, ak, av, ac, ek, ev, ex, ey, RX, RY, RR, RB⟩) (fun n k v x y h => absurd ⟨n, k, v, x, y, h⟩ hno)) (fun n k v x y h u' RX' ru => gy_m_end RY (fun hno => absurd ⟨n, k, v, x, y, h⟩ hno) (fun n' k' v' x' y' h' v'' RY' rv => ⟨rfl, ?_⟩))
  obtain ⟨e1, e2, e3, e4, e5⟩ := gs_cE_uniq h h'
  subst e1 e2 e3 e4 e5
  exact ⟨ak, av, ac, _, _, _, _, RX', RY', ru.trans (RR.trans rv.symm), by rw [ru]; exact RB⟩
theorem i_vc_run {k : Nat} {u : SX} {v : SY} (I : i_Rel k u v) (hk : k + 6 ≤ 3072) (a0 : Int64) (v3 : Int32) : wpX_run (fun r u' => wpY_run (fun r' v' => r' = r ∧ i_Rel (k + 6) u' v') v a0 v3) u a0 v3 := by
  obtain ⟨ak, av, ac, ek, ev, ex, ey, RX, RY, RR, RB⟩ := I
  obtain ⟨x0, x1, x2, x3, x4, x5, x6, x7, x8, x9, x10, x11, x12, x13, x14, x15, x16, x17, x18, x19, x20, x21, x22, x23, x24, x25, x26, x27, x28, x29, x30, x31, x32, x33, x34⟩ := u
  obtain ⟨y0, y1, y2, y3, y4, y5, y6, y7, y8, y9, y10, y11, y12, y13, y14, y15, y16, y17, y18, y19, y20, y21, y22⟩ := v
  have hx := RX.1.2.1
  have hy := RX.1.2.2.1
  have e5 : x33 = y22 := congrArg (fun z => z.2.2.2.2.1) RR
  have e6 : x34 = y21 := congrArg (fun z => z.2.2.2.2.2) RR
  refine gx_m_run RX (fun hno => gy_m_run RY (fun _ => ⟨rfl, ak, av, ac, ek, ev, ex, ey, RX, RY, RR, RB⟩) (fun L i S u hL e => absurd e (hno L hL))) (fun L i S u' hL e hra RX' ru => gy_m_run RY (fun hno => absurd e (hno L hL)) (fun L' i' S' v' hL' e' hra' RY' rv => ?_))
  have eL : L = L' := (nI_eq (by omega) (by omega)).mp (e.symm.trans e')
  subst eL
  rw [e5, e6] at hra
  obtain ⟨q1, q2⟩ := gs_RA_uniq hra hra'
  subst q1 q2
  refine ⟨rfl, ak, av, ac, ek, ev, ex, ey, RX', RY', ru.trans rv.symm, ?_⟩
  rw [ru]
  have inv := gs_it_inv2 (gs_r1 ak av ac ek ev ex ey) gs_RI (fun i S h => gs_RI_s RX.2.1.2.1 RX.2.1.2.2.1 RX.2.1.2.2.2.1 hx hy h) (gs_r0 y22 y21 a0) ⟨gs_zk_VB _, Nat.le_refl 0, by show 0 < 16; omega⟩ i
  rw [← hra.1] at inv
  have := inv.2.1
  have := hra.2.1
  exact ⟨S.2.2.1, by omega, rfl⟩
theorem i_vc_ran {k : Nat} {u : SX} {v : SY} (I : i_Rel k u v) (hk : k + 6 ≤ 3072) (v1 : Int32) : wpX_ran (fun r => wpY_ran (fun r' => r' = r ∧ i_Rel (k + 6) u v) v v1) u v1 := by
  obtain ⟨ak, av, ac, ek, ev, ex, ey, RX, RY, RR, RB⟩ := I
  obtain ⟨x0, x1, x2, x3, x4, x5, x6, x7, x8, x9, x10, x11, x12, x13, x14, x15, x16, x17, x18, x19, x20, x21, x22, x23, x24, x25, x26, x27, x28, x29, x30, x31, x32, x33, x34⟩ := u
  obtain ⟨y0, y1, y2, y3, y4, y5, y6, y7, y8, y9, y10, y11, y12, y13, y14, y15, y16, y17, y18, y19, y20, y21, y22⟩ := v
  have hx := RX.1.2.1
  have hy := RX.1.2.2.1
  obtain ⟨c, hc, ec⟩ := RB
  have ec2 : y2 = nI c := (congrArg (fun z => z.2.1) RR).symm.trans ec
  refine gx_m_ran (gy_m_ran ⟨by rw [RR], ak, av, ac, ek, ev, ex, ey, RX, RY, RR, c, hc, ec⟩ ⟨c, hc, ec2⟩) ⟨c, hc, ec⟩
