/-! X: the links, the STOPs, the cuts -/
theorem gs_Mk_c {r : Int32} {P Q : Nat → Prop} (h : gs_Mk r P) (e : ∀ i, i < 16 → (P i ↔ Q i)) : gs_Mk r Q := gs_Mk_iff h e
section
variable {f_stale f_seen f_seenCount f_isStraight f_meetings f_codeCount f_taskCount f_hasRun f_toldCount f_lastNode f_hasStopped : Int32} {f_inputLeft : Int64} {a_actKind a_actVariable a_actOperand a_endKind a_endVariable a_endX a_endY a_path a_pathSide a_leaving a_numberOf a_nodeAt a_successors a_predecessors a_before a_behind a_loop a_liveAt a_knownAt a_code a_task a_variable a_latestTold : Nat → Int32} {ek ex ey : Nat → Nat}
/-- what the links hold while the sides below k of node n are linked -/
def gx_LI (ek ex ey : Nat → Nat) (n k : Nat) (su pr : Nat → Int32) : Prop :=
  (∀ j, j < 16 → gs_Mk (su j) (fun s => gs_sn ek ex ey j = true ∧ ((j < n ∧ gs_E ek ex ey j s) ∨ (j = n ∧ ∃ k', k' < k ∧ gs_sc ek ex ey j k' = some s)))) ∧
  (∀ s, s < 16 → gs_Mk (pr s) (fun j => gs_sn ek ex ey j = true ∧ ((j < n ∧ gs_E ek ex ey j s) ∨ (j = n ∧ ∃ k', k' < k ∧ gs_sc ek ex ey j k' = some s))))
theorem gx_LI_next {n : Nat} {su pr : Nat → Int32} (h : gx_LI ek ex ey n 2 su pr) : gx_LI ek ex ey (n + 1) 0 su pr := by
  have key : ∀ j s, (gs_sn ek ex ey j = true ∧ ((j < n ∧ gs_E ek ex ey j s) ∨ (j = n ∧ ∃ k', k' < 2 ∧ gs_sc ek ex ey j k' = some s))) ↔ (gs_sn ek ex ey j = true ∧ ((j < n + 1 ∧ gs_E ek ex ey j s) ∨ (j = n + 1 ∧ ∃ k', k' < 0 ∧ gs_sc ek ex ey j k' = some s))) := by
    intro j s
    constructor
    · rintro ⟨h1, ⟨h2, h3⟩ | ⟨h2, h3⟩⟩
      · exact ⟨h1, Or.inl ⟨by omega, h3⟩⟩
      · exact ⟨h1, Or.inl ⟨by omega, (gs_E_sc ek ex ey).mpr h3⟩⟩
    · rintro ⟨h1, ⟨h2, h3⟩ | ⟨h2, k', h3, _⟩⟩
      · by_cases e : j = n
        · exact ⟨h1, Or.inr ⟨e, (gs_E_sc ek ex ey).mp h3⟩⟩
        · exact ⟨h1, Or.inl ⟨by omega, h3⟩⟩
      · omega
  exact ⟨fun j hj => gs_Mk_iff (h.1 j hj) (fun s _ => key j s), fun s hs => gs_Mk_iff (h.2 s hs) (fun j _ => key j s)⟩
theorem gx_LI_skip {n k : Nat} {su pr : Nat → Int32} (h : gx_LI ek ex ey n k su pr) (hs : gs_sn ek ex ey n = true → gs_sc ek ex ey n k = none) : gx_LI ek ex ey n (k + 1) su pr := by
  have key : ∀ j s, (gs_sn ek ex ey j = true ∧ ((j < n ∧ gs_E ek ex ey j s) ∨ (j = n ∧ ∃ k', k' < k ∧ gs_sc ek ex ey j k' = some s))) ↔ (gs_sn ek ex ey j = true ∧ ((j < n ∧ gs_E ek ex ey j s) ∨ (j = n ∧ ∃ k', k' < k + 1 ∧ gs_sc ek ex ey j k' = some s))) := by
    intro j s
    constructor
    · rintro ⟨h1, h2 | ⟨h2, k', h3, h4⟩⟩
      · exact ⟨h1, Or.inl h2⟩
      · exact ⟨h1, Or.inr ⟨h2, k', by omega, h4⟩⟩
    · rintro ⟨h1, h2 | ⟨h2, k', h3, h4⟩⟩
      · exact ⟨h1, Or.inl h2⟩
      · by_cases e : k' = k
        · subst e
          subst h2
          rw [hs h1] at h4
          exact nomatch h4
        · exact ⟨h1, Or.inr ⟨h2, k', by omega, h4⟩⟩
  exact ⟨fun j hj => gs_Mk_iff (h.1 j hj) (fun s _ => key j s), fun s hs => gs_Mk_iff (h.2 s hs) (fun j _ => key j s)⟩
theorem gx_LI_put {n k t : Nat} {su pr : Nat → Int32} (h : gx_LI ek ex ey n k su pr) (hn : n < 16) (ht : t < 16) (h1 : gs_sn ek ex ey n = true) (h2 : gs_sc ek ex ey n k = some t) : gx_LI ek ex ey n (k + 1) (upd su n (su n ||| ((1 : Int32) <<< (nI t &&& 31)))) (upd pr t (pr t ||| ((1 : Int32) <<< (nI n &&& 31)))) := by
  constructor
  · intro j hj
    by_cases e : j = n
    · subst e
      rw [pk_us]
      apply gs_Mk_iff (gs_Mk_set (h.1 j hj) ht)
      intro s _
      constructor
      · rintro (⟨q1, q2 | ⟨q2, k', q3, q4⟩⟩ | rfl)
        · exact ⟨q1, Or.inl q2⟩
        · exact ⟨q1, Or.inr ⟨q2, k', by omega, q4⟩⟩
        · exact ⟨h1, Or.inr ⟨rfl, k, by omega, h2⟩⟩
      · rintro ⟨q1, q2 | ⟨q2, k', q3, q4⟩⟩
        · exact Or.inl ⟨q1, Or.inl q2⟩
        · by_cases e : k' = k
          · subst e
            exact Or.inr (Option.some.inj (q4.symm.trans h2))
          · exact Or.inl ⟨q1, Or.inr ⟨q2, k', by omega, q4⟩⟩
    · rw [pk_un e]
      apply gs_Mk_iff (h.1 j hj)
      intro s _
      constructor
      · rintro ⟨q1, q2 | ⟨q2, _⟩⟩
        · exact ⟨q1, Or.inl q2⟩
        · exact absurd q2 e
      · rintro ⟨q1, q2 | ⟨q2, _⟩⟩
        · exact ⟨q1, Or.inl q2⟩
        · exact absurd q2 e
  · intro s hs
    by_cases e : s = t
    · subst e
      rw [pk_us]
      apply gs_Mk_iff (gs_Mk_set (h.2 s hs) hn)
      intro j _
      constructor
      · rintro (⟨q1, q2 | ⟨q2, k', q3, q4⟩⟩ | rfl)
        · exact ⟨q1, Or.inl q2⟩
        · exact ⟨q1, Or.inr ⟨q2, k', by omega, q4⟩⟩
        · exact ⟨h1, Or.inr ⟨rfl, k, by omega, h2⟩⟩
      · rintro ⟨q1, q2 | ⟨q2, k', q3, q4⟩⟩
        · exact Or.inl ⟨q1, Or.inl q2⟩
        · exact Or.inr q2
    · rw [pk_un e]
      apply gs_Mk_iff (h.2 s hs)
      intro j _
      constructor
      · rintro ⟨q1, q2 | ⟨q2, k', q3, q4⟩⟩
        · exact ⟨q1, Or.inl q2⟩
        · exact ⟨q1, Or.inr ⟨q2, k', by omega, q4⟩⟩
      · rintro ⟨q1, q2 | ⟨q2, k', q3, q4⟩⟩
        · exact ⟨q1, Or.inl q2⟩
        · by_cases w : k' = k
          · subst w
            subst q2
            exact absurd (Option.some.inj (q4.symm.trans h2)) e
          · exact ⟨q1, Or.inr ⟨q2, k', by omega, q4⟩⟩
/-- the links as they shall be -/
def gx_LK (ek ex ey : Nat → Nat) (su pr : Nat → Int32) : Prop :=
  (∀ j, j < 16 → gs_Mk (su j) (fun s => gs_sn ek ex ey j = true ∧ gs_E ek ex ey j s)) ∧ (∀ s, s < 16 → gs_Mk (pr s) (fun j => gs_sn ek ex ey j = true ∧ gs_E ek ex ey j s))
theorem gx_LI_end {su pr : Nat → Int32} (h : gx_LI ek ex ey 16 0 su pr) : gx_LK ek ex ey su pr := by
  refine ⟨fun j hj => gs_Mk_iff (h.1 j hj) (fun s _ => ?_), fun s hs => gs_Mk_iff (h.2 s hs) (fun j hj => ?_)⟩
  · constructor
    · rintro ⟨q1, ⟨_, q2⟩ | ⟨q2, _⟩⟩
      · exact ⟨q1, q2⟩
      · omega
    · exact fun ⟨q1, q2⟩ => ⟨q1, Or.inl ⟨hj, q2⟩⟩
  · constructor
    · rintro ⟨q1, ⟨_, q2⟩ | ⟨q2, _⟩⟩
      · exact ⟨q1, q2⟩
      · omega
    · exact fun ⟨q1, q2⟩ => ⟨q1, Or.inl ⟨hj, q2⟩⟩
theorem gx_link_38 {post : SX → Prop} {J30 : Int32 → (Nat → Int32) → (Nat → Int32) → (Nat → Int32) → (Nat → Int32) → (Nat → Int32) → (Nat → Int32) → (Nat → Int32) → (Nat → Int32) → (Nat → Int32) → (Nat → Int32) → (Nat → Int32) → (Nat → Int32) → (Nat → Int32) → (Nat → Int32) → (Nat → Int32) → (Nat → Int32) → (Nat → Int32) → (Nat → Int32) → (Nat → Int32) → (Nat → Int32) → (Nat → Int32) → (Nat → Int32) → (Nat → Int32) → Prop} {n : Nat} {su pr : Nat → Int32} (GE : gx_GE ek ex ey a_endKind a_endX a_endY) (hsn : gs_Mk f_seen (fun i => gs_sn ek ex ey i = true)) (hn : n < 16) (h0 : gx_LI ek ex ey n 0 su pr)
    (h : ∀ su' pr', gx_LI ek ex ey (n + 1) 0 su' pr' → J30 (nI (n + 1)) a_actKind a_actVariable a_actOperand a_endKind a_endVariable a_endX a_endY a_path a_pathSide a_leaving a_numberOf a_nodeAt su' pr' a_before a_behind a_loop a_liveAt a_knownAt a_code a_task a_variable a_latestTold) : ∃ m, wX_linkNodes_38 post J30 (nI n) f_stale f_seen f_seenCount f_isStraight f_meetings f_codeCount f_taskCount f_hasRun f_inputLeft f_toldCount f_lastNode f_hasStopped m 0 a_actKind a_actVariable a_actOperand a_endKind a_endVariable a_endX a_endY a_path a_pathSide a_leaving a_numberOf a_nodeAt su pr a_before a_behind a_loop a_liveAt a_knownAt a_code a_task a_variable a_latestTold := by
  refine pk_loop (fun m i (s : (Nat → Int32) × (Nat → Int32)) => wX_linkNodes_38 post J30 (nI n) f_stale f_seen f_seenCount f_isStraight f_meetings f_codeCount f_taskCount f_hasRun f_inputLeft f_toldCount f_lastNode f_hasStopped m (nI i) a_actKind a_actVariable a_actOperand a_endKind a_endVariable a_endX a_endY a_path a_pathSide a_leaving a_numberOf a_nodeAt s.1 s.2 a_before a_behind a_loop a_liveAt a_knownAt a_code a_task a_variable a_latestTold) (fun i s => gx_LI ek ex ey n i s.1 s.2) 2 0 (su, pr) (by omega) h0 ?_ ?_
  · rintro m s hI
    exact br_t (by decide) (nm_r (nI_1 n) (h _ _ (gx_LI_next hI)))
  · rintro m i s hi hI ih
    refine br_f (nI_ge (b := 2) hi (by decide)) (gx_succ GE hn hi (fun t ht hs => ?_) (fun hs => ?_))
    · refine gx_hm hsn hn (fun q => ?_) (fun q => ?_)
      · refine br_f (fun z => ?_) ?_
        · have := nI_pos (n := t) (by omega)
          rw [z] at this
          exact this (by decide)
        · refine ⟨gx_in hn, gx_in hn, nm_r (e' := upd s.1 n (s.1 n ||| ((1 : Int32) <<< (nI t &&& 31)))) (by rw [gx_cl hn]) ⟨gx_in ht, gx_in ht, nm_r (e' := upd s.2 t (s.2 t ||| ((1 : Int32) <<< (nI n &&& 31)))) (by rw [gx_cl ht]) (nm_r (nI_1 i) ?_)⟩⟩
          exact ih (_, _) (gx_LI_put hI hn ht q hs)
      · exact nm_r (nI_1 i) (ih s (gx_LI_skip hI (fun w => absurd w q)))
    · refine gx_hm hsn hn (fun q => ?_) (fun q => ?_)
      · exact br_t rfl (nm_r (nI_1 i) (ih s (gx_LI_skip hI (fun _ => hs))))
      · exact nm_r (nI_1 i) (ih s (gx_LI_skip hI (fun w => absurd w q)))
theorem gx_link_30 {post : SX → Prop} {su pr : Nat → Int32} (GE : gx_GE ek ex ey a_endKind a_endX a_endY) (hsn : gs_Mk f_seen (fun i => gs_sn ek ex ey i = true)) (h0 : gx_LI ek ex ey 0 0 su pr)
    (h : ∀ su' pr', gx_LK ek ex ey su' pr' → post (f_stale, f_seen, f_seenCount, f_isStraight, f_meetings, f_codeCount, f_taskCount, f_hasRun, f_inputLeft, f_toldCount, f_lastNode, f_hasStopped, a_actKind, a_actVariable, a_actOperand, a_endKind, a_endVariable, a_endX, a_endY, a_path, a_pathSide, a_leaving, a_numberOf, a_nodeAt, su', pr', a_before, a_behind, a_loop, a_liveAt, a_knownAt, a_code, a_task, a_variable, a_latestTold)) : ∃ m, wX_linkNodes_30 post f_stale f_seen f_seenCount f_isStraight f_meetings f_codeCount f_taskCount f_hasRun f_inputLeft f_toldCount f_lastNode f_hasStopped m 0 a_actKind a_actVariable a_actOperand a_endKind a_endVariable a_endX a_endY a_path a_pathSide a_leaving a_numberOf a_nodeAt su pr a_before a_behind a_loop a_liveAt a_knownAt a_code a_task a_variable a_latestTold := by
  refine pk_loop (fun m i (s : (Nat → Int32) × (Nat → Int32)) => wX_linkNodes_30 post f_stale f_seen f_seenCount f_isStraight f_meetings f_codeCount f_taskCount f_hasRun f_inputLeft f_toldCount f_lastNode f_hasStopped m (nI i) a_actKind a_actVariable a_actOperand a_endKind a_endVariable a_endX a_endY a_path a_pathSide a_leaving a_numberOf a_nodeAt s.1 s.2 a_before a_behind a_loop a_liveAt a_knownAt a_code a_task a_variable a_latestTold) (fun i s => gx_LI ek ex ey i 0 s.1 s.2) 16 0 (su, pr) (by omega) h0 ?_ ?_
  · rintro m s hI
    exact br_t gx_x16 (h _ _ (gx_LI_end hI))
  · rintro m i s hi hI ih
    exact br_f (gx_16 hi) (gx_link_38 GE hsn hi hI (fun su' pr' hI' => ih (su', pr') hI'))
theorem gx_link {post : SX → Prop} (GE : gx_GE ek ex ey a_endKind a_endX a_endY) (hsn : gs_Mk f_seen (fun i => gs_sn ek ex ey i = true))
    (h : ∀ su' pr', gx_LK ek ex ey su' pr' → post (f_stale, f_seen, f_seenCount, f_isStraight, f_meetings, f_codeCount, f_taskCount, f_hasRun, f_inputLeft, f_toldCount, f_lastNode, f_hasStopped, a_actKind, a_actVariable, a_actOperand, a_endKind, a_endVariable, a_endX, a_endY, a_path, a_pathSide, a_leaving, a_numberOf, a_nodeAt, su', pr', a_before, a_behind, a_loop, a_liveAt, a_knownAt, a_code, a_task, a_variable, a_latestTold)) : wpX_linkNodes post (f_stale, f_seen, f_seenCount, f_isStraight, f_meetings, f_codeCount, f_taskCount, f_hasRun, f_inputLeft, f_toldCount, f_lastNode, f_hasStopped, a_actKind, a_actVariable, a_actOperand, a_endKind, a_endVariable, a_endX, a_endY, a_path, a_pathSide, a_leaving, a_numberOf, a_nodeAt, a_successors, a_predecessors, a_before, a_behind, a_loop, a_liveAt, a_knownAt, a_code, a_task, a_variable, a_latestTold) := by
  refine pk_loop (fun m i (s : (Nat → Int32) × (Nat → Int32)) => wX_linkNodes_2 post f_stale f_seen f_seenCount f_isStraight f_meetings f_codeCount f_taskCount f_hasRun f_inputLeft f_toldCount f_lastNode f_hasStopped m (nI i) a_actKind a_actVariable a_actOperand a_endKind a_endVariable a_endX a_endY a_path a_pathSide a_leaving a_numberOf a_nodeAt s.1 s.2 a_before a_behind a_loop a_liveAt a_knownAt a_code a_task a_variable a_latestTold) (fun i s => ∀ j, j < i → s.1 j = 0 ∧ s.2 j = 0) 16 0 (a_successors, a_predecessors) (by omega) (fun j hj => absurd hj (Nat.not_lt_zero j)) ?_ ?_
  · rintro m s hI
    refine br_t gx_x16 (gx_link_30 GE hsn ⟨fun j hj => ?_, fun j hj => ?_⟩ h)
    · rw [(hI j hj).1]
      apply gs_Mk_0
      rintro i _ ⟨_, ⟨z, _⟩ | ⟨_, _, z, _⟩⟩ <;> omega
    · rw [(hI j hj).2]
      apply gs_Mk_0
      rintro i _ ⟨_, ⟨z, _⟩ | ⟨_, _, z, _⟩⟩ <;> omega
  · rintro m i s hi hI ih
    refine br_f (gx_16 hi) ⟨gx_in hi, nm_r (e' := upd s.1 i 0) (by rw [gx_cl hi]) ⟨gx_in hi, nm_r (e' := upd s.2 i 0) (by rw [gx_cl hi]) (nm_r (nI_1 i) (ih (_, _) (fun j hj => ?_)))⟩⟩
    by_cases e : j = i
    · subst e
      exact ⟨pk_us, pk_us⟩
    · exact ⟨(pk_un e).trans (hI j (by omega)).1, (pk_un e).trans (hI j (by omega)).2⟩
theorem gx_stops {post : Int32 → Prop} (GE : gx_GE ek ex ey a_endKind a_endX a_endY) (hsn : gs_Mk f_seen (fun i => gs_sn ek ex ey i = true))
    (h : ∀ r, gs_Mk r (fun i => gs_sn ek ex ey i = true ∧ ek i = 0) → post r) : wpX_stopNodes post (f_stale, f_seen, f_seenCount, f_isStraight, f_meetings, f_codeCount, f_taskCount, f_hasRun, f_inputLeft, f_toldCount, f_lastNode, f_hasStopped, a_actKind, a_actVariable, a_actOperand, a_endKind, a_endVariable, a_endX, a_endY, a_path, a_pathSide, a_leaving, a_numberOf, a_nodeAt, a_successors, a_predecessors, a_before, a_behind, a_loop, a_liveAt, a_knownAt, a_code, a_task, a_variable, a_latestTold) := by
  refine pk_loop (fun m i s => wX_stopNodes_4 post f_stale f_seen f_seenCount f_isStraight f_meetings f_codeCount f_taskCount f_hasRun f_inputLeft f_toldCount f_lastNode f_hasStopped a_actKind a_actVariable a_actOperand a_endKind a_endVariable a_endX a_endY a_path a_pathSide a_leaving a_numberOf a_nodeAt a_successors a_predecessors a_before a_behind a_loop a_liveAt a_knownAt a_code a_task a_variable a_latestTold m s (nI i)) (fun i s => gs_Mk s (fun j => j < i ∧ gs_sn ek ex ey j = true ∧ ek j = 0)) 16 0 0 (by omega) (gs_Mk_0 (fun i _ z => absurd z.1 (Nat.not_lt_zero i))) ?_ ?_
  · rintro m s hI
    exact br_t gx_x16 (h _ (gs_Mk_iff hI (fun i hi => ⟨fun z => z.2, fun z => ⟨hi, z⟩⟩)))
  · rintro m i s hi hI ih
    obtain ⟨g1, g2, g3, g4, g5, g6⟩ := GE
    have e0 : (a_endKind (nI i).toNatClampNeg = 0) ↔ ek i = 0 := by
      rw [gx_cl hi, g4]
      exact nI_eq (b := 0) (by have := g1 i; omega) (by decide)
    have keep : ¬ (gs_sn ek ex ey i = true ∧ ek i = 0) → gs_Mk s (fun j => j < i + 1 ∧ gs_sn ek ex ey j = true ∧ ek j = 0) := fun q => gs_Mk_iff hI (fun j _ => by
      constructor
      · exact fun ⟨z1, z2⟩ => ⟨by omega, z2⟩
      · rintro ⟨z1, z2⟩
        by_cases e : j = i
        · exact absurd (e ▸ z2) q
        · exact ⟨by omega, z2⟩)
    refine br_f (gx_16 hi) (gx_hm hsn hi (fun q => ⟨gx_in hi, br_c (fun w => ?_) (fun w => ?_)⟩) (fun q => ?_))
    · refine nm_e (nm_r (nI_1 i) (ih _ (gs_Mk_iff (gs_Mk_set hI hi) (fun j _ => ?_))))
      constructor
      · rintro (⟨z1, z2⟩ | rfl)
        · exact ⟨by omega, z2⟩
        · exact ⟨by omega, q, e0.mp w⟩
      · rintro ⟨z1, z2⟩
        by_cases e : j = i
        · exact Or.inr e
        · exact Or.inl ⟨by omega, z2⟩
    · exact nm_r (nI_1 i) (ih s (keep (fun z => w (e0.mpr z.2))))
    · exact nm_r (nI_1 i) (ih s (keep (fun z => q z.1)))
theorem gx_cuts_before_56 {post : SX → Prop} {J31 : Int32 → (Nat → Int32) → (Nat → Int32) → (Nat → Int32) → (Nat → Int32) → (Nat → Int32) → (Nat → Int32) → (Nat → Int32) → (Nat → Int32) → (Nat → Int32) → (Nat → Int32) → (Nat → Int32) → (Nat → Int32) → (Nat → Int32) → (Nat → Int32) → (Nat → Int32) → (Nat → Int32) → (Nat → Int32) → (Nat → Int32) → (Nat → Int32) → (Nat → Int32) → (Nat → Int32) → (Nat → Int32) → (Nat → Int32) → Prop} {x2 x3 x5 : Int32} {d : Nat} {c : Nat → Int32} {P : Nat → Nat → Prop} (hd : d < 16) (hm : gs_Mk x5 (P d)) (h0 : ∀ n, n < 16 → gs_Mk (c n) (fun e => e < d ∧ P e n))
    (h : ∀ c', (∀ n, n < 16 → gs_Mk (c' n) (fun e => e < d + 1 ∧ P e n)) → J31 (nI (d + 1)) a_actKind a_actVariable a_actOperand a_endKind a_endVariable a_endX a_endY a_path a_pathSide a_leaving a_numberOf a_nodeAt a_successors a_predecessors c' a_behind a_loop a_liveAt a_knownAt a_code a_task a_variable a_latestTold) : ∃ m, wX_findCuts__before_successors_56 post J31 x2 x3 (nI d) x5 f_stale f_seen f_seenCount f_isStraight f_meetings f_codeCount f_taskCount f_hasRun f_inputLeft f_toldCount f_lastNode f_hasStopped m 0 a_actKind a_actVariable a_actOperand a_endKind a_endVariable a_endX a_endY a_path a_pathSide a_leaving a_numberOf a_nodeAt a_successors a_predecessors c a_behind a_loop a_liveAt a_knownAt a_code a_task a_variable a_latestTold := by
  refine pk_loop (fun m i (s : Nat → Int32) => wX_findCuts__before_successors_56 post J31 x2 x3 (nI d) x5 f_stale f_seen f_seenCount f_isStraight f_meetings f_codeCount f_taskCount f_hasRun f_inputLeft f_toldCount f_lastNode f_hasStopped m (nI i) a_actKind a_actVariable a_actOperand a_endKind a_endVariable a_endX a_endY a_path a_pathSide a_leaving a_numberOf a_nodeAt a_successors a_predecessors s a_behind a_loop a_liveAt a_knownAt a_code a_task a_variable a_latestTold) (fun i s => ∀ n, n < 16 → gs_Mk (s n) (fun e => (e < d ∨ (e = d ∧ n < i)) ∧ P e n)) 16 0 c (by omega) (fun n hn => gs_Mk_iff (h0 n hn) (fun e _ => by
    constructor
    · exact fun z => ⟨Or.inl z.1, z.2⟩
    · rintro ⟨z1 | ⟨_, z1⟩, z2⟩
      · exact ⟨z1, z2⟩
      · omega)) ?_ ?_
  · rintro m s hI
    refine br_t gx_x16 (nm_r (nI_1 d) (h _ (fun n hn => gs_Mk_iff (hI n hn) (fun e _ => ?_))))
    constructor
    · exact fun z => ⟨by omega, z.2⟩
    · exact fun z => ⟨by omega, z.2⟩
  · rintro m i s hi hI ih
    refine br_f (gx_16 hi) (gx_hm hm hi (fun q => ⟨gx_in hi, gx_in hi, nm_r (e' := upd s i (s i ||| ((1 : Int32) <<< (nI d &&& 31)))) (by rw [gx_cl hi]) (nm_r (nI_1 i) (ih _ (fun n hn => ?_)))⟩) (fun q => nm_r (nI_1 i) (ih _ (fun n hn => ?_))))
    · by_cases e : n = i
      · subst e
        rw [pk_us]
        apply gs_Mk_iff (gs_Mk_set (hI n hn) hd)
        intro e _
        constructor
        · rintro (⟨z1, z2⟩ | rfl)
          · exact ⟨by omega, z2⟩
          · exact ⟨by omega, q⟩
        · rintro ⟨z1, z2⟩
          by_cases w : e = d
          · exact Or.inr w
          · exact Or.inl ⟨by omega, z2⟩
      · rw [pk_un e]
        apply gs_Mk_iff (hI n hn)
        intro e _
        constructor
        · exact fun z => ⟨by omega, z.2⟩
        · exact fun z => ⟨by omega, z.2⟩
    · apply gs_Mk_iff (hI n hn)
      intro e _
      constructor
      · exact fun z => ⟨by omega, z.2⟩
      · rintro ⟨z1, z2⟩
        refine ⟨?_, z2⟩
        by_cases w : e = d ∧ n = i
        · exact absurd (w.2 ▸ w.1 ▸ z2) q
        · omega
theorem gx_cuts_before {post : SX → Prop} {p2 : Int32} {F : Nat → Prop} {G : Nat → Nat → Prop} (hL : ∀ n, n < 16 → gs_Mk (a_successors n) (G n)) (hp : gs_Mk p2 F)
    (h : ∀ c', (∀ n, n < 16 → gs_Mk (c' n) (fun d => gs_cl (fun i => i < 16 ∧ F i ∧ ¬ False) (fun j k => j < 16 ∧ k < 16 ∧ G j k ∧ ¬ False) n ∧ ¬ gs_cl (fun i => i < 16 ∧ F i ∧ ¬ i = d) (fun j k => j < 16 ∧ k < 16 ∧ G j k ∧ ¬ k = d) n)) → post (f_stale, f_seen, f_seenCount, f_isStraight, f_meetings, f_codeCount, f_taskCount, f_hasRun, f_inputLeft, f_toldCount, f_lastNode, f_hasStopped, a_actKind, a_actVariable, a_actOperand, a_endKind, a_endVariable, a_endX, a_endY, a_path, a_pathSide, a_leaving, a_numberOf, a_nodeAt, a_successors, a_predecessors, c', a_behind, a_loop, a_liveAt, a_knownAt, a_code, a_task, a_variable, a_latestTold)) : wpX_findCuts__before_successors post (f_stale, f_seen, f_seenCount, f_isStraight, f_meetings, f_codeCount, f_taskCount, f_hasRun, f_inputLeft, f_toldCount, f_lastNode, f_hasStopped, a_actKind, a_actVariable, a_actOperand, a_endKind, a_endVariable, a_endX, a_endY, a_path, a_pathSide, a_leaving, a_numberOf, a_nodeAt, a_successors, a_predecessors, a_before, a_behind, a_loop, a_liveAt, a_knownAt, a_code, a_task, a_variable, a_latestTold) p2 := by
  refine gx_reach_successors ?_
  have hr := gs_rch_ok hL hp (gs_Mk_0 (P := fun _ => False) (fun _ _ z => z))
  refine pk_loop (fun m i (s : Nat → Int32) => wX_findCuts__before_successors_10 post p2 (gs_rch a_successors p2 0) f_stale f_seen f_seenCount f_isStraight f_meetings f_codeCount f_taskCount f_hasRun f_inputLeft f_toldCount f_lastNode f_hasStopped m (nI i) a_actKind a_actVariable a_actOperand a_endKind a_endVariable a_endX a_endY a_path a_pathSide a_leaving a_numberOf a_nodeAt a_successors a_predecessors s a_behind a_loop a_liveAt a_knownAt a_code a_task a_variable a_latestTold) (fun i s => ∀ j, j < i → s j = 0) 16 0 a_before (by omega) (fun j hj => absurd hj (Nat.not_lt_zero j)) ?_ ?_
  · rintro m s0 hI0
    refine br_t gx_x16 ?_
    refine pk_loop (fun m i (s : Nat → Int32) => wX_findCuts__before_successors_31 post p2 (gs_rch a_successors p2 0) f_stale f_seen f_seenCount f_isStraight f_meetings f_codeCount f_taskCount f_hasRun f_inputLeft f_toldCount f_lastNode f_hasStopped m (nI i) a_actKind a_actVariable a_actOperand a_endKind a_endVariable a_endX a_endY a_path a_pathSide a_leaving a_numberOf a_nodeAt a_successors a_predecessors s a_behind a_loop a_liveAt a_knownAt a_code a_task a_variable a_latestTold) (fun i s => ∀ n, n < 16 → gs_Mk (s n) (fun d => d < i ∧ gs_cl (fun i => i < 16 ∧ F i ∧ ¬ False) (fun j k => j < 16 ∧ k < 16 ∧ G j k ∧ ¬ False) n ∧ ¬ gs_cl (fun i => i < 16 ∧ F i ∧ ¬ i = d) (fun j k => j < 16 ∧ k < 16 ∧ G j k ∧ ¬ k = d) n)) 16 0 s0 (by omega) (fun n hn => by
      rw [hI0 n hn]
      exact gs_Mk_0 (fun i _ z => absurd z.1 (Nat.not_lt_zero i))) ?_ ?_
    · rintro m s hI
      exact br_t gx_x16 (h _ (fun n hn => gs_Mk_iff (hI n hn) (fun i hi => ⟨fun z => z.2, fun z => ⟨hi, z⟩⟩)))
    · rintro m i s hi hI ih
      refine br_f (gx_16 hi) (gx_reach_successors (nm_e ?_))
      have hd := gs_rch_ok hL hp (gs_Mk_bit hi)
      exact gx_cuts_before_56 (P := fun d n => gs_cl (fun i => i < 16 ∧ F i ∧ ¬ False) (fun j k => j < 16 ∧ k < 16 ∧ G j k ∧ ¬ False) n ∧ ¬ gs_cl (fun i => i < 16 ∧ F i ∧ ¬ i = d) (fun j k => j < 16 ∧ k < 16 ∧ G j k ∧ ¬ k = d) n) hi (gs_Mk_andn hr hd) hI (fun c' hc => ih c' hc)
  · rintro m i s hi hI ih
    refine br_f (gx_16 hi) ⟨gx_in hi, nm_r (e' := upd s i 0) (by rw [gx_cl hi]) (nm_r (nI_1 i) (ih _ (fun j hj => ?_)))⟩
    by_cases e : j = i
    · subst e
      exact pk_us
    · exact (pk_un e).trans (hI j (by omega))
theorem gx_cuts_behind_56 {post : SX → Prop} {J31 : Int32 → (Nat → Int32) → (Nat → Int32) → (Nat → Int32) → (Nat → Int32) → (Nat → Int32) → (Nat → Int32) → (Nat → Int32) → (Nat → Int32) → (Nat → Int32) → (Nat → Int32) → (Nat → Int32) → (Nat → Int32) → (Nat → Int32) → (Nat → Int32) → (Nat → Int32) → (Nat → Int32) → (Nat → Int32) → (Nat → Int32) → (Nat → Int32) → (Nat → Int32) → (Nat → Int32) → (Nat → Int32) → (Nat → Int32) → Prop} {x2 x3 x5 : Int32} {d : Nat} {c : Nat → Int32} {P : Nat → Nat → Prop} (hd : d < 16) (hm : gs_Mk x5 (P d)) (h0 : ∀ n, n < 16 → gs_Mk (c n) (fun e => e < d ∧ P e n))
    (h : ∀ c', (∀ n, n < 16 → gs_Mk (c' n) (fun e => e < d + 1 ∧ P e n)) → J31 (nI (d + 1)) a_actKind a_actVariable a_actOperand a_endKind a_endVariable a_endX a_endY a_path a_pathSide a_leaving a_numberOf a_nodeAt a_successors a_predecessors a_before c' a_loop a_liveAt a_knownAt a_code a_task a_variable a_latestTold) : ∃ m, wX_findCuts__behind_predecessors_56 post J31 x2 x3 (nI d) x5 f_stale f_seen f_seenCount f_isStraight f_meetings f_codeCount f_taskCount f_hasRun f_inputLeft f_toldCount f_lastNode f_hasStopped m 0 a_actKind a_actVariable a_actOperand a_endKind a_endVariable a_endX a_endY a_path a_pathSide a_leaving a_numberOf a_nodeAt a_successors a_predecessors a_before c a_loop a_liveAt a_knownAt a_code a_task a_variable a_latestTold := by
  refine pk_loop (fun m i (s : Nat → Int32) => wX_findCuts__behind_predecessors_56 post J31 x2 x3 (nI d) x5 f_stale f_seen f_seenCount f_isStraight f_meetings f_codeCount f_taskCount f_hasRun f_inputLeft f_toldCount f_lastNode f_hasStopped m (nI i) a_actKind a_actVariable a_actOperand a_endKind a_endVariable a_endX a_endY a_path a_pathSide a_leaving a_numberOf a_nodeAt a_successors a_predecessors a_before s a_loop a_liveAt a_knownAt a_code a_task a_variable a_latestTold) (fun i s => ∀ n, n < 16 → gs_Mk (s n) (fun e => (e < d ∨ (e = d ∧ n < i)) ∧ P e n)) 16 0 c (by omega) (fun n hn => gs_Mk_iff (h0 n hn) (fun e _ => by
    constructor
    · exact fun z => ⟨Or.inl z.1, z.2⟩
    · rintro ⟨z1 | ⟨_, z1⟩, z2⟩
      · exact ⟨z1, z2⟩
      · omega)) ?_ ?_
  · rintro m s hI
    refine br_t gx_x16 (nm_r (nI_1 d) (h _ (fun n hn => gs_Mk_iff (hI n hn) (fun e _ => ?_))))
    constructor
    · exact fun z => ⟨by omega, z.2⟩
    · exact fun z => ⟨by omega, z.2⟩
  · rintro m i s hi hI ih
    refine br_f (gx_16 hi) (gx_hm hm hi (fun q => ⟨gx_in hi, gx_in hi, nm_r (e' := upd s i (s i ||| ((1 : Int32) <<< (nI d &&& 31)))) (by rw [gx_cl hi]) (nm_r (nI_1 i) (ih _ (fun n hn => ?_)))⟩) (fun q => nm_r (nI_1 i) (ih _ (fun n hn => ?_))))
    · by_cases e : n = i
      · subst e
        rw [pk_us]
        apply gs_Mk_iff (gs_Mk_set (hI n hn) hd)
        intro e _
        constructor
        · rintro (⟨z1, z2⟩ | rfl)
          · exact ⟨by omega, z2⟩
          · exact ⟨by omega, q⟩
        · rintro ⟨z1, z2⟩
          by_cases w : e = d
          · exact Or.inr w
          · exact Or.inl ⟨by omega, z2⟩
      · rw [pk_un e]
        apply gs_Mk_iff (hI n hn)
        intro e _
        constructor
        · exact fun z => ⟨by omega, z.2⟩
        · exact fun z => ⟨by omega, z.2⟩
    · apply gs_Mk_iff (hI n hn)
      intro e _
      constructor
      · exact fun z => ⟨by omega, z.2⟩
      · rintro ⟨z1, z2⟩
        refine ⟨?_, z2⟩
        by_cases w : e = d ∧ n = i
        · exact absurd (w.2 ▸ w.1 ▸ z2) q
        · omega
theorem gx_cuts_behind {post : SX → Prop} {p2 : Int32} {F : Nat → Prop} {G : Nat → Nat → Prop} (hL : ∀ n, n < 16 → gs_Mk (a_predecessors n) (G n)) (hp : gs_Mk p2 F)
    (h : ∀ c', (∀ n, n < 16 → gs_Mk (c' n) (fun d => gs_cl (fun i => i < 16 ∧ F i ∧ ¬ False) (fun j k => j < 16 ∧ k < 16 ∧ G j k ∧ ¬ False) n ∧ ¬ gs_cl (fun i => i < 16 ∧ F i ∧ ¬ i = d) (fun j k => j < 16 ∧ k < 16 ∧ G j k ∧ ¬ k = d) n)) → post (f_stale, f_seen, f_seenCount, f_isStraight, f_meetings, f_codeCount, f_taskCount, f_hasRun, f_inputLeft, f_toldCount, f_lastNode, f_hasStopped, a_actKind, a_actVariable, a_actOperand, a_endKind, a_endVariable, a_endX, a_endY, a_path, a_pathSide, a_leaving, a_numberOf, a_nodeAt, a_successors, a_predecessors, a_before, c', a_loop, a_liveAt, a_knownAt, a_code, a_task, a_variable, a_latestTold)) : wpX_findCuts__behind_predecessors post (f_stale, f_seen, f_seenCount, f_isStraight, f_meetings, f_codeCount, f_taskCount, f_hasRun, f_inputLeft, f_toldCount, f_lastNode, f_hasStopped, a_actKind, a_actVariable, a_actOperand, a_endKind, a_endVariable, a_endX, a_endY, a_path, a_pathSide, a_leaving, a_numberOf, a_nodeAt, a_successors, a_predecessors, a_before, a_behind, a_loop, a_liveAt, a_knownAt, a_code, a_task, a_variable, a_latestTold) p2 := by
  refine gx_reach_predecessors ?_
  have hr := gs_rch_ok hL hp (gs_Mk_0 (P := fun _ => False) (fun _ _ z => z))
  refine pk_loop (fun m i (s : Nat → Int32) => wX_findCuts__behind_predecessors_10 post p2 (gs_rch a_predecessors p2 0) f_stale f_seen f_seenCount f_isStraight f_meetings f_codeCount f_taskCount f_hasRun f_inputLeft f_toldCount f_lastNode f_hasStopped m (nI i) a_actKind a_actVariable a_actOperand a_endKind a_endVariable a_endX a_endY a_path a_pathSide a_leaving a_numberOf a_nodeAt a_successors a_predecessors a_before s a_loop a_liveAt a_knownAt a_code a_task a_variable a_latestTold) (fun i s => ∀ j, j < i → s j = 0) 16 0 a_behind (by omega) (fun j hj => absurd hj (Nat.not_lt_zero j)) ?_ ?_
  · rintro m s0 hI0
    refine br_t gx_x16 ?_
    refine pk_loop (fun m i (s : Nat → Int32) => wX_findCuts__behind_predecessors_31 post p2 (gs_rch a_predecessors p2 0) f_stale f_seen f_seenCount f_isStraight f_meetings f_codeCount f_taskCount f_hasRun f_inputLeft f_toldCount f_lastNode f_hasStopped m (nI i) a_actKind a_actVariable a_actOperand a_endKind a_endVariable a_endX a_endY a_path a_pathSide a_leaving a_numberOf a_nodeAt a_successors a_predecessors a_before s a_loop a_liveAt a_knownAt a_code a_task a_variable a_latestTold) (fun i s => ∀ n, n < 16 → gs_Mk (s n) (fun d => d < i ∧ gs_cl (fun i => i < 16 ∧ F i ∧ ¬ False) (fun j k => j < 16 ∧ k < 16 ∧ G j k ∧ ¬ False) n ∧ ¬ gs_cl (fun i => i < 16 ∧ F i ∧ ¬ i = d) (fun j k => j < 16 ∧ k < 16 ∧ G j k ∧ ¬ k = d) n)) 16 0 s0 (by omega) (fun n hn => by
      rw [hI0 n hn]
      exact gs_Mk_0 (fun i _ z => absurd z.1 (Nat.not_lt_zero i))) ?_ ?_
    · rintro m s hI
      exact br_t gx_x16 (h _ (fun n hn => gs_Mk_iff (hI n hn) (fun i hi => ⟨fun z => z.2, fun z => ⟨hi, z⟩⟩)))
    · rintro m i s hi hI ih
      refine br_f (gx_16 hi) (gx_reach_predecessors (nm_e ?_))
      have hd := gs_rch_ok hL hp (gs_Mk_bit hi)
      exact gx_cuts_behind_56 (P := fun d n => gs_cl (fun i => i < 16 ∧ F i ∧ ¬ False) (fun j k => j < 16 ∧ k < 16 ∧ G j k ∧ ¬ False) n ∧ ¬ gs_cl (fun i => i < 16 ∧ F i ∧ ¬ i = d) (fun j k => j < 16 ∧ k < 16 ∧ G j k ∧ ¬ k = d) n) hi (gs_Mk_andn hr hd) hI (fun c' hc => ih c' hc)
  · rintro m i s hi hI ih
    refine br_f (gx_16 hi) ⟨gx_in hi, nm_r (e' := upd s i 0) (by rw [gx_cl hi]) (nm_r (nI_1 i) (ih _ (fun j hj => ?_)))⟩
    by_cases e : j = i
    · subst e
      exact pk_us
    · exact (pk_un e).trans (hI j (by omega))
end
