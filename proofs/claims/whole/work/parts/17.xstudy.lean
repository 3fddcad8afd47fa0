/-! X: study as a whole; the answers' specifications -/
section
variable (ak av ac ek ev ex ey : Nat → Nat)
/-- what X has worked out -/
def gx_VX (f_seen f_seenCount f_isStraight f_meetings f_codeCount : Int32) (a_numberOf a_nodeAt a_successors a_predecessors a_before a_behind a_loop a_liveAt a_knownAt a_code : Nat → Int32) : Prop :=
  gs_Mk f_seen (fun i => gs_sn ek ex ey i = true) ∧ gx_CW ek ex ey f_seenCount f_meetings a_numberOf a_nodeAt a_before a_loop ∧ gx_LK ek ex ey a_successors a_predecessors ∧
  (∀ n, n < 16 → gs_Mk (a_behind n) (fun d => gs_bh ek ex ey d n)) ∧ ((f_isStraight = 1 ∧ gs_strt ek ex ey) ∨ (f_isStraight = 0 ∧ ¬ gs_strt ek ex ey)) ∧
  (∀ n, gs_sn ek ex ey n = true → gs_Mk (a_liveAt n) (fun v => gs_liv ak av ac ek ev ex ey v n)) ∧ (∀ j, j < 64 → a_knownAt j = gs_kd (gs_kF ak av ac ek ev ex ey j)) ∧
  (¬ f_isStraight = 0 → f_codeCount = nI (gs_cF ek ex ey ev).1.length ∧ gs_st a_code (gs_cF ek ex ey ev).1)
def gx_RX (u : SX) : Prop := match u with
  | (f_stale, f_seen, f_seenCount, f_isStraight, f_meetings, f_codeCount, f_taskCount, f_hasRun, f_inputLeft, f_toldCount, f_lastNode, f_hasStopped, a_actKind, a_actVariable, a_actOperand, a_endKind, a_endVariable, a_endX, a_endY, a_path, a_pathSide, a_leaving, a_numberOf, a_nodeAt, a_successors, a_predecessors, a_before, a_behind, a_loop, a_liveAt, a_knownAt, a_code, a_task, a_variable, a_latestTold) => gx_GE ek ex ey a_endKind a_endX a_endY ∧ gx_GA ak av ac ev a_actKind a_actVariable a_actOperand a_endVariable ∧ (f_stale = 0 → gx_VX ak av ac ek ev ex ey f_seen f_seenCount f_isStraight f_meetings f_codeCount a_numberOf a_nodeAt a_successors a_predecessors a_before a_behind a_loop a_liveAt a_knownAt a_code)
end
/-- what the runs leave -/
def gx_run (u : SX) : Int32 × Int32 × Int32 × Int32 × (Nat → Int32) × (Nat → Int32) := match u with
  | (f_stale, f_seen, f_seenCount, f_isStraight, f_meetings, f_codeCount, f_taskCount, f_hasRun, f_inputLeft, f_toldCount, f_lastNode, f_hasStopped, a_actKind, a_actVariable, a_actOperand, a_endKind, a_endVariable, a_endX, a_endY, a_path, a_pathSide, a_leaving, a_numberOf, a_nodeAt, a_successors, a_predecessors, a_before, a_behind, a_loop, a_liveAt, a_knownAt, a_code, a_task, a_variable, a_latestTold) => (f_hasRun, f_toldCount, f_lastNode, f_hasStopped, a_variable, a_latestTold)
section
variable {f_stale f_seen f_seenCount f_isStraight f_meetings f_codeCount f_taskCount f_hasRun f_toldCount f_lastNode f_hasStopped : Int32} {f_inputLeft : Int64} {a_actKind a_actVariable a_actOperand a_endKind a_endVariable a_endX a_endY a_path a_pathSide a_leaving a_numberOf a_nodeAt a_successors a_predecessors a_before a_behind a_loop a_liveAt a_knownAt a_code a_task a_variable a_latestTold : Nat → Int32} {ek ex ey ak av ac ev : Nat → Nat}
theorem gx_study {post : SX → Prop} (R : gx_RX ak av ac ek ev ex ey (f_stale, f_seen, f_seenCount, f_isStraight, f_meetings, f_codeCount, f_taskCount, f_hasRun, f_inputLeft, f_toldCount, f_lastNode, f_hasStopped, a_actKind, a_actVariable, a_actOperand, a_endKind, a_endVariable, a_endX, a_endY, a_path, a_pathSide, a_leaving, a_numberOf, a_nodeAt, a_successors, a_predecessors, a_before, a_behind, a_loop, a_liveAt, a_knownAt, a_code, a_task, a_variable, a_latestTold)) (h : ∀ f_seen f_seenCount f_isStraight f_meetings f_codeCount f_taskCount a_path a_pathSide a_leaving a_numberOf a_nodeAt a_successors a_predecessors a_before a_behind a_loop a_liveAt a_knownAt a_code a_task, gx_VX ak av ac ek ev ex ey f_seen f_seenCount f_isStraight f_meetings f_codeCount a_numberOf a_nodeAt a_successors a_predecessors a_before a_behind a_loop a_liveAt a_knownAt a_code → post (0, f_seen, f_seenCount, f_isStraight, f_meetings, f_codeCount, f_taskCount, f_hasRun, f_inputLeft, f_toldCount, f_lastNode, f_hasStopped, a_actKind, a_actVariable, a_actOperand, a_endKind, a_endVariable, a_endX, a_endY, a_path, a_pathSide, a_leaving, a_numberOf, a_nodeAt, a_successors, a_predecessors, a_before, a_behind, a_loop, a_liveAt, a_knownAt, a_code, a_task, a_variable, a_latestTold)) : wpX_study post (f_stale, f_seen, f_seenCount, f_isStraight, f_meetings, f_codeCount, f_taskCount, f_hasRun, f_inputLeft, f_toldCount, f_lastNode, f_hasStopped, a_actKind, a_actVariable, a_actOperand, a_endKind, a_endVariable, a_endX, a_endY, a_path, a_pathSide, a_leaving, a_numberOf, a_nodeAt, a_successors, a_predecessors, a_before, a_behind, a_loop, a_liveAt, a_knownAt, a_code, a_task, a_variable, a_latestTold) := by
  obtain ⟨GE, GA, V⟩ := R
  have hx := GE.2.1
  have hy := GE.2.2.1
  refine br_c (fun z => ?_) (fun z => ?_)
  · subst z
    exact h _ _ _ _ _ _ _ _ _ _ _ _ _ _ _ _ _ _ _ _ (V rfl)
  · refine gx_numbers GE (fun m pa si le nu na h1 h2 h3 => ?_)
    refine gx_link GE h1 (fun su pr LK => ?_)
    refine gx_stops GE h1 (fun st hst => ?_)
    refine gx_before hx hy LK (fun bf hbf => ?_)
    refine gx_behind hx hy LK hst (fun bh hbh => ?_)
    refine gx_loops hx hy LK hbf (fun lp hlp => ?_)
    refine gx_straight hx hy LK h2 hbf (fun r hr => ?_)
    refine gx_live GE GA LK (fun l hl => ?_)
    refine gx_known GE GA (fun kn hkn => ?_)
    refine gx_meet hx hy LK h2 (fun mt hmt => ?_)
    have CW : gx_CW ek ex ey (nI (gs_lv ek ex ey).length) mt nu na bf lp := ⟨rfl, hmt, h2, h3, hbf, hlp⟩
    refine gx_write GE GA.2.2.2.2.2.2.2.2 GA.2.2.2.2.1 CW (fun w => ?_) (fun w tc c t hc => ?_)
    · exact h _ _ _ _ _ _ _ _ _ _ _ _ _ _ _ _ _ _ _ _ ⟨h1, CW, LK, hbh, hr, hl, hkn, fun q => absurd w q⟩
    · exact h _ _ _ _ _ _ _ _ _ _ _ _ _ _ _ _ _ _ _ _ ⟨h1, CW, LK, hbh, hr, hl, hkn, fun _ => ⟨rfl, hc⟩⟩
theorem gx_RX0 {GV : Prop} (h : gx_GE ek ex ey a_endKind a_endX a_endY ∧ gx_GA ak av ac ev a_actKind a_actVariable a_actOperand a_endVariable ∧ GV) (V : gx_VX ak av ac ek ev ex ey f_seen f_seenCount f_isStraight f_meetings f_codeCount a_numberOf a_nodeAt a_successors a_predecessors a_before a_behind a_loop a_liveAt a_knownAt a_code) : gx_RX ak av ac ek ev ex ey (0, f_seen, f_seenCount, f_isStraight, f_meetings, f_codeCount, f_taskCount, f_hasRun, f_inputLeft, f_toldCount, f_lastNode, f_hasStopped, a_actKind, a_actVariable, a_actOperand, a_endKind, a_endVariable, a_endX, a_endY, a_path, a_pathSide, a_leaving, a_numberOf, a_nodeAt, a_successors, a_predecessors, a_before, a_behind, a_loop, a_liveAt, a_knownAt, a_code, a_task, a_variable, a_latestTold) := ⟨h.1, h.2.1, fun _ => V⟩
theorem gx_isNode {A B : Prop} {p : Int32} (ht : ∀ n, n < 16 → p = nI n → B) (hf : (∀ n, n < 16 → p ≠ nI n) → A) : wpX_isNode (fun r => (r = 0 → A) ∧ (¬ r = 0 → B)) p := by
  refine br_c (fun z => br_t rfl (hf (fun n hn e => ?_))) (fun z => ?_)
  · subst e
    exact nI_pos (by omega) z
  · obtain ⟨j, hj, rfl⟩ := nI_of z
    refine pk_le 16 j (fun w => br_t rfl (hf (fun n hn e => ?_))) (fun w => br_f (by decide) (ht j w rfl))
    have := (nI_eq hj (by omega)).mp e
    omega
theorem gx_isVar {A B : Prop} {p : Int32} (ht : ∀ n, n < 4 → p = nI n → B) (hf : (∀ n, n < 4 → p ≠ nI n) → A) : wpX_isVariable (fun r => (r = 0 → A) ∧ (¬ r = 0 → B)) p := by
  refine br_c (fun z => br_t rfl (hf (fun n hn e => ?_))) (fun z => ?_)
  · subst e
    exact nI_pos (by omega) z
  · obtain ⟨j, hj, rfl⟩ := nI_of z
    refine pk_le 4 j (fun w => br_t rfl (hf (fun n hn e => ?_))) (fun w => br_f (by decide) (ht j w rfl))
    have := (nI_eq hj (by omega)).mp e
    omega
theorem gx_isSeen {A B : Prop} {p : Int32} (hx : ∀ n, ex n < 16) (hy : ∀ n, ey n < 16) (hM : gs_Mk f_seen (fun i => gs_sn ek ex ey i = true)) (ht : ∀ n, gs_sn ek ex ey n = true → p = nI n → B) (hf : (∀ n, gs_sn ek ex ey n = true → p ≠ nI n) → A) : wpX_isSeen (fun r => (r = 0 → A) ∧ (¬ r = 0 → B)) (f_stale, f_seen, f_seenCount, f_isStraight, f_meetings, f_codeCount, f_taskCount, f_hasRun, f_inputLeft, f_toldCount, f_lastNode, f_hasStopped, a_actKind, a_actVariable, a_actOperand, a_endKind, a_endVariable, a_endX, a_endY, a_path, a_pathSide, a_leaving, a_numberOf, a_nodeAt, a_successors, a_predecessors, a_before, a_behind, a_loop, a_liveAt, a_knownAt, a_code, a_task, a_variable, a_latestTold) p := by
  refine gx_isNode (fun n hn e => ?_) (fun q => ?_)
  · subst e
    refine gx_hm hM hn (fun w => br_f (by decide) (ht n w rfl)) (fun w => br_t rfl (hf (fun m hm e => w ?_)))
    have := (nI_eq (by omega) (by have := gs_sn_lt hx hy hm; omega)).mp e
    exact this ▸ hm
  · exact br_t rfl (hf (fun n hn => q n (gs_sn_lt hx hy hn)))
end
/-- an answer of a seen node, or -1 -/
def gs_Q (ek ex ey : Nat → Nat) (Q : Nat → Int32 → Prop) (p r : Int32) : Prop := (∃ n, gs_sn ek ex ey n = true ∧ p = nI n ∧ Q n r) ∨ ((∀ n, gs_sn ek ex ey n = true → p ≠ nI n) ∧ r = -1)
theorem gs_Q_uniq {ek ex ey : Nat → Nat} (hx : ∀ n, ex n < 16) (hy : ∀ n, ey n < 16) {Q : Nat → Int32 → Prop} {p r r' : Int32} (hQ : ∀ n, n < 16 → ∀ r r', Q n r → Q n r' → r' = r) (h : gs_Q ek ex ey Q p r) (h' : gs_Q ek ex ey Q p r') : r' = r := by
  rcases h with ⟨n, h1, h2, h3⟩ | ⟨h1, h2⟩
  · rcases h' with ⟨m, h4, h5, h6⟩ | ⟨h4, h5⟩
    · have n16 := gs_sn_lt hx hy h1
      have m16 := gs_sn_lt hx hy h4
      have e : n = m := (nI_eq (by omega) (by omega)).mp (h2.symm.trans h5)
      subst e
      exact hQ n n16 r r' h3 h6
    · exact absurd h2 (h4 n h1)
  · rcases h' with ⟨m, h4, h5, h6⟩ | ⟨h4, h5⟩
    · exact absurd h5 (h1 m h4)
    · rw [h2, h5]
