/-! X: set, straight, merges, known, words, word -/
section
variable {f_stale f_seen f_seenCount f_isStraight f_meetings f_codeCount f_taskCount f_hasRun f_toldCount f_lastNode f_hasStopped : Int32} {f_inputLeft : Int64} {a_actKind a_actVariable a_actOperand a_endKind a_endVariable a_endX a_endY a_path a_pathSide a_leaving a_numberOf a_nodeAt a_successors a_predecessors a_before a_behind a_loop a_liveAt a_knownAt a_code a_task a_variable a_latestTold : Nat → Int32} {ek ex ey ak av ac ev : Nat → Nat}
theorem gx_m_set {post : Int32 → SX → Prop} {p w : Int32} (R : gx_RX ak av ac ek ev ex ey (f_stale, f_seen, f_seenCount, f_isStraight, f_meetings, f_codeCount, f_taskCount, f_hasRun, f_inputLeft, f_toldCount, f_lastNode, f_hasStopped, a_actKind, a_actVariable, a_actOperand, a_endKind, a_endVariable, a_endX, a_endY, a_path, a_pathSide, a_leaving, a_numberOf, a_nodeAt, a_successors, a_predecessors, a_before, a_behind, a_loop, a_liveAt, a_knownAt, a_code, a_task, a_variable, a_latestTold)) (h : ∀ r u, gs_Q ek ex ey (gs_Qset ek ex ey w) p r → gx_RX ak av ac ek ev ex ey u → gx_run u = gx_run (f_stale, f_seen, f_seenCount, f_isStraight, f_meetings, f_codeCount, f_taskCount, f_hasRun, f_inputLeft, f_toldCount, f_lastNode, f_hasStopped, a_actKind, a_actVariable, a_actOperand, a_endKind, a_endVariable, a_endX, a_endY, a_path, a_pathSide, a_leaving, a_numberOf, a_nodeAt, a_successors, a_predecessors, a_before, a_behind, a_loop, a_liveAt, a_knownAt, a_code, a_task, a_variable, a_latestTold) → post r u) : wpX_set post (f_stale, f_seen, f_seenCount, f_isStraight, f_meetings, f_codeCount, f_taskCount, f_hasRun, f_inputLeft, f_toldCount, f_lastNode, f_hasStopped, a_actKind, a_actVariable, a_actOperand, a_endKind, a_endVariable, a_endX, a_endY, a_path, a_pathSide, a_leaving, a_numberOf, a_nodeAt, a_successors, a_predecessors, a_before, a_behind, a_loop, a_liveAt, a_knownAt, a_code, a_task, a_variable, a_latestTold) p w := by
  have R' := R
  obtain ⟨GE, GA, _⟩ := R
  have hx := GE.2.1
  have hy := GE.2.2.1
  unfold wpX_set
  refine gx_study R' (fun f_seen f_seenCount f_isStraight f_meetings f_codeCount f_taskCount a_path a_pathSide a_leaving a_numberOf a_nodeAt a_successors a_predecessors a_before a_behind a_loop a_liveAt a_knownAt a_code a_task V => ?_)
  have RN := gx_RX0 R' V (f_taskCount := f_taskCount) (f_hasRun := f_hasRun) (f_toldCount := f_toldCount) (f_lastNode := f_lastNode) (f_hasStopped := f_hasStopped) (f_inputLeft := f_inputLeft) (a_path := a_path) (a_pathSide := a_pathSide) (a_leaving := a_leaving) (a_task := a_task) (a_variable := a_variable) (a_latestTold := a_latestTold)
  refine gx_isSeen hx hy V.1 (fun n hn e => ?_) (fun q => h _ _ (Or.inr ⟨q, rfl⟩) RN rfl)
  subst e
  have n16 := gs_sn_lt hx hy hn
  have done : ∀ r, gs_Qset ek ex ey w n r → post r (0, f_seen, f_seenCount, f_isStraight, f_meetings, f_codeCount, f_taskCount, f_hasRun, f_inputLeft, f_toldCount, f_lastNode, f_hasStopped, a_actKind, a_actVariable, a_actOperand, a_endKind, a_endVariable, a_endX, a_endY, a_path, a_pathSide, a_leaving, a_numberOf, a_nodeAt, a_successors, a_predecessors, a_before, a_behind, a_loop, a_liveAt, a_knownAt, a_code, a_task, a_variable, a_latestTold) := fun r hr => h r _ (Or.inl ⟨n, hn, rfl, hr⟩) RN rfl
  refine br_c (fun z => ?_) (fun z => br_c (fun y => ?_) (fun y => ?_))
  · refine done _ (Or.inr (Or.inr (Or.inr ⟨⟨fun q => ?_, fun q => ?_, fun q => ?_⟩, rfl⟩)))
    · subst q; exact absurd z (by decide)
    · subst q; exact absurd z (by decide)
    · subst q; exact absurd z (by decide)
  · refine done _ (Or.inr (Or.inr (Or.inr ⟨⟨fun q => ?_, fun q => ?_, fun q => ?_⟩, rfl⟩)))
    · subst q; exact absurd y (by decide)
    · subst q; exact absurd y (by decide)
    · subst q; exact absurd y (by decide)
  · obtain ⟨j, hj, rfl⟩ := nI_of z
    have j2 : j ≤ 2 := by
      apply Classical.byContradiction
      intro q
      exact y (nI_lt (a := 2) (by omega) hj)
    refine br_c (fun q => ?_) (fun q => br_c (fun q1 => ?_) (fun q1 => br_c (fun q2 => ?_) (fun _ => trivial)))
    · exact gx_edgeOf n16 V.2.1.2.2.2.2.1 V.2.2.1 (fun r hr => done r (Or.inl ⟨q, hr⟩))
    · exact gx_rulers n16 V.2.2.2.1 V.2.2.1 (fun r hr => done r (Or.inr (Or.inl ⟨q1, hr⟩)))
    · exact ⟨gx_in n16, done _ (Or.inr (Or.inr (Or.inl ⟨q2, by rw [gx_cl n16]; exact V.2.1.2.2.2.2.2 n n16⟩)))⟩
theorem gx_m_straight {post : Int32 → SX → Prop} (R : gx_RX ak av ac ek ev ex ey (f_stale, f_seen, f_seenCount, f_isStraight, f_meetings, f_codeCount, f_taskCount, f_hasRun, f_inputLeft, f_toldCount, f_lastNode, f_hasStopped, a_actKind, a_actVariable, a_actOperand, a_endKind, a_endVariable, a_endX, a_endY, a_path, a_pathSide, a_leaving, a_numberOf, a_nodeAt, a_successors, a_predecessors, a_before, a_behind, a_loop, a_liveAt, a_knownAt, a_code, a_task, a_variable, a_latestTold)) (h : ∀ r u, (r = 1 ∧ gs_strt ek ex ey) ∨ (r = 0 ∧ ¬ gs_strt ek ex ey) → gx_RX ak av ac ek ev ex ey u → gx_run u = gx_run (f_stale, f_seen, f_seenCount, f_isStraight, f_meetings, f_codeCount, f_taskCount, f_hasRun, f_inputLeft, f_toldCount, f_lastNode, f_hasStopped, a_actKind, a_actVariable, a_actOperand, a_endKind, a_endVariable, a_endX, a_endY, a_path, a_pathSide, a_leaving, a_numberOf, a_nodeAt, a_successors, a_predecessors, a_before, a_behind, a_loop, a_liveAt, a_knownAt, a_code, a_task, a_variable, a_latestTold) → post r u) : wpX_straight post (f_stale, f_seen, f_seenCount, f_isStraight, f_meetings, f_codeCount, f_taskCount, f_hasRun, f_inputLeft, f_toldCount, f_lastNode, f_hasStopped, a_actKind, a_actVariable, a_actOperand, a_endKind, a_endVariable, a_endX, a_endY, a_path, a_pathSide, a_leaving, a_numberOf, a_nodeAt, a_successors, a_predecessors, a_before, a_behind, a_loop, a_liveAt, a_knownAt, a_code, a_task, a_variable, a_latestTold) := by
  have R' := R
  obtain ⟨GE, GA, _⟩ := R
  have hx := GE.2.1
  have hy := GE.2.2.1
  unfold wpX_straight
  refine gx_study R' (fun f_seen f_seenCount f_isStraight f_meetings f_codeCount f_taskCount a_path a_pathSide a_leaving a_numberOf a_nodeAt a_successors a_predecessors a_before a_behind a_loop a_liveAt a_knownAt a_code a_task V => ?_)
  have RN := gx_RX0 R' V (f_taskCount := f_taskCount) (f_hasRun := f_hasRun) (f_toldCount := f_toldCount) (f_lastNode := f_lastNode) (f_hasStopped := f_hasStopped) (f_inputLeft := f_inputLeft) (a_path := a_path) (a_pathSide := a_pathSide) (a_leaving := a_leaving) (a_task := a_task) (a_variable := a_variable) (a_latestTold := a_latestTold)
  refine ⟨?_, h _ _ V.2.2.2.2.1 RN rfl⟩
  rcases V.2.2.2.2.1 with z | z
  · rw [z.1]; rfl
  · rw [z.1]; rfl
theorem gx_changers {post : Int32 → Prop} {v : Nat} (hv : v < 4) (GA : gx_GA ak av ac ev a_actKind a_actVariable a_actOperand a_endVariable) (hM : gs_Mk f_seen (fun i => gs_sn ek ex ey i = true)) (h : ∀ r, gs_Mk r (gs_chg ak av ek ex ey v) → post r) : wpX_changersOf post (f_stale, f_seen, f_seenCount, f_isStraight, f_meetings, f_codeCount, f_taskCount, f_hasRun, f_inputLeft, f_toldCount, f_lastNode, f_hasStopped, a_actKind, a_actVariable, a_actOperand, a_endKind, a_endVariable, a_endX, a_endY, a_path, a_pathSide, a_leaving, a_numberOf, a_nodeAt, a_successors, a_predecessors, a_before, a_behind, a_loop, a_liveAt, a_knownAt, a_code, a_task, a_variable, a_latestTold) (nI v) := by
  have GA' := GA
  obtain ⟨g1, g2, g3, g4, g5, g6, g7, g8, g9⟩ := GA
  refine pk_loop (fun m i s => wX_changersOf_4 post (nI v) f_stale f_seen f_seenCount f_isStraight f_meetings f_codeCount f_taskCount f_hasRun f_inputLeft f_toldCount f_lastNode f_hasStopped a_actKind a_actVariable a_actOperand a_endKind a_endVariable a_endX a_endY a_path a_pathSide a_leaving a_numberOf a_nodeAt a_successors a_predecessors a_before a_behind a_loop a_liveAt a_knownAt a_code a_task a_variable a_latestTold m s (nI i)) (fun i s => gs_Mk s (fun j => j < i ∧ gs_chg ak av ek ex ey v j)) 16 0 0 (by omega) (gs_Mk_0 (fun i _ z => absurd z.1 (Nat.not_lt_zero i))) ?_ ?_
  · rintro m s hI
    exact br_t gx_x16 (h s (gs_Mk_iff hI (fun i hi => ⟨fun z => z.2, fun z => ⟨hi, z⟩⟩)))
  · rintro m i s hi hI ih
    have ka := g1 i
    have va := g2 i
    have keep : ¬ gs_chg ak av ek ex ey v i → wX_changersOf_4 post (nI v) f_stale f_seen f_seenCount f_isStraight f_meetings f_codeCount f_taskCount f_hasRun f_inputLeft f_toldCount f_lastNode f_hasStopped a_actKind a_actVariable a_actOperand a_endKind a_endVariable a_endX a_endY a_path a_pathSide a_leaving a_numberOf a_nodeAt a_successors a_predecessors a_before a_behind a_loop a_liveAt a_knownAt a_code a_task a_variable a_latestTold m s (nI (i + 1)) := fun q => ih s (gs_Mk_iff hI (fun j _ => by
      constructor
      · exact fun z => ⟨by omega, z.2⟩
      · rintro ⟨z1, z2⟩
        by_cases e : j = i
        · exact absurd (e ▸ z2) q
        · exact ⟨by omega, z2⟩))
    have eV : (a_actVariable (nI i).toNatClampNeg = nI v) ↔ av i = v := by
      rw [gx_cl hi, g7]
      exact nI_eq (by omega) (by omega)
    have yes : (ak i = 1 ∨ ak i = 2 ∨ ak i = 3 ∨ ak i = 5) → wX_changersOf_28 post (wX_changersOf_4 post (nI v) f_stale f_seen f_seenCount f_isStraight f_meetings f_codeCount f_taskCount f_hasRun f_inputLeft f_toldCount f_lastNode f_hasStopped a_actKind a_actVariable a_actOperand a_endKind a_endVariable a_endX a_endY a_path a_pathSide a_leaving a_numberOf a_nodeAt a_successors a_predecessors a_before a_behind a_loop a_liveAt a_knownAt a_code a_task a_variable a_latestTold m) (nI v) s (nI i) f_stale f_seen f_seenCount f_isStraight f_meetings f_codeCount f_taskCount f_hasRun f_inputLeft f_toldCount f_lastNode f_hasStopped a_actKind a_actVariable a_actOperand a_endKind a_endVariable a_endX a_endY a_path a_pathSide a_leaving a_numberOf a_nodeAt a_successors a_predecessors a_before a_behind a_loop a_liveAt a_knownAt a_code a_task a_variable a_latestTold := by
      intro q
      refine gx_hm hM hi (fun w => br_f (by decide) ⟨gx_in hi, br_c (fun y => ?_) (fun y => ?_)⟩) (fun w => ?_)
      · refine nm_e (nm_r (nI_1 i) (ih _ (gs_Mk_iff (gs_Mk_set hI hi) (fun j _ => ?_))))
        constructor
        · rintro (z | rfl)
          · exact ⟨by omega, z.2⟩
          · exact ⟨by omega, w, q, eV.mp y⟩
        · rintro ⟨z1, z2⟩
          by_cases e : j = i
          · exact Or.inr e
          · exact Or.inl ⟨by omega, z2⟩
      · exact nm_r (nI_1 i) (keep (fun z => y (eV.mpr z.2.2)))
      · exact nm_r (nI_1 i) (keep (fun z => w z.1))
    have no : ¬ (ak i = 1 ∨ ak i = 2 ∨ ak i = 3 ∨ ak i = 5) → wX_changersOf_33 post (wX_changersOf_4 post (nI v) f_stale f_seen f_seenCount f_isStraight f_meetings f_codeCount f_taskCount f_hasRun f_inputLeft f_toldCount f_lastNode f_hasStopped a_actKind a_actVariable a_actOperand a_endKind a_endVariable a_endX a_endY a_path a_pathSide a_leaving a_numberOf a_nodeAt a_successors a_predecessors a_before a_behind a_loop a_liveAt a_knownAt a_code a_task a_variable a_latestTold m) (nI v) s (nI i) 0 f_stale f_seen f_seenCount f_isStraight f_meetings f_codeCount f_taskCount f_hasRun f_inputLeft f_toldCount f_lastNode f_hasStopped a_actKind a_actVariable a_actOperand a_endKind a_endVariable a_endX a_endY a_path a_pathSide a_leaving a_numberOf a_nodeAt a_successors a_predecessors a_before a_behind a_loop a_liveAt a_knownAt a_code a_task a_variable a_latestTold := by
      intro q
      refine gx_hm hM hi (fun w => br_t rfl ?_) (fun w => ?_)
      · exact nm_r (nI_1 i) (keep (fun z => q z.2.1))
      · exact nm_r (nI_1 i) (keep (fun z => w z.1))
    have e2 : (a_actKind (nI i).toNatClampNeg = 2) ↔ ak i = 2 := by
      rw [gx_cl hi, g6]
      exact nI_eq (b := 2) (by omega) (by decide)
    refine br_f (gx_16 hi) ⟨gx_in hi, br_c (fun z => yes (Or.inr (Or.inl (e2.mp z)))) (fun z => gx_repl GA' hi (br_c (fun y => no ?_) (fun y => yes ?_)))⟩
    · rintro (w | w | w | w)
      · exact (gs_Mk_z (gs_rpm_Mk (ak := ak) g2 i)).mp y (av i) (by omega) ⟨Or.inl w, rfl⟩
      · exact z (e2.mpr w)
      · exact (gs_Mk_z (gs_rpm_Mk (ak := ak) g2 i)).mp y (av i) (by omega) ⟨Or.inr (Or.inl w), rfl⟩
      · exact (gs_Mk_z (gs_rpm_Mk (ak := ak) g2 i)).mp y (av i) (by omega) ⟨Or.inr (Or.inr w), rfl⟩
    · apply Classical.byContradiction
      intro q
      apply y
      unfold gs_rpm
      exact if_neg (fun w => q (by omega))
theorem gs_mg_ok (hx : ∀ n, ex n < 16) (hy : ∀ n, ey n < 16) {so : Int32} {v : Nat} (hs : gs_Mk so (fun n => n = 0 ∨ gs_chg ak av ek ex ey v n)) : gs_Mk (gs_it (gs_sw so (fun n => gs_mkm (gs_edge ek ex ey n))) 17 0) (gs_mg ak av ek ex ey v) := by
  have he : ∀ n, gs_Mk (gs_mkm (gs_edge ek ex ey n)) (gs_edge ek ex ey n) := fun n => gs_mkm_ok _
  have e16 : ∀ n k, gs_edge ek ex ey n k → n < 16 ∧ k < 16 := fun n k ⟨_, p, _, _, q1, q2⟩ => ⟨gs_sn_lt hx hy (gs_bf_sn hx hy q2), gs_E_lt ek ex ey hx hy q1⟩
  have h := gs_sw_main (so := so) (e := fun n => gs_mkm (gs_edge ek ex ey n)) (r := 0) (K := 17) (fun n _ i hb => ((he n i).mp hb).1) (fun i hb => by rw [b_0] at hb; exact nomatch hb) (Or.inr (by omega))
  apply gs_Mk_iff h
  intro i _
  constructor
  · intro hc
    apply gs_cl_mono hc
    · rintro j (hj | ⟨n, h1, h2, h3⟩)
      · rw [b_0] at hj
        exact nomatch hj
      · exact gs_cl_b ⟨n, ((hs n).mp h2).2, ((he n j).mp h3).2⟩
    · rintro j k _ hj ⟨h1, h2⟩
      exact gs_cl_s hj ((he j k).mp h2).2
  · intro hc
    apply gs_cl_mono hc
    · rintro j ⟨n, h1, h2⟩
      have := e16 n j h2
      exact gs_cl_b (Or.inr ⟨n, this.1, (hs n).mpr ⟨this.1, h1⟩, (he n j).mpr ⟨this.2, h2⟩⟩)
    · rintro j k _ hj h2
      have := e16 j k h2
      exact gs_cl_s hj ⟨this.1, (he j k).mpr ⟨this.2, h2⟩⟩
theorem gx_m_merges {post : Int32 → SX → Prop} {p : Int32} (R : gx_RX ak av ac ek ev ex ey (f_stale, f_seen, f_seenCount, f_isStraight, f_meetings, f_codeCount, f_taskCount, f_hasRun, f_inputLeft, f_toldCount, f_lastNode, f_hasStopped, a_actKind, a_actVariable, a_actOperand, a_endKind, a_endVariable, a_endX, a_endY, a_path, a_pathSide, a_leaving, a_numberOf, a_nodeAt, a_successors, a_predecessors, a_before, a_behind, a_loop, a_liveAt, a_knownAt, a_code, a_task, a_variable, a_latestTold)) (h : ∀ r u, gs_Amg ak av ek ex ey p r → gx_RX ak av ac ek ev ex ey u → gx_run u = gx_run (f_stale, f_seen, f_seenCount, f_isStraight, f_meetings, f_codeCount, f_taskCount, f_hasRun, f_inputLeft, f_toldCount, f_lastNode, f_hasStopped, a_actKind, a_actVariable, a_actOperand, a_endKind, a_endVariable, a_endX, a_endY, a_path, a_pathSide, a_leaving, a_numberOf, a_nodeAt, a_successors, a_predecessors, a_before, a_behind, a_loop, a_liveAt, a_knownAt, a_code, a_task, a_variable, a_latestTold) → post r u) : wpX_merges post (f_stale, f_seen, f_seenCount, f_isStraight, f_meetings, f_codeCount, f_taskCount, f_hasRun, f_inputLeft, f_toldCount, f_lastNode, f_hasStopped, a_actKind, a_actVariable, a_actOperand, a_endKind, a_endVariable, a_endX, a_endY, a_path, a_pathSide, a_leaving, a_numberOf, a_nodeAt, a_successors, a_predecessors, a_before, a_behind, a_loop, a_liveAt, a_knownAt, a_code, a_task, a_variable, a_latestTold) p := by
  have R' := R
  obtain ⟨GE, GA, _⟩ := R
  have hx := GE.2.1
  have hy := GE.2.2.1
  unfold wpX_merges
  refine gx_isVar (fun v hv e => ?_) (fun q => h _ _ (Or.inr ⟨q, rfl⟩) R' rfl)
  subst e
  refine gx_study R' (fun f_seen f_seenCount f_isStraight f_meetings f_codeCount f_taskCount a_path a_pathSide a_leaving a_numberOf a_nodeAt a_successors a_predecessors a_before a_behind a_loop a_liveAt a_knownAt a_code a_task V => ?_)
  have RN := gx_RX0 R' V (f_taskCount := f_taskCount) (f_hasRun := f_hasRun) (f_toldCount := f_toldCount) (f_lastNode := f_lastNode) (f_hasStopped := f_hasStopped) (f_inputLeft := f_inputLeft) (a_path := a_path) (a_pathSide := a_pathSide) (a_leaving := a_leaving) (a_task := a_task) (a_variable := a_variable) (a_latestTold := a_latestTold)
  refine gx_changers hv GA V.1 (fun c hc => nm_e ?_)
  have hs := gs_Mk_or gx_one hc
  refine pk_loop (fun m i s => wX_merges_26 post (1 ||| c) 0 f_seen f_seenCount f_isStraight f_meetings f_codeCount f_taskCount f_hasRun f_inputLeft f_toldCount f_lastNode f_hasStopped a_actKind a_actVariable a_actOperand a_endKind a_endVariable a_endX a_endY a_path a_pathSide a_leaving a_numberOf a_nodeAt a_successors a_predecessors a_before a_behind a_loop a_liveAt a_knownAt a_code a_task a_variable a_latestTold m s (nI i)) (fun i s => s = gs_it (gs_sw (1 ||| c) (fun n => gs_mkm (gs_edge ek ex ey n))) i 0) 17 0 0 (by omega) rfl ?_ ?_
  · intro m s hI
    refine br_t (by decide) (h _ _ (Or.inl ⟨v, hv, rfl, ?_⟩) RN rfl)
    rw [hI]
    exact gs_mg_ok hx hy hs
  · rintro m i s hi hI ih
    refine br_f (nI_nlt (b := i) (a := 16) (by omega) (by decide)) ?_
    refine pk_loop (fun m' j s => wX_merges_36 post (wX_merges_26 post (1 ||| c) 0 f_seen f_seenCount f_isStraight f_meetings f_codeCount f_taskCount f_hasRun f_inputLeft f_toldCount f_lastNode f_hasStopped a_actKind a_actVariable a_actOperand a_endKind a_endVariable a_endX a_endY a_path a_pathSide a_leaving a_numberOf a_nodeAt a_successors a_predecessors a_before a_behind a_loop a_liveAt a_knownAt a_code a_task a_variable a_latestTold m) (1 ||| c) (nI i) 0 f_seen f_seenCount f_isStraight f_meetings f_codeCount f_taskCount f_hasRun f_inputLeft f_toldCount f_lastNode f_hasStopped a_actKind a_actVariable a_actOperand a_endKind a_endVariable a_endX a_endY a_path a_pathSide a_leaving a_numberOf a_nodeAt a_successors a_predecessors a_before a_behind a_loop a_liveAt a_knownAt a_code a_task a_variable a_latestTold m' s (nI j)) (fun j t => t = gs_sw1 (1 ||| c) (fun n => gs_mkm (gs_edge ek ex ey n)) s j) 16 0 s (by omega) rfl ?_ ?_
    · rintro m' t rfl
      refine br_t gx_x16 (nm_r (nI_1 i) (ih _ ?_))
      rw [gs_it_s, ← hI]
      rfl
    · rintro m' j t hj rfl ihj
      refine br_f (gx_16 hj) (gx_hb hj (fun q => gx_edgeOf hj V.2.1.2.2.2.2.1 V.2.2.1 (fun r hr => nm_r (e' := gs_sw1 (1 ||| c) (fun n => gs_mkm (gs_edge ek ex ey n)) s (j + 1)) ?_ (nm_r (nI_1 j) (ihj _ rfl)))) (fun q => nm_r (nI_1 j) (ihj _ ?_)))
      · rw [b_or, Bool.or_eq_true] at q
        rw [gs_sw1_t q, gs_Mk_uniq hr (gs_mkm_ok _)]
      · rw [b_or, Bool.or_eq_false_iff] at q
        rw [gs_sw1_f q.1 q.2]
theorem gx_m_known {post : Int32 → SX → Prop} {p q : Int32} (R : gx_RX ak av ac ek ev ex ey (f_stale, f_seen, f_seenCount, f_isStraight, f_meetings, f_codeCount, f_taskCount, f_hasRun, f_inputLeft, f_toldCount, f_lastNode, f_hasStopped, a_actKind, a_actVariable, a_actOperand, a_endKind, a_endVariable, a_endX, a_endY, a_path, a_pathSide, a_leaving, a_numberOf, a_nodeAt, a_successors, a_predecessors, a_before, a_behind, a_loop, a_liveAt, a_knownAt, a_code, a_task, a_variable, a_latestTold)) (h : ∀ r u, gs_Akn ak av ac ek ev ex ey p q r → gx_RX ak av ac ek ev ex ey u → gx_run u = gx_run (f_stale, f_seen, f_seenCount, f_isStraight, f_meetings, f_codeCount, f_taskCount, f_hasRun, f_inputLeft, f_toldCount, f_lastNode, f_hasStopped, a_actKind, a_actVariable, a_actOperand, a_endKind, a_endVariable, a_endX, a_endY, a_path, a_pathSide, a_leaving, a_numberOf, a_nodeAt, a_successors, a_predecessors, a_before, a_behind, a_loop, a_liveAt, a_knownAt, a_code, a_task, a_variable, a_latestTold) → post r u) : wpX_known post (f_stale, f_seen, f_seenCount, f_isStraight, f_meetings, f_codeCount, f_taskCount, f_hasRun, f_inputLeft, f_toldCount, f_lastNode, f_hasStopped, a_actKind, a_actVariable, a_actOperand, a_endKind, a_endVariable, a_endX, a_endY, a_path, a_pathSide, a_leaving, a_numberOf, a_nodeAt, a_successors, a_predecessors, a_before, a_behind, a_loop, a_liveAt, a_knownAt, a_code, a_task, a_variable, a_latestTold) p q := by
  have R' := R
  obtain ⟨GE, GA, _⟩ := R
  have hx := GE.2.1
  have hy := GE.2.2.1
  unfold wpX_known
  refine gx_isNode (fun n hn e => ?_) (fun z => h _ _ (Or.inr ⟨Or.inl z, rfl⟩) R' rfl)
  subst e
  refine gx_isVar (fun v hv e => ?_) (fun z => h _ _ (Or.inr ⟨Or.inr z, rfl⟩) R' rfl)
  subst e
  refine gx_study R' (fun f_seen f_seenCount f_isStraight f_meetings f_codeCount f_taskCount a_path a_pathSide a_leaving a_numberOf a_nodeAt a_successors a_predecessors a_before a_behind a_loop a_liveAt a_knownAt a_code a_task V => ?_)
  have RN := gx_RX0 R' V (f_taskCount := f_taskCount) (f_hasRun := f_hasRun) (f_toldCount := f_toldCount) (f_lastNode := f_lastNode) (f_hasStopped := f_hasStopped) (f_inputLeft := f_inputLeft) (a_path := a_path) (a_pathSide := a_pathSide) (a_leaving := a_leaving) (a_task := a_task) (a_variable := a_variable) (a_latestTold := a_latestTold)
  have e : nI n * 4 + nI v = nI (4 * n + v) := by
    rw [show (4 : Int32) = nI 4 from rfl, pk_mul, nI_add, Nat.mul_comm]
  rw [e]
  have done := h _ _ (Or.inl ⟨n, v, hn, hv, rfl, rfl, rfl⟩) RN rfl
  refine ⟨vp_in_nI (by omega) (by decide), nm_r (e' := gs_kd (gs_kF ak av ac ek ev ex ey (4 * n + v))) (by rw [nI_clamp (by omega)]; exact V.2.2.2.2.2.2.1 _ (by omega)) (br_c (fun z => ?_) (fun z => done))⟩
  rw [z] at done
  exact done
theorem gx_m_words {post : Int32 → SX → Prop} (R : gx_RX ak av ac ek ev ex ey (f_stale, f_seen, f_seenCount, f_isStraight, f_meetings, f_codeCount, f_taskCount, f_hasRun, f_inputLeft, f_toldCount, f_lastNode, f_hasStopped, a_actKind, a_actVariable, a_actOperand, a_endKind, a_endVariable, a_endX, a_endY, a_path, a_pathSide, a_leaving, a_numberOf, a_nodeAt, a_successors, a_predecessors, a_before, a_behind, a_loop, a_liveAt, a_knownAt, a_code, a_task, a_variable, a_latestTold)) (h : ∀ r u, gs_Aws ek ev ex ey r → gx_RX ak av ac ek ev ex ey u → gx_run u = gx_run (f_stale, f_seen, f_seenCount, f_isStraight, f_meetings, f_codeCount, f_taskCount, f_hasRun, f_inputLeft, f_toldCount, f_lastNode, f_hasStopped, a_actKind, a_actVariable, a_actOperand, a_endKind, a_endVariable, a_endX, a_endY, a_path, a_pathSide, a_leaving, a_numberOf, a_nodeAt, a_successors, a_predecessors, a_before, a_behind, a_loop, a_liveAt, a_knownAt, a_code, a_task, a_variable, a_latestTold) → post r u) : wpX_words post (f_stale, f_seen, f_seenCount, f_isStraight, f_meetings, f_codeCount, f_taskCount, f_hasRun, f_inputLeft, f_toldCount, f_lastNode, f_hasStopped, a_actKind, a_actVariable, a_actOperand, a_endKind, a_endVariable, a_endX, a_endY, a_path, a_pathSide, a_leaving, a_numberOf, a_nodeAt, a_successors, a_predecessors, a_before, a_behind, a_loop, a_liveAt, a_knownAt, a_code, a_task, a_variable, a_latestTold) := by
  have R' := R
  obtain ⟨GE, GA, _⟩ := R
  have hx := GE.2.1
  have hy := GE.2.2.1
  unfold wpX_words
  refine gx_study R' (fun f_seen f_seenCount f_isStraight f_meetings f_codeCount f_taskCount a_path a_pathSide a_leaving a_numberOf a_nodeAt a_successors a_predecessors a_before a_behind a_loop a_liveAt a_knownAt a_code a_task V => ?_)
  have RN := gx_RX0 R' V (f_taskCount := f_taskCount) (f_hasRun := f_hasRun) (f_toldCount := f_toldCount) (f_lastNode := f_lastNode) (f_hasStopped := f_hasStopped) (f_inputLeft := f_inputLeft) (a_path := a_path) (a_pathSide := a_pathSide) (a_leaving := a_leaving) (a_task := a_task) (a_variable := a_variable) (a_latestTold := a_latestTold)
  refine br_c (fun z => h _ _ (Or.inr ⟨?_, rfl⟩) RN rfl) (fun z => h _ _ (Or.inl ⟨?_, (V.2.2.2.2.2.2.2 z).1⟩) RN rfl)
  · rcases V.2.2.2.2.1 with w | w
    · rw [w.1] at z
      exact absurd z (by decide)
    · exact w.2
  · rcases V.2.2.2.2.1 with w | w
    · exact w.2
    · exact absurd w.1 z
theorem gs_cF_len (hk : ∀ n, ek n ≤ 2) (hx : ∀ n, ex n < 16) (hy : ∀ n, ey n < 16) (hv : ∀ n, ev n < 4) : (gs_cF ek ex ey ev).1.length ≤ 158 := by
  obtain ⟨b, h⟩ := gs_ci_CS (ev := ev) hk hx hy hv 176
  rw [gs_ci_F] at h
  exact (gs_CS_len h).1
theorem gs_st_j {a : Nat → Int32} {l : List Nat} {j : Nat} (h : gs_st a l) (hj : j < l.length) : a j = nI (gs_at l (l.length - 1 - j)) := by
  have := gs_st_at l (l.length - 1 - j) h (by omega)
  rw [show l.length - 1 - (l.length - 1 - j) = j by omega] at this
  exact this
theorem gx_m_word {post : Int32 → SX → Prop} {p : Int32} (R : gx_RX ak av ac ek ev ex ey (f_stale, f_seen, f_seenCount, f_isStraight, f_meetings, f_codeCount, f_taskCount, f_hasRun, f_inputLeft, f_toldCount, f_lastNode, f_hasStopped, a_actKind, a_actVariable, a_actOperand, a_endKind, a_endVariable, a_endX, a_endY, a_path, a_pathSide, a_leaving, a_numberOf, a_nodeAt, a_successors, a_predecessors, a_before, a_behind, a_loop, a_liveAt, a_knownAt, a_code, a_task, a_variable, a_latestTold)) (h : ∀ r u, gs_Awd ek ev ex ey p r → gx_RX ak av ac ek ev ex ey u → gx_run u = gx_run (f_stale, f_seen, f_seenCount, f_isStraight, f_meetings, f_codeCount, f_taskCount, f_hasRun, f_inputLeft, f_toldCount, f_lastNode, f_hasStopped, a_actKind, a_actVariable, a_actOperand, a_endKind, a_endVariable, a_endX, a_endY, a_path, a_pathSide, a_leaving, a_numberOf, a_nodeAt, a_successors, a_predecessors, a_before, a_behind, a_loop, a_liveAt, a_knownAt, a_code, a_task, a_variable, a_latestTold) → post r u) : wpX_word post (f_stale, f_seen, f_seenCount, f_isStraight, f_meetings, f_codeCount, f_taskCount, f_hasRun, f_inputLeft, f_toldCount, f_lastNode, f_hasStopped, a_actKind, a_actVariable, a_actOperand, a_endKind, a_endVariable, a_endX, a_endY, a_path, a_pathSide, a_leaving, a_numberOf, a_nodeAt, a_successors, a_predecessors, a_before, a_behind, a_loop, a_liveAt, a_knownAt, a_code, a_task, a_variable, a_latestTold) p := by
  have R' := R
  obtain ⟨GE, GA, _⟩ := R
  have hx := GE.2.1
  have hy := GE.2.2.1
  unfold wpX_word
  have L := gs_cF_len (ev := ev) GE.1 hx hy GA.2.2.2.2.1
  refine gx_study R' (fun f_seen f_seenCount f_isStraight f_meetings f_codeCount f_taskCount a_path a_pathSide a_leaving a_numberOf a_nodeAt a_successors a_predecessors a_before a_behind a_loop a_liveAt a_knownAt a_code a_task V => ?_)
  have RN := gx_RX0 R' V (f_taskCount := f_taskCount) (f_hasRun := f_hasRun) (f_toldCount := f_toldCount) (f_lastNode := f_lastNode) (f_hasStopped := f_hasStopped) (f_inputLeft := f_inputLeft) (a_path := a_path) (a_pathSide := a_pathSide) (a_leaving := a_leaving) (a_task := a_task) (a_variable := a_variable) (a_latestTold := a_latestTold)
  refine br_c (fun z => h _ _ (Or.inr ⟨Or.inl ?_, rfl⟩) RN rfl) (fun z => ?_)
  · rcases V.2.2.2.2.1 with w | w
    · rw [w.1] at z
      exact absurd z (by decide)
    · exact w.2
  · have hc := V.2.2.2.2.2.2.2 z
    have hst : gs_strt ek ex ey := by
      rcases V.2.2.2.2.1 with w | w
      · exact w.2
      · exact absurd w.1 z
    refine br_c (fun y => h _ _ (Or.inr ⟨Or.inr (fun j hj e => ?_), rfl⟩) RN rfl) (fun y => ?_)
    · subst e
      exact nI_pos (by omega) y
    · obtain ⟨j, hj, rfl⟩ := nI_of y
      refine pk_le (gs_cF ek ex ey ev).1.length j (fun w => h _ _ (Or.inr ⟨Or.inr (fun i hi e => ?_), rfl⟩) RN rfl) (fun w => ⟨vp_in_nI (by omega) (by decide), ?_⟩) hc.1
      · have := (nI_eq hj (by omega)).mp e
        omega
      · rw [nI_clamp hj]
        exact h _ _ (Or.inl ⟨hst, j, w, rfl, gs_st_j hc.2 w⟩) RN rfl
end
