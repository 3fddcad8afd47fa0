/-! X: the questions -/
noncomputable def gs_mk1 (P : Nat → Prop) : Nat → Int32
  | 0 => 0
  | n + 1 => if gs_B (P n) = true then gs_mk1 P n ||| ((1 : Int32) <<< (nI n &&& 31)) else gs_mk1 P n
noncomputable def gs_mkm (P : Nat → Prop) : Int32 := gs_mk1 P 16
theorem gs_mk1_ok (P : Nat → Prop) : ∀ n, n ≤ 16 → gs_Mk (gs_mk1 P n) (fun i => i < n ∧ P i)
  | 0, _ => gs_Mk_0 (fun i _ z => absurd z.1 (Nat.not_lt_zero i))
  | n + 1, h => by
    have ih := gs_mk1_ok P n (by omega)
    unfold gs_mk1
    by_cases z : gs_B (P n) = true
    · rw [if_pos z]
      apply gs_Mk_iff (gs_Mk_set ih (by omega : n < 16))
      intro i _
      constructor
      · rintro (q | rfl)
        · exact ⟨by omega, q.2⟩
        · exact ⟨by omega, gs_B_t.mp z⟩
      · rintro ⟨q1, q2⟩
        by_cases e : i = n
        · exact Or.inr e
        · exact Or.inl ⟨by omega, q2⟩
    · rw [if_neg z]
      apply gs_Mk_iff ih
      intro i _
      constructor
      · exact fun q => ⟨by omega, q.2⟩
      · rintro ⟨q1, q2⟩
        by_cases e : i = n
        · exact absurd (gs_B_t.mpr (e ▸ q2)) z
        · exact ⟨by omega, q2⟩
theorem gs_mkm_ok (P : Nat → Prop) : gs_Mk (gs_mkm P) P := gs_Mk_iff (gs_mk1_ok P 16 (Nat.le_refl _)) (fun i hi => ⟨fun z => z.2, fun z => ⟨hi, z⟩⟩)
noncomputable def gs_cnt (P : Nat → Prop) (k : Nat) : Nat := gs_cn (fun i => gs_B (P i)) k
theorem gs_cnt_le (P : Nat → Prop) (k : Nat) : gs_cnt P k ≤ k := gs_cn_le _ k
theorem gs_cnt_t {P : Nat → Prop} {k : Nat} (h : P k) : gs_cnt P (k + 1) = gs_cnt P k + 1 := by
  show gs_cn (fun i => gs_B (P i)) k + (if gs_B (P k) = true then 1 else 0) = _
  rw [if_pos (gs_B_t.mpr h)]
  rfl
theorem gs_cnt_f {P : Nat → Prop} {k : Nat} (h : ¬ P k) : gs_cnt P (k + 1) = gs_cnt P k := by
  show gs_cn (fun i => gs_B (P i)) k + (if gs_B (P k) = true then 1 else 0) = _
  rw [if_neg (fun z => h (gs_B_t.mp z))]
  rfl
section
variable (ak av ac ek ev ex ey : Nat → Nat)
/-- the head of the least loop among those below h -/
noncomputable def gs_hf (n : Nat) : Nat → Int32 × Nat
  | 0 => (-1, 17)
  | h + 1 => if gs_B (gs_lp ek ex ey h n ∧ gs_cnt (gs_lp ek ex ey h) 16 < (gs_hf n h).2) = true then (nI h, gs_cnt (gs_lp ek ex ey h) 16) else gs_hf n h
def gs_chg (v n : Nat) : Prop := gs_sn ek ex ey n = true ∧ (ak n = 1 ∨ ak n = 2 ∨ ak n = 3 ∨ ak n = 5) ∧ av n = v
def gs_mg (v : Nat) : Nat → Prop := gs_cl (fun k => ∃ n, (n = 0 ∨ gs_chg ak av ek ex ey v n) ∧ gs_edge ek ex ey n k) (fun j k => gs_edge ek ex ey j k)
def gs_Qset (w : Int32) (n : Nat) (r : Int32) : Prop := (w = 0 ∧ gs_Mk r (gs_edge ek ex ey n)) ∨ (w = 1 ∧ gs_Mk r (gs_rul ek ex ey n)) ∨ (w = 2 ∧ gs_Mk r (gs_lp ek ex ey n)) ∨ ((w ≠ 0 ∧ w ≠ 1 ∧ w ≠ 2) ∧ r = -1)
def gs_Amg (p r : Int32) : Prop := (∃ v, v < 4 ∧ p = nI v ∧ gs_Mk r (gs_mg ak av ek ex ey v)) ∨ ((∀ v, v < 4 → p ≠ nI v) ∧ r = -1)
def gs_Akn (p q r : Int32) : Prop := (∃ n v, n < 16 ∧ v < 4 ∧ p = nI n ∧ q = nI v ∧ r = gs_kd (gs_kF ak av ac ek ev ex ey (4 * n + v))) ∨ (((∀ n, n < 16 → p ≠ nI n) ∨ (∀ v, v < 4 → q ≠ nI v)) ∧ r = -1)
def gs_Aws (r : Int32) : Prop := (gs_strt ek ex ey ∧ r = nI (gs_cF ek ex ey ev).1.length) ∨ (¬ gs_strt ek ex ey ∧ r = -1)
def gs_Awd (p r : Int32) : Prop := (gs_strt ek ex ey ∧ ∃ j, j < (gs_cF ek ex ey ev).1.length ∧ p = nI j ∧ r = nI (gs_at (gs_cF ek ex ey ev).1 ((gs_cF ek ex ey ev).1.length - 1 - j))) ∨ ((¬ gs_strt ek ex ey ∨ ∀ j, j < (gs_cF ek ex ey ev).1.length → p ≠ nI j) ∧ r = -1)
end
section
variable {f_stale f_seen f_seenCount f_isStraight f_meetings f_codeCount f_taskCount f_hasRun f_toldCount f_lastNode f_hasStopped : Int32} {f_inputLeft : Int64} {a_actKind a_actVariable a_actOperand a_endKind a_endVariable a_endX a_endY a_path a_pathSide a_leaving a_numberOf a_nodeAt a_successors a_predecessors a_before a_behind a_loop a_liveAt a_knownAt a_code a_task a_variable a_latestTold : Nat → Int32} {ek ex ey ak av ac ev : Nat → Nat}
theorem gx_edgeOf {post : Int32 → Prop} {n : Nat} (hn : n < 16) (hb : ∀ n, n < 16 → gs_Mk (a_before n) (fun d => gs_bf ek ex ey d n)) (LK : gx_LK ek ex ey a_successors a_predecessors) (h : ∀ r, gs_Mk r (gs_edge ek ex ey n) → post r) : wpX_edgeOf post (f_stale, f_seen, f_seenCount, f_isStraight, f_meetings, f_codeCount, f_taskCount, f_hasRun, f_inputLeft, f_toldCount, f_lastNode, f_hasStopped, a_actKind, a_actVariable, a_actOperand, a_endKind, a_endVariable, a_endX, a_endY, a_path, a_pathSide, a_leaving, a_numberOf, a_nodeAt, a_successors, a_predecessors, a_before, a_behind, a_loop, a_liveAt, a_knownAt, a_code, a_task, a_variable, a_latestTold) (nI n) :=
  gx_border_before hn hb LK.2 (fun r hr => h r (gs_Mk_iff hr (fun i _ => and_congr Iff.rfl ⟨fun ⟨p, h1, h2, h3⟩ => ⟨p, h1, h2.1, h2.2, h3⟩, fun ⟨p, h1, h2, h3, h4⟩ => ⟨p, h1, ⟨h2, h3⟩, h4⟩⟩)))
theorem gx_rulers {post : Int32 → Prop} {n : Nat} (hn : n < 16) (hb : ∀ n, n < 16 → gs_Mk (a_behind n) (fun d => gs_bh ek ex ey d n)) (LK : gx_LK ek ex ey a_successors a_predecessors) (h : ∀ r, gs_Mk r (gs_rul ek ex ey n) → post r) : wpX_border__behind_successors post (f_stale, f_seen, f_seenCount, f_isStraight, f_meetings, f_codeCount, f_taskCount, f_hasRun, f_inputLeft, f_toldCount, f_lastNode, f_hasStopped, a_actKind, a_actVariable, a_actOperand, a_endKind, a_endVariable, a_endX, a_endY, a_path, a_pathSide, a_leaving, a_numberOf, a_nodeAt, a_successors, a_predecessors, a_before, a_behind, a_loop, a_liveAt, a_knownAt, a_code, a_task, a_variable, a_latestTold) (nI n) :=
  gx_border_behind hn hb LK.1 (fun r hr => h r (gs_Mk_iff hr (fun i _ => and_congr Iff.rfl ⟨fun ⟨p, h1, h2, h3⟩ => ⟨p, h1, h2.1, h2.2, h3⟩, fun ⟨p, h1, h2, h3, h4⟩ => ⟨p, h1, ⟨h2, h3⟩, h4⟩⟩)))
theorem gx_number_1 {post : Int32 → SX → Prop} {n : Nat} {u : SX} (hx : ∀ n, ex n < 16) (hy : ∀ n, ey n < 16) (V : gx_VX ak av ac ek ev ex ey f_seen f_seenCount f_isStraight f_meetings f_codeCount a_numberOf a_nodeAt a_successors a_predecessors a_before a_behind a_loop a_liveAt a_knownAt a_code) (n16 : n < 16) (hn : gs_sn ek ex ey n = true) (done : ∀ r, r = nI (gs_nu ek ex ey n) → post r u) : vp_in (nI n) 16 ∧ post (a_numberOf (nI n).toNatClampNeg) u :=
  ⟨gx_in n16, done _ (by rw [gx_cl n16]; exact V.2.1.2.2.1 n hn)⟩
theorem gx_live_1 {post : Int32 → SX → Prop} {n : Nat} {u : SX} (hx : ∀ n, ex n < 16) (hy : ∀ n, ey n < 16) (V : gx_VX ak av ac ek ev ex ey f_seen f_seenCount f_isStraight f_meetings f_codeCount a_numberOf a_nodeAt a_successors a_predecessors a_before a_behind a_loop a_liveAt a_knownAt a_code) (n16 : n < 16) (hn : gs_sn ek ex ey n = true) (done : ∀ r, gs_Mk r (fun v => gs_liv ak av ac ek ev ex ey v n) → post r u) : vp_in (nI n) 16 ∧ post (a_liveAt (nI n).toNatClampNeg) u :=
  ⟨gx_in n16, done _ (by rw [gx_cl n16]; exact V.2.2.2.2.2.1 n hn)⟩
theorem gx_chief_1 {post : Int32 → SX → Prop} {n : Nat} {u : SX} (hx : ∀ n, ex n < 16) (hy : ∀ n, ey n < 16) (V : gx_VX ak av ac ek ev ex ey f_seen f_seenCount f_isStraight f_meetings f_codeCount a_numberOf a_nodeAt a_successors a_predecessors a_before a_behind a_loop a_liveAt a_knownAt a_code) (n16 : n < 16) (hn : gs_sn ek ex ey n = true) (done : ∀ r, gs_Fst r (gs_near (gs_bf ek ex ey) n) → post r u) : wpX_nearest__before (fun r => post r u) (f_stale, f_seen, f_seenCount, f_isStraight, f_meetings, f_codeCount, f_taskCount, f_hasRun, f_inputLeft, f_toldCount, f_lastNode, f_hasStopped, a_actKind, a_actVariable, a_actOperand, a_endKind, a_endVariable, a_endX, a_endY, a_path, a_pathSide, a_leaving, a_numberOf, a_nodeAt, a_successors, a_predecessors, a_before, a_behind, a_loop, a_liveAt, a_knownAt, a_code, a_task, a_variable, a_latestTold) (nI n) :=
  gx_near_before n16 V.2.1.2.2.2.2.1 done
theorem gx_tail_1 {post : Int32 → SX → Prop} {n : Nat} {u : SX} (hx : ∀ n, ex n < 16) (hy : ∀ n, ey n < 16) (V : gx_VX ak av ac ek ev ex ey f_seen f_seenCount f_isStraight f_meetings f_codeCount a_numberOf a_nodeAt a_successors a_predecessors a_before a_behind a_loop a_liveAt a_knownAt a_code) (n16 : n < 16) (hn : gs_sn ek ex ey n = true) (done : ∀ r, gs_Fst r (gs_near (gs_bh ek ex ey) n) → post r u) : wpX_nearest__behind (fun r => post r u) (f_stale, f_seen, f_seenCount, f_isStraight, f_meetings, f_codeCount, f_taskCount, f_hasRun, f_inputLeft, f_toldCount, f_lastNode, f_hasStopped, a_actKind, a_actVariable, a_actOperand, a_endKind, a_endVariable, a_endX, a_endY, a_path, a_pathSide, a_leaving, a_numberOf, a_nodeAt, a_successors, a_predecessors, a_before, a_behind, a_loop, a_liveAt, a_knownAt, a_code, a_task, a_variable, a_latestTold) (nI n) :=
  gx_near_behind n16 V.2.2.2.1 done
theorem gx_depth_1 {post : Int32 → SX → Prop} {n : Nat} (hx : ∀ n, ex n < 16) (hy : ∀ n, ey n < 16) (V : gx_VX ak av ac ek ev ex ey f_seen f_seenCount f_isStraight f_meetings f_codeCount a_numberOf a_nodeAt a_successors a_predecessors a_before a_behind a_loop a_liveAt a_knownAt a_code) (n16 : n < 16) (hn : gs_sn ek ex ey n = true) (done : ∀ r, r = nI (gs_cnt (fun h => gs_lp ek ex ey h n) 16) → post r (f_stale, f_seen, f_seenCount, f_isStraight, f_meetings, f_codeCount, f_taskCount, f_hasRun, f_inputLeft, f_toldCount, f_lastNode, f_hasStopped, a_actKind, a_actVariable, a_actOperand, a_endKind, a_endVariable, a_endX, a_endY, a_path, a_pathSide, a_leaving, a_numberOf, a_nodeAt, a_successors, a_predecessors, a_before, a_behind, a_loop, a_liveAt, a_knownAt, a_code, a_task, a_variable, a_latestTold)) : ∃ m, wX_depth_18 post (nI n) f_stale f_seen f_seenCount f_isStraight f_meetings f_codeCount f_taskCount f_hasRun f_inputLeft f_toldCount f_lastNode f_hasStopped a_actKind a_actVariable a_actOperand a_endKind a_endVariable a_endX a_endY a_path a_pathSide a_leaving a_numberOf a_nodeAt a_successors a_predecessors a_before a_behind a_loop a_liveAt a_knownAt a_code a_task a_variable a_latestTold m 0 0 := by
  refine pk_loop (fun m i s => wX_depth_18 post (nI n) f_stale f_seen f_seenCount f_isStraight f_meetings f_codeCount f_taskCount f_hasRun f_inputLeft f_toldCount f_lastNode f_hasStopped a_actKind a_actVariable a_actOperand a_endKind a_endVariable a_endX a_endY a_path a_pathSide a_leaving a_numberOf a_nodeAt a_successors a_predecessors a_before a_behind a_loop a_liveAt a_knownAt a_code a_task a_variable a_latestTold m s (nI i)) (fun i s => s = nI (gs_cnt (fun h => gs_lp ek ex ey h n) i)) 16 0 0 (by omega) rfl ?_ ?_
  · rintro m s hs
    exact br_t gx_x16 (done s hs)
  · rintro m i s hi rfl ih
    refine br_f (gx_16 hi) ⟨gx_in hi, gx_hma V.2.1.2.2.2.2.2 hi n16 (fun q => nm_r (nI_1 _) (nm_r (nI_1 i) (ih _ ?_))) (fun q => nm_r (nI_1 i) (ih _ ?_))⟩
    · rw [gs_cnt_t (P := fun h => gs_lp ek ex ey h n) q]
    · rw [gs_cnt_f (P := fun h => gs_lp ek ex ey h n) q]
theorem gx_sizeOf {post : Int32 → Prop} {a : Int32} {P : Nat → Prop} (hM : gs_Mk a P) (h : post (nI (gs_cnt P 16))) : wpX_sizeOf post a := by
  refine pk_loop (fun m i s => wX_sizeOf_4 post a m s (nI i)) (fun i s => s = nI (gs_cnt P i)) 16 0 0 (by omega) rfl ?_ ?_
  · rintro m s rfl
    exact br_t gx_x16 h
  · rintro m i s hi rfl ih
    refine br_f (gx_16 hi) (gx_hm hM hi (fun q => nm_r (nI_1 _) (nm_r (nI_1 i) (ih _ ?_))) (fun q => nm_r (nI_1 i) (ih _ ?_)))
    · rw [gs_cnt_t q]
    · rw [gs_cnt_f q]
theorem gs_hf_le (n : Nat) : ∀ h, (gs_hf ek ex ey n h).2 ≤ 17
  | 0 => Nat.le_refl 17
  | h + 1 => by
    have ih := gs_hf_le n h
    have c := gs_cnt_le (gs_lp ek ex ey h) 16
    unfold gs_hf
    split
    · show gs_cnt (gs_lp ek ex ey h) 16 ≤ 17
      omega
    · exact ih
theorem gx_head_1 {post : Int32 → SX → Prop} {n : Nat} (hx : ∀ n, ex n < 16) (hy : ∀ n, ey n < 16) (V : gx_VX ak av ac ek ev ex ey f_seen f_seenCount f_isStraight f_meetings f_codeCount a_numberOf a_nodeAt a_successors a_predecessors a_before a_behind a_loop a_liveAt a_knownAt a_code) (n16 : n < 16) (hn : gs_sn ek ex ey n = true) (done : ∀ r, r = (gs_hf ek ex ey n 16).1 → post r (f_stale, f_seen, f_seenCount, f_isStraight, f_meetings, f_codeCount, f_taskCount, f_hasRun, f_inputLeft, f_toldCount, f_lastNode, f_hasStopped, a_actKind, a_actVariable, a_actOperand, a_endKind, a_endVariable, a_endX, a_endY, a_path, a_pathSide, a_leaving, a_numberOf, a_nodeAt, a_successors, a_predecessors, a_before, a_behind, a_loop, a_liveAt, a_knownAt, a_code, a_task, a_variable, a_latestTold)) : ∃ m, wX_head_22 post (nI n) f_stale f_seen f_seenCount f_isStraight f_meetings f_codeCount f_taskCount f_hasRun f_inputLeft f_toldCount f_lastNode f_hasStopped a_actKind a_actVariable a_actOperand a_endKind a_endVariable a_endX a_endY a_path a_pathSide a_leaving a_numberOf a_nodeAt a_successors a_predecessors a_before a_behind a_loop a_liveAt a_knownAt a_code a_task a_variable a_latestTold m (-1) 17 0 := by
  refine pk_loop (fun m i (s : Int32 × Int32) => wX_head_22 post (nI n) f_stale f_seen f_seenCount f_isStraight f_meetings f_codeCount f_taskCount f_hasRun f_inputLeft f_toldCount f_lastNode f_hasStopped a_actKind a_actVariable a_actOperand a_endKind a_endVariable a_endX a_endY a_path a_pathSide a_leaving a_numberOf a_nodeAt a_successors a_predecessors a_before a_behind a_loop a_liveAt a_knownAt a_code a_task a_variable a_latestTold m s.1 s.2 (nI i)) (fun i s => s.1 = (gs_hf ek ex ey n i).1 ∧ s.2 = nI (gs_hf ek ex ey n i).2) 16 0 (-1, 17) (by omega) ⟨rfl, rfl⟩ ?_ ?_
  · rintro m s hs
    exact br_t gx_x16 (done _ hs.1)
  · rintro m i ⟨s1, s2⟩ hi ⟨h1, h2⟩ ih
    dsimp only at h1 h2
    subst h1 h2
    have c := gs_cnt_le (gs_lp ek ex ey i) 16
    have l := gs_hf_le (ek := ek) (ex := ex) (ey := ey) n i
    refine br_f (gx_16 hi) ⟨gx_in hi, gx_sizeOf (P := gs_lp ek ex ey i) (by rw [gx_cl hi]; exact V.2.1.2.2.2.2.2 i hi) ⟨gx_in hi, gx_hma V.2.1.2.2.2.2.2 hi n16 (fun q => pk_le (gs_hf ek ex ey n i).2 (gs_cnt (gs_lp ek ex ey i) 16) (fun w => nm_r (nI_1 i) (ih _ ?_)) (fun w => nm_r (nI_1 i) (ih (nI i, nI (gs_cnt (gs_lp ek ex ey i) 16)) ?_))) (fun q => nm_r (nI_1 i) (ih _ ?_))⟩⟩
    · have e : gs_hf ek ex ey n (i + 1) = gs_hf ek ex ey n i := if_neg (fun z => by have := (gs_B_t.mp z).2; omega)
      rw [e]
      exact ⟨rfl, rfl⟩
    · have e : gs_hf ek ex ey n (i + 1) = (nI i, gs_cnt (gs_lp ek ex ey i) 16) := if_pos (gs_B_t.mpr ⟨q, w⟩)
      rw [e]
      exact ⟨rfl, rfl⟩
    · have e : gs_hf ek ex ey n (i + 1) = gs_hf ek ex ey n i := if_neg (fun z => q (gs_B_t.mp z).1)
      rw [e]
      exact ⟨rfl, rfl⟩
theorem gx_m_number {post : Int32 → SX → Prop} {p : Int32} (R : gx_RX ak av ac ek ev ex ey (f_stale, f_seen, f_seenCount, f_isStraight, f_meetings, f_codeCount, f_taskCount, f_hasRun, f_inputLeft, f_toldCount, f_lastNode, f_hasStopped, a_actKind, a_actVariable, a_actOperand, a_endKind, a_endVariable, a_endX, a_endY, a_path, a_pathSide, a_leaving, a_numberOf, a_nodeAt, a_successors, a_predecessors, a_before, a_behind, a_loop, a_liveAt, a_knownAt, a_code, a_task, a_variable, a_latestTold)) (h : ∀ r u, gs_Q ek ex ey (fun n r => r = nI (gs_nu ek ex ey n)) p r → gx_RX ak av ac ek ev ex ey u → gx_run u = gx_run (f_stale, f_seen, f_seenCount, f_isStraight, f_meetings, f_codeCount, f_taskCount, f_hasRun, f_inputLeft, f_toldCount, f_lastNode, f_hasStopped, a_actKind, a_actVariable, a_actOperand, a_endKind, a_endVariable, a_endX, a_endY, a_path, a_pathSide, a_leaving, a_numberOf, a_nodeAt, a_successors, a_predecessors, a_before, a_behind, a_loop, a_liveAt, a_knownAt, a_code, a_task, a_variable, a_latestTold) → post r u) : wpX_number post (f_stale, f_seen, f_seenCount, f_isStraight, f_meetings, f_codeCount, f_taskCount, f_hasRun, f_inputLeft, f_toldCount, f_lastNode, f_hasStopped, a_actKind, a_actVariable, a_actOperand, a_endKind, a_endVariable, a_endX, a_endY, a_path, a_pathSide, a_leaving, a_numberOf, a_nodeAt, a_successors, a_predecessors, a_before, a_behind, a_loop, a_liveAt, a_knownAt, a_code, a_task, a_variable, a_latestTold) p := by
  have R' := R
  obtain ⟨GE, GA, _⟩ := R
  have hx := GE.2.1
  have hy := GE.2.2.1
  unfold wpX_number
  refine gx_study R' (fun f_seen f_seenCount f_isStraight f_meetings f_codeCount f_taskCount a_path a_pathSide a_leaving a_numberOf a_nodeAt a_successors a_predecessors a_before a_behind a_loop a_liveAt a_knownAt a_code a_task V => ?_)
  have RN := gx_RX0 R' V (f_taskCount := f_taskCount) (f_hasRun := f_hasRun) (f_toldCount := f_toldCount) (f_lastNode := f_lastNode) (f_hasStopped := f_hasStopped) (f_inputLeft := f_inputLeft) (a_path := a_path) (a_pathSide := a_pathSide) (a_leaving := a_leaving) (a_task := a_task) (a_variable := a_variable) (a_latestTold := a_latestTold)
  refine gx_isSeen hx hy V.1 (fun n hn e => ?_) (fun q => h _ _ (Or.inr ⟨q, rfl⟩) RN rfl)
  subst e
  have n16 := gs_sn_lt hx hy hn
  have done : ∀ r, (fun n r => r = nI (gs_nu ek ex ey n)) n r → post r (0, f_seen, f_seenCount, f_isStraight, f_meetings, f_codeCount, f_taskCount, f_hasRun, f_inputLeft, f_toldCount, f_lastNode, f_hasStopped, a_actKind, a_actVariable, a_actOperand, a_endKind, a_endVariable, a_endX, a_endY, a_path, a_pathSide, a_leaving, a_numberOf, a_nodeAt, a_successors, a_predecessors, a_before, a_behind, a_loop, a_liveAt, a_knownAt, a_code, a_task, a_variable, a_latestTold) := fun r hr => h r _ (Or.inl ⟨n, hn, rfl, hr⟩) RN rfl
  exact gx_number_1 hx hy V n16 hn done
theorem gx_m_chief {post : Int32 → SX → Prop} {p : Int32} (R : gx_RX ak av ac ek ev ex ey (f_stale, f_seen, f_seenCount, f_isStraight, f_meetings, f_codeCount, f_taskCount, f_hasRun, f_inputLeft, f_toldCount, f_lastNode, f_hasStopped, a_actKind, a_actVariable, a_actOperand, a_endKind, a_endVariable, a_endX, a_endY, a_path, a_pathSide, a_leaving, a_numberOf, a_nodeAt, a_successors, a_predecessors, a_before, a_behind, a_loop, a_liveAt, a_knownAt, a_code, a_task, a_variable, a_latestTold)) (h : ∀ r u, gs_Q ek ex ey (fun n r => gs_Fst r (gs_near (gs_bf ek ex ey) n)) p r → gx_RX ak av ac ek ev ex ey u → gx_run u = gx_run (f_stale, f_seen, f_seenCount, f_isStraight, f_meetings, f_codeCount, f_taskCount, f_hasRun, f_inputLeft, f_toldCount, f_lastNode, f_hasStopped, a_actKind, a_actVariable, a_actOperand, a_endKind, a_endVariable, a_endX, a_endY, a_path, a_pathSide, a_leaving, a_numberOf, a_nodeAt, a_successors, a_predecessors, a_before, a_behind, a_loop, a_liveAt, a_knownAt, a_code, a_task, a_variable, a_latestTold) → post r u) : wpX_chief post (f_stale, f_seen, f_seenCount, f_isStraight, f_meetings, f_codeCount, f_taskCount, f_hasRun, f_inputLeft, f_toldCount, f_lastNode, f_hasStopped, a_actKind, a_actVariable, a_actOperand, a_endKind, a_endVariable, a_endX, a_endY, a_path, a_pathSide, a_leaving, a_numberOf, a_nodeAt, a_successors, a_predecessors, a_before, a_behind, a_loop, a_liveAt, a_knownAt, a_code, a_task, a_variable, a_latestTold) p := by
  have R' := R
  obtain ⟨GE, GA, _⟩ := R
  have hx := GE.2.1
  have hy := GE.2.2.1
  unfold wpX_chief
  refine gx_study R' (fun f_seen f_seenCount f_isStraight f_meetings f_codeCount f_taskCount a_path a_pathSide a_leaving a_numberOf a_nodeAt a_successors a_predecessors a_before a_behind a_loop a_liveAt a_knownAt a_code a_task V => ?_)
  have RN := gx_RX0 R' V (f_taskCount := f_taskCount) (f_hasRun := f_hasRun) (f_toldCount := f_toldCount) (f_lastNode := f_lastNode) (f_hasStopped := f_hasStopped) (f_inputLeft := f_inputLeft) (a_path := a_path) (a_pathSide := a_pathSide) (a_leaving := a_leaving) (a_task := a_task) (a_variable := a_variable) (a_latestTold := a_latestTold)
  refine gx_isSeen hx hy V.1 (fun n hn e => ?_) (fun q => h _ _ (Or.inr ⟨q, rfl⟩) RN rfl)
  subst e
  have n16 := gs_sn_lt hx hy hn
  have done : ∀ r, (fun n r => gs_Fst r (gs_near (gs_bf ek ex ey) n)) n r → post r (0, f_seen, f_seenCount, f_isStraight, f_meetings, f_codeCount, f_taskCount, f_hasRun, f_inputLeft, f_toldCount, f_lastNode, f_hasStopped, a_actKind, a_actVariable, a_actOperand, a_endKind, a_endVariable, a_endX, a_endY, a_path, a_pathSide, a_leaving, a_numberOf, a_nodeAt, a_successors, a_predecessors, a_before, a_behind, a_loop, a_liveAt, a_knownAt, a_code, a_task, a_variable, a_latestTold) := fun r hr => h r _ (Or.inl ⟨n, hn, rfl, hr⟩) RN rfl
  exact gx_chief_1 hx hy V n16 hn done
theorem gx_m_tail {post : Int32 → SX → Prop} {p : Int32} (R : gx_RX ak av ac ek ev ex ey (f_stale, f_seen, f_seenCount, f_isStraight, f_meetings, f_codeCount, f_taskCount, f_hasRun, f_inputLeft, f_toldCount, f_lastNode, f_hasStopped, a_actKind, a_actVariable, a_actOperand, a_endKind, a_endVariable, a_endX, a_endY, a_path, a_pathSide, a_leaving, a_numberOf, a_nodeAt, a_successors, a_predecessors, a_before, a_behind, a_loop, a_liveAt, a_knownAt, a_code, a_task, a_variable, a_latestTold)) (h : ∀ r u, gs_Q ek ex ey (fun n r => gs_Fst r (gs_near (gs_bh ek ex ey) n)) p r → gx_RX ak av ac ek ev ex ey u → gx_run u = gx_run (f_stale, f_seen, f_seenCount, f_isStraight, f_meetings, f_codeCount, f_taskCount, f_hasRun, f_inputLeft, f_toldCount, f_lastNode, f_hasStopped, a_actKind, a_actVariable, a_actOperand, a_endKind, a_endVariable, a_endX, a_endY, a_path, a_pathSide, a_leaving, a_numberOf, a_nodeAt, a_successors, a_predecessors, a_before, a_behind, a_loop, a_liveAt, a_knownAt, a_code, a_task, a_variable, a_latestTold) → post r u) : wpX_tail post (f_stale, f_seen, f_seenCount, f_isStraight, f_meetings, f_codeCount, f_taskCount, f_hasRun, f_inputLeft, f_toldCount, f_lastNode, f_hasStopped, a_actKind, a_actVariable, a_actOperand, a_endKind, a_endVariable, a_endX, a_endY, a_path, a_pathSide, a_leaving, a_numberOf, a_nodeAt, a_successors, a_predecessors, a_before, a_behind, a_loop, a_liveAt, a_knownAt, a_code, a_task, a_variable, a_latestTold) p := by
  have R' := R
  obtain ⟨GE, GA, _⟩ := R
  have hx := GE.2.1
  have hy := GE.2.2.1
  unfold wpX_tail
  refine gx_study R' (fun f_seen f_seenCount f_isStraight f_meetings f_codeCount f_taskCount a_path a_pathSide a_leaving a_numberOf a_nodeAt a_successors a_predecessors a_before a_behind a_loop a_liveAt a_knownAt a_code a_task V => ?_)
  have RN := gx_RX0 R' V (f_taskCount := f_taskCount) (f_hasRun := f_hasRun) (f_toldCount := f_toldCount) (f_lastNode := f_lastNode) (f_hasStopped := f_hasStopped) (f_inputLeft := f_inputLeft) (a_path := a_path) (a_pathSide := a_pathSide) (a_leaving := a_leaving) (a_task := a_task) (a_variable := a_variable) (a_latestTold := a_latestTold)
  refine gx_isSeen hx hy V.1 (fun n hn e => ?_) (fun q => h _ _ (Or.inr ⟨q, rfl⟩) RN rfl)
  subst e
  have n16 := gs_sn_lt hx hy hn
  have done : ∀ r, (fun n r => gs_Fst r (gs_near (gs_bh ek ex ey) n)) n r → post r (0, f_seen, f_seenCount, f_isStraight, f_meetings, f_codeCount, f_taskCount, f_hasRun, f_inputLeft, f_toldCount, f_lastNode, f_hasStopped, a_actKind, a_actVariable, a_actOperand, a_endKind, a_endVariable, a_endX, a_endY, a_path, a_pathSide, a_leaving, a_numberOf, a_nodeAt, a_successors, a_predecessors, a_before, a_behind, a_loop, a_liveAt, a_knownAt, a_code, a_task, a_variable, a_latestTold) := fun r hr => h r _ (Or.inl ⟨n, hn, rfl, hr⟩) RN rfl
  exact gx_tail_1 hx hy V n16 hn done
theorem gx_m_live {post : Int32 → SX → Prop} {p : Int32} (R : gx_RX ak av ac ek ev ex ey (f_stale, f_seen, f_seenCount, f_isStraight, f_meetings, f_codeCount, f_taskCount, f_hasRun, f_inputLeft, f_toldCount, f_lastNode, f_hasStopped, a_actKind, a_actVariable, a_actOperand, a_endKind, a_endVariable, a_endX, a_endY, a_path, a_pathSide, a_leaving, a_numberOf, a_nodeAt, a_successors, a_predecessors, a_before, a_behind, a_loop, a_liveAt, a_knownAt, a_code, a_task, a_variable, a_latestTold)) (h : ∀ r u, gs_Q ek ex ey (fun n r => gs_Mk r (fun v => gs_liv ak av ac ek ev ex ey v n)) p r → gx_RX ak av ac ek ev ex ey u → gx_run u = gx_run (f_stale, f_seen, f_seenCount, f_isStraight, f_meetings, f_codeCount, f_taskCount, f_hasRun, f_inputLeft, f_toldCount, f_lastNode, f_hasStopped, a_actKind, a_actVariable, a_actOperand, a_endKind, a_endVariable, a_endX, a_endY, a_path, a_pathSide, a_leaving, a_numberOf, a_nodeAt, a_successors, a_predecessors, a_before, a_behind, a_loop, a_liveAt, a_knownAt, a_code, a_task, a_variable, a_latestTold) → post r u) : wpX_live post (f_stale, f_seen, f_seenCount, f_isStraight, f_meetings, f_codeCount, f_taskCount, f_hasRun, f_inputLeft, f_toldCount, f_lastNode, f_hasStopped, a_actKind, a_actVariable, a_actOperand, a_endKind, a_endVariable, a_endX, a_endY, a_path, a_pathSide, a_leaving, a_numberOf, a_nodeAt, a_successors, a_predecessors, a_before, a_behind, a_loop, a_liveAt, a_knownAt, a_code, a_task, a_variable, a_latestTold) p := by
  have R' := R
  obtain ⟨GE, GA, _⟩ := R
  have hx := GE.2.1
  have hy := GE.2.2.1
  unfold wpX_live
  refine gx_study R' (fun f_seen f_seenCount f_isStraight f_meetings f_codeCount f_taskCount a_path a_pathSide a_leaving a_numberOf a_nodeAt a_successors a_predecessors a_before a_behind a_loop a_liveAt a_knownAt a_code a_task V => ?_)
  have RN := gx_RX0 R' V (f_taskCount := f_taskCount) (f_hasRun := f_hasRun) (f_toldCount := f_toldCount) (f_lastNode := f_lastNode) (f_hasStopped := f_hasStopped) (f_inputLeft := f_inputLeft) (a_path := a_path) (a_pathSide := a_pathSide) (a_leaving := a_leaving) (a_task := a_task) (a_variable := a_variable) (a_latestTold := a_latestTold)
  refine gx_isSeen hx hy V.1 (fun n hn e => ?_) (fun q => h _ _ (Or.inr ⟨q, rfl⟩) RN rfl)
  subst e
  have n16 := gs_sn_lt hx hy hn
  have done : ∀ r, (fun n r => gs_Mk r (fun v => gs_liv ak av ac ek ev ex ey v n)) n r → post r (0, f_seen, f_seenCount, f_isStraight, f_meetings, f_codeCount, f_taskCount, f_hasRun, f_inputLeft, f_toldCount, f_lastNode, f_hasStopped, a_actKind, a_actVariable, a_actOperand, a_endKind, a_endVariable, a_endX, a_endY, a_path, a_pathSide, a_leaving, a_numberOf, a_nodeAt, a_successors, a_predecessors, a_before, a_behind, a_loop, a_liveAt, a_knownAt, a_code, a_task, a_variable, a_latestTold) := fun r hr => h r _ (Or.inl ⟨n, hn, rfl, hr⟩) RN rfl
  exact gx_live_1 hx hy V n16 hn done
theorem gx_m_depth {post : Int32 → SX → Prop} {p : Int32} (R : gx_RX ak av ac ek ev ex ey (f_stale, f_seen, f_seenCount, f_isStraight, f_meetings, f_codeCount, f_taskCount, f_hasRun, f_inputLeft, f_toldCount, f_lastNode, f_hasStopped, a_actKind, a_actVariable, a_actOperand, a_endKind, a_endVariable, a_endX, a_endY, a_path, a_pathSide, a_leaving, a_numberOf, a_nodeAt, a_successors, a_predecessors, a_before, a_behind, a_loop, a_liveAt, a_knownAt, a_code, a_task, a_variable, a_latestTold)) (h : ∀ r u, gs_Q ek ex ey (fun n r => r = nI (gs_cnt (fun h => gs_lp ek ex ey h n) 16)) p r → gx_RX ak av ac ek ev ex ey u → gx_run u = gx_run (f_stale, f_seen, f_seenCount, f_isStraight, f_meetings, f_codeCount, f_taskCount, f_hasRun, f_inputLeft, f_toldCount, f_lastNode, f_hasStopped, a_actKind, a_actVariable, a_actOperand, a_endKind, a_endVariable, a_endX, a_endY, a_path, a_pathSide, a_leaving, a_numberOf, a_nodeAt, a_successors, a_predecessors, a_before, a_behind, a_loop, a_liveAt, a_knownAt, a_code, a_task, a_variable, a_latestTold) → post r u) : wpX_depth post (f_stale, f_seen, f_seenCount, f_isStraight, f_meetings, f_codeCount, f_taskCount, f_hasRun, f_inputLeft, f_toldCount, f_lastNode, f_hasStopped, a_actKind, a_actVariable, a_actOperand, a_endKind, a_endVariable, a_endX, a_endY, a_path, a_pathSide, a_leaving, a_numberOf, a_nodeAt, a_successors, a_predecessors, a_before, a_behind, a_loop, a_liveAt, a_knownAt, a_code, a_task, a_variable, a_latestTold) p := by
  have R' := R
  obtain ⟨GE, GA, _⟩ := R
  have hx := GE.2.1
  have hy := GE.2.2.1
  unfold wpX_depth
  refine gx_study R' (fun f_seen f_seenCount f_isStraight f_meetings f_codeCount f_taskCount a_path a_pathSide a_leaving a_numberOf a_nodeAt a_successors a_predecessors a_before a_behind a_loop a_liveAt a_knownAt a_code a_task V => ?_)
  have RN := gx_RX0 R' V (f_taskCount := f_taskCount) (f_hasRun := f_hasRun) (f_toldCount := f_toldCount) (f_lastNode := f_lastNode) (f_hasStopped := f_hasStopped) (f_inputLeft := f_inputLeft) (a_path := a_path) (a_pathSide := a_pathSide) (a_leaving := a_leaving) (a_task := a_task) (a_variable := a_variable) (a_latestTold := a_latestTold)
  refine gx_isSeen hx hy V.1 (fun n hn e => ?_) (fun q => h _ _ (Or.inr ⟨q, rfl⟩) RN rfl)
  subst e
  have n16 := gs_sn_lt hx hy hn
  have done : ∀ r, (fun n r => r = nI (gs_cnt (fun h => gs_lp ek ex ey h n) 16)) n r → post r (0, f_seen, f_seenCount, f_isStraight, f_meetings, f_codeCount, f_taskCount, f_hasRun, f_inputLeft, f_toldCount, f_lastNode, f_hasStopped, a_actKind, a_actVariable, a_actOperand, a_endKind, a_endVariable, a_endX, a_endY, a_path, a_pathSide, a_leaving, a_numberOf, a_nodeAt, a_successors, a_predecessors, a_before, a_behind, a_loop, a_liveAt, a_knownAt, a_code, a_task, a_variable, a_latestTold) := fun r hr => h r _ (Or.inl ⟨n, hn, rfl, hr⟩) RN rfl
  exact gx_depth_1 hx hy V n16 hn done
theorem gx_m_head {post : Int32 → SX → Prop} {p : Int32} (R : gx_RX ak av ac ek ev ex ey (f_stale, f_seen, f_seenCount, f_isStraight, f_meetings, f_codeCount, f_taskCount, f_hasRun, f_inputLeft, f_toldCount, f_lastNode, f_hasStopped, a_actKind, a_actVariable, a_actOperand, a_endKind, a_endVariable, a_endX, a_endY, a_path, a_pathSide, a_leaving, a_numberOf, a_nodeAt, a_successors, a_predecessors, a_before, a_behind, a_loop, a_liveAt, a_knownAt, a_code, a_task, a_variable, a_latestTold)) (h : ∀ r u, gs_Q ek ex ey (fun n r => r = (gs_hf ek ex ey n 16).1) p r → gx_RX ak av ac ek ev ex ey u → gx_run u = gx_run (f_stale, f_seen, f_seenCount, f_isStraight, f_meetings, f_codeCount, f_taskCount, f_hasRun, f_inputLeft, f_toldCount, f_lastNode, f_hasStopped, a_actKind, a_actVariable, a_actOperand, a_endKind, a_endVariable, a_endX, a_endY, a_path, a_pathSide, a_leaving, a_numberOf, a_nodeAt, a_successors, a_predecessors, a_before, a_behind, a_loop, a_liveAt, a_knownAt, a_code, a_task, a_variable, a_latestTold) → post r u) : wpX_head post (f_stale, f_seen, f_seenCount, f_isStraight, f_meetings, f_codeCount, f_taskCount, f_hasRun, f_inputLeft, f_toldCount, f_lastNode, f_hasStopped, a_actKind, a_actVariable, a_actOperand, a_endKind, a_endVariable, a_endX, a_endY, a_path, a_pathSide, a_leaving, a_numberOf, a_nodeAt, a_successors, a_predecessors, a_before, a_behind, a_loop, a_liveAt, a_knownAt, a_code, a_task, a_variable, a_latestTold) p := by
  have R' := R
  obtain ⟨GE, GA, _⟩ := R
  have hx := GE.2.1
  have hy := GE.2.2.1
  unfold wpX_head
  refine gx_study R' (fun f_seen f_seenCount f_isStraight f_meetings f_codeCount f_taskCount a_path a_pathSide a_leaving a_numberOf a_nodeAt a_successors a_predecessors a_before a_behind a_loop a_liveAt a_knownAt a_code a_task V => ?_)
  have RN := gx_RX0 R' V (f_taskCount := f_taskCount) (f_hasRun := f_hasRun) (f_toldCount := f_toldCount) (f_lastNode := f_lastNode) (f_hasStopped := f_hasStopped) (f_inputLeft := f_inputLeft) (a_path := a_path) (a_pathSide := a_pathSide) (a_leaving := a_leaving) (a_task := a_task) (a_variable := a_variable) (a_latestTold := a_latestTold)
  refine gx_isSeen hx hy V.1 (fun n hn e => ?_) (fun q => h _ _ (Or.inr ⟨q, rfl⟩) RN rfl)
  subst e
  have n16 := gs_sn_lt hx hy hn
  have done : ∀ r, (fun n r => r = (gs_hf ek ex ey n 16).1) n r → post r (0, f_seen, f_seenCount, f_isStraight, f_meetings, f_codeCount, f_taskCount, f_hasRun, f_inputLeft, f_toldCount, f_lastNode, f_hasStopped, a_actKind, a_actVariable, a_actOperand, a_endKind, a_endVariable, a_endX, a_endY, a_path, a_pathSide, a_leaving, a_numberOf, a_nodeAt, a_successors, a_predecessors, a_before, a_behind, a_loop, a_liveAt, a_knownAt, a_code, a_task, a_variable, a_latestTold) := fun r hr => h r _ (Or.inl ⟨n, hn, rfl, hr⟩) RN rfl
  exact gx_head_1 hx hy V n16 hn done
end
