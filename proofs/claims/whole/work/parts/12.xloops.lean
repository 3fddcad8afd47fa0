/-! X: before and behind as said; loops, straightness, meetings, the nearest, borders -/
theorem gx_one : gs_Mk 1 (fun i => i = 0) := by
  intro i
  rw [gs_one, decide_eq_true_iff]
  exact ⟨fun z => ⟨by omega, z⟩, fun z => z.2⟩
section
variable {f_stale f_seen f_seenCount f_isStraight f_meetings f_codeCount f_taskCount f_hasRun f_toldCount f_lastNode f_hasStopped : Int32} {f_inputLeft : Int64} {a_actKind a_actVariable a_actOperand a_endKind a_endVariable a_endX a_endY a_path a_pathSide a_leaving a_numberOf a_nodeAt a_successors a_predecessors a_before a_behind a_loop a_liveAt a_knownAt a_code a_task a_variable a_latestTold : Nat → Int32} {ek ex ey : Nat → Nat}
theorem gx_bf (hx : ∀ n, ex n < 16) (hy : ∀ n, ey n < 16) (n d : Nat) : (gs_cl (fun i => i < 16 ∧ i = 0 ∧ ¬ False) (fun j k => j < 16 ∧ k < 16 ∧ (gs_sn ek ex ey j = true ∧ gs_E ek ex ey j k) ∧ ¬ False) n ∧ ¬ gs_cl (fun i => i < 16 ∧ i = 0 ∧ ¬ i = d) (fun j k => j < 16 ∧ k < 16 ∧ (gs_sn ek ex ey j = true ∧ gs_E ek ex ey j k) ∧ ¬ k = d) n) ↔ gs_bf ek ex ey d n := by
  have h1 := gs_fwd (ek := ek) hx hy (W := fun _ => False) (n := n)
  have h2 := gs_fwd (ek := ek) hx hy (W := fun x => x = d) (n := n)
  rw [h1, h2, ← gs_sn_W hx hy]
  exact Iff.rfl
theorem gx_bh (hx : ∀ n, ex n < 16) (hy : ∀ n, ey n < 16) (n d : Nat) : (gs_cl (fun i => i < 16 ∧ (gs_sn ek ex ey i = true ∧ ek i = 0) ∧ ¬ False) (fun j k => j < 16 ∧ k < 16 ∧ (gs_sn ek ex ey k = true ∧ gs_E ek ex ey k j) ∧ ¬ False) n ∧ ¬ gs_cl (fun i => i < 16 ∧ (gs_sn ek ex ey i = true ∧ ek i = 0) ∧ ¬ i = d) (fun j k => j < 16 ∧ k < 16 ∧ (gs_sn ek ex ey k = true ∧ gs_E ek ex ey k j) ∧ ¬ k = d) n) ↔ gs_bh ek ex ey d n := by
  have h1 := gs_back (ek := ek) hx hy (W := fun _ => False) (F := fun i => gs_sn ek ex ey i = true ∧ ek i = 0) (fun i z => z.1) (n := n)
  have h2 := gs_back (ek := ek) hx hy (W := fun x => x = d) (F := fun i => gs_sn ek ex ey i = true ∧ ek i = 0) (fun i z => z.1) (n := n)
  rw [h1, h2]
  constructor
  · rintro ⟨⟨q1, m, q2, q3⟩, q4⟩
    exact ⟨q1, ⟨m, q3, q2.2⟩, fun ⟨m', w1, w2⟩ => q4 ⟨q1, m', ⟨gs_W_sn hx hy w1 q1, w2⟩, w1⟩⟩
  · rintro ⟨q1, ⟨m, q2, q3⟩, q4⟩
    exact ⟨⟨q1, m, ⟨gs_W_sn hx hy q2 q1, q3⟩, q2⟩, fun ⟨_, m', w1, w2⟩ => q4 ⟨m', w2, w1.2⟩⟩
theorem gx_before {post : SX → Prop} (hx : ∀ n, ex n < 16) (hy : ∀ n, ey n < 16) (LK : gx_LK ek ex ey a_successors a_predecessors)
    (h : ∀ c', (∀ n, n < 16 → gs_Mk (c' n) (fun d => gs_bf ek ex ey d n)) → post (f_stale, f_seen, f_seenCount, f_isStraight, f_meetings, f_codeCount, f_taskCount, f_hasRun, f_inputLeft, f_toldCount, f_lastNode, f_hasStopped, a_actKind, a_actVariable, a_actOperand, a_endKind, a_endVariable, a_endX, a_endY, a_path, a_pathSide, a_leaving, a_numberOf, a_nodeAt, a_successors, a_predecessors, c', a_behind, a_loop, a_liveAt, a_knownAt, a_code, a_task, a_variable, a_latestTold)) : wpX_findCuts__before_successors post (f_stale, f_seen, f_seenCount, f_isStraight, f_meetings, f_codeCount, f_taskCount, f_hasRun, f_inputLeft, f_toldCount, f_lastNode, f_hasStopped, a_actKind, a_actVariable, a_actOperand, a_endKind, a_endVariable, a_endX, a_endY, a_path, a_pathSide, a_leaving, a_numberOf, a_nodeAt, a_successors, a_predecessors, a_before, a_behind, a_loop, a_liveAt, a_knownAt, a_code, a_task, a_variable, a_latestTold) 1 :=
  gx_cuts_before LK.1 gx_one (fun c' hc => h c' (fun n hn => gs_Mk_iff (hc n hn) (fun d _ => gx_bf hx hy n d)))
theorem gx_behind {post : SX → Prop} {p2 : Int32} (hx : ∀ n, ex n < 16) (hy : ∀ n, ey n < 16) (LK : gx_LK ek ex ey a_successors a_predecessors) (hp : gs_Mk p2 (fun i => gs_sn ek ex ey i = true ∧ ek i = 0))
    (h : ∀ c', (∀ n, n < 16 → gs_Mk (c' n) (fun d => gs_bh ek ex ey d n)) → post (f_stale, f_seen, f_seenCount, f_isStraight, f_meetings, f_codeCount, f_taskCount, f_hasRun, f_inputLeft, f_toldCount, f_lastNode, f_hasStopped, a_actKind, a_actVariable, a_actOperand, a_endKind, a_endVariable, a_endX, a_endY, a_path, a_pathSide, a_leaving, a_numberOf, a_nodeAt, a_successors, a_predecessors, a_before, c', a_loop, a_liveAt, a_knownAt, a_code, a_task, a_variable, a_latestTold)) : wpX_findCuts__behind_predecessors post (f_stale, f_seen, f_seenCount, f_isStraight, f_meetings, f_codeCount, f_taskCount, f_hasRun, f_inputLeft, f_toldCount, f_lastNode, f_hasStopped, a_actKind, a_actVariable, a_actOperand, a_endKind, a_endVariable, a_endX, a_endY, a_path, a_pathSide, a_leaving, a_numberOf, a_nodeAt, a_successors, a_predecessors, a_before, a_behind, a_loop, a_liveAt, a_knownAt, a_code, a_task, a_variable, a_latestTold) p2 :=
  gx_cuts_behind LK.2 hp (fun c' hc => h c' (fun n hn => gs_Mk_iff (hc n hn) (fun d _ => gx_bh hx hy n d)))
theorem gx_loops {post : SX → Prop} (hx : ∀ n, ex n < 16) (hy : ∀ n, ey n < 16) (LK : gx_LK ek ex ey a_successors a_predecessors) (hb : ∀ n, n < 16 → gs_Mk (a_before n) (fun d => gs_bf ek ex ey d n))
    (h : ∀ c', (∀ n, n < 16 → gs_Mk (c' n) (gs_lp ek ex ey n)) → post (f_stale, f_seen, f_seenCount, f_isStraight, f_meetings, f_codeCount, f_taskCount, f_hasRun, f_inputLeft, f_toldCount, f_lastNode, f_hasStopped, a_actKind, a_actVariable, a_actOperand, a_endKind, a_endVariable, a_endX, a_endY, a_path, a_pathSide, a_leaving, a_numberOf, a_nodeAt, a_successors, a_predecessors, a_before, a_behind, c', a_liveAt, a_knownAt, a_code, a_task, a_variable, a_latestTold)) : wpX_findLoops post (f_stale, f_seen, f_seenCount, f_isStraight, f_meetings, f_codeCount, f_taskCount, f_hasRun, f_inputLeft, f_toldCount, f_lastNode, f_hasStopped, a_actKind, a_actVariable, a_actOperand, a_endKind, a_endVariable, a_endX, a_endY, a_path, a_pathSide, a_leaving, a_numberOf, a_nodeAt, a_successors, a_predecessors, a_before, a_behind, a_loop, a_liveAt, a_knownAt, a_code, a_task, a_variable, a_latestTold) := by
  refine pk_loop (fun m i (s : Nat → Int32) => wX_findLoops_2 post f_stale f_seen f_seenCount f_isStraight f_meetings f_codeCount f_taskCount f_hasRun f_inputLeft f_toldCount f_lastNode f_hasStopped m (nI i) a_actKind a_actVariable a_actOperand a_endKind a_endVariable a_endX a_endY a_path a_pathSide a_leaving a_numberOf a_nodeAt a_successors a_predecessors a_before a_behind s a_liveAt a_knownAt a_code a_task a_variable a_latestTold) (fun i s => ∀ n, n < i → gs_Mk (s n) (gs_lp ek ex ey n)) 16 0 a_loop (by omega) (fun j hj => absurd hj (Nat.not_lt_zero j)) ?_ ?_
  · rintro m s hI
    exact br_t gx_x16 (h s hI)
  · rintro m i l hi hI ih
    refine br_f (gx_16 hi) ?_
    refine pk_loop (fun m' j s => wX_findLoops_12 post (wX_findLoops_2 post f_stale f_seen f_seenCount f_isStraight f_meetings f_codeCount f_taskCount f_hasRun f_inputLeft f_toldCount f_lastNode f_hasStopped m) (nI i) f_stale f_seen f_seenCount f_isStraight f_meetings f_codeCount f_taskCount f_hasRun f_inputLeft f_toldCount f_lastNode f_hasStopped a_actKind a_actVariable a_actOperand a_endKind a_endVariable a_endX a_endY a_path a_pathSide a_leaving a_numberOf a_nodeAt a_successors a_predecessors a_before a_behind l a_liveAt a_knownAt a_code a_task a_variable a_latestTold m' s (nI j)) (fun j s => gs_Mk s (fun p => p < j ∧ gs_ret ek ex ey i p)) 16 0 0 (by omega) (gs_Mk_0 (fun i _ z => absurd z.1 (Nat.not_lt_zero i))) ?_ ?_
    · rintro m' s hS
      have hS : gs_Mk s (gs_ret ek ex ey i) := gs_Mk_iff hS (fun p hp => ⟨fun z => z.2, fun z => ⟨hp, z⟩⟩)
      refine br_t gx_x16 (gx_reach_predecessors (br_c (fun z => ?_) (fun z => ?_)))
      · refine ⟨gx_in hi, nm_r (e' := upd l i 0) (by rw [gx_cl hi]) (nm_r (nI_1 i) (ih _ (fun n hn => ?_)))⟩
        by_cases e : n = i
        · subst e
          rw [pk_us]
          exact gs_Mk_0 (fun q _ => gs_lp_0 ((gs_Mk_z hS).mp z) hx hy q)
        · rw [pk_un e]
          exact hI n (by omega)
      · have hr := gs_rch_ok LK.2 hS (gs_Mk_bit hi)
        refine ⟨gx_in hi, nm_r (e' := upd l i (gs_rch a_predecessors s ((1 : Int32) <<< (nI i &&& 31)) ||| ((1 : Int32) <<< (nI i &&& 31)))) (by rw [gx_cl hi]) (nm_r (nI_1 i) (ih _ (fun n hn => ?_)))⟩
        by_cases e : n = i
        · subst e
          rw [pk_us]
          have hne : ∃ p, gs_ret ek ex ey n p := by
            apply Classical.byContradiction
            intro w
            exact z ((gs_Mk_z hS).mpr (fun p _ q => w ⟨p, q⟩))
          apply gs_Mk_iff (gs_Mk_set hr hi)
          intro q _
          rw [gs_back hx hy (W := fun x => x = n) (F := gs_ret ek ex ey n) (fun p w => w.1)]
          constructor
          · rintro (⟨w1, p, w2, w3⟩ | w)
            · exact ⟨p, w2, Or.inr ⟨w1, w3⟩⟩
            · obtain ⟨p, hp⟩ := hne
              exact ⟨p, hp, Or.inl w⟩
          · rintro ⟨p, w1, w2 | ⟨w2, w3⟩⟩
            · exact Or.inr w2
            · exact Or.inl ⟨w2, p, w1, w3⟩
        · rw [pk_un e]
          exact hI n (by omega)
    · rintro m' j s hj hS ihj
      have keep : ¬ gs_ret ek ex ey i j → gs_Mk s (fun p => p < j + 1 ∧ gs_ret ek ex ey i p) := fun q => gs_Mk_iff hS (fun p _ => by
        constructor
        · exact fun z => ⟨by omega, z.2⟩
        · rintro ⟨z1, z2⟩
          by_cases e : p = j
          · exact absurd (e ▸ z2) q
          · exact ⟨by omega, z2⟩)
      refine br_f (gx_16 hj) ⟨gx_in hi, gx_hma LK.2 hi hj (fun q => ⟨gx_in hj, gx_hma hb hj hi (fun w => ?_) (fun w => ?_)⟩) (fun q => ?_)⟩
      · refine nm_e (nm_r (nI_1 j) (ihj _ (gs_Mk_iff (gs_Mk_set hS hj) (fun p _ => ?_))))
        constructor
        · rintro (⟨z1, z2⟩ | rfl)
          · exact ⟨by omega, z2⟩
          · exact ⟨by omega, q.1, q.2, w⟩
        · rintro ⟨z1, z2⟩
          by_cases e : p = j
          · exact Or.inr e
          · exact Or.inl ⟨by omega, z2⟩
      · exact nm_r (nI_1 j) (ihj s (keep (fun z => w z.2.2)))
      · exact nm_r (nI_1 j) (ihj s (keep (fun z => q ⟨z.1, z.2.1⟩)))
/-- the numbers as X holds them -/
def gx_NU (ek ex ey : Nat → Nat) (a_numberOf : Nat → Int32) : Prop := ∀ n, gs_sn ek ex ey n = true → a_numberOf n = nI (gs_nu ek ex ey n)
theorem gx_nu_lt (hx : ∀ n, ex n < 16) (hy : ∀ n, ey n < 16) (hN : gx_NU ek ex ey a_numberOf) {m n : Nat} (hm : gs_sn ek ex ey m = true) (hn : gs_sn ek ex ey n = true) : (a_numberOf (nI m).toNatClampNeg < a_numberOf (nI n).toNatClampNeg ↔ gs_nu ek ex ey m < gs_nu ek ex ey n) ∧ (a_numberOf (nI m).toNatClampNeg ≤ a_numberOf (nI n).toNatClampNeg ↔ gs_nu ek ex ey m ≤ gs_nu ek ex ey n) := by
  have l := gs_lv_len (ek := ek) hx hy
  have l1 := gs_nu_lt hx hy hm
  have l2 := gs_nu_lt hx hy hn
  rw [gx_cl (gs_sn_lt hx hy hm), gx_cl (gs_sn_lt hx hy hn), hN m hm, hN n hn]
  exact ⟨nI_ltI (by omega) (by omega), nI_leI (by omega) (by omega)⟩
theorem gx_straight {post : SX → Prop} (hx : ∀ n, ex n < 16) (hy : ∀ n, ey n < 16) (LK : gx_LK ek ex ey a_successors a_predecessors) (hN : gx_NU ek ex ey a_numberOf) (hb : ∀ n, n < 16 → gs_Mk (a_before n) (fun d => gs_bf ek ex ey d n))
    (h : ∀ r, (r = 1 ∧ gs_strt ek ex ey) ∨ (r = 0 ∧ ¬ gs_strt ek ex ey) → post (f_stale, f_seen, f_seenCount, r, f_meetings, f_codeCount, f_taskCount, f_hasRun, f_inputLeft, f_toldCount, f_lastNode, f_hasStopped, a_actKind, a_actVariable, a_actOperand, a_endKind, a_endVariable, a_endX, a_endY, a_path, a_pathSide, a_leaving, a_numberOf, a_nodeAt, a_successors, a_predecessors, a_before, a_behind, a_loop, a_liveAt, a_knownAt, a_code, a_task, a_variable, a_latestTold)) : wpX_findStraight post (f_stale, f_seen, f_seenCount, f_isStraight, f_meetings, f_codeCount, f_taskCount, f_hasRun, f_inputLeft, f_toldCount, f_lastNode, f_hasStopped, a_actKind, a_actVariable, a_actOperand, a_endKind, a_endVariable, a_endX, a_endY, a_path, a_pathSide, a_leaving, a_numberOf, a_nodeAt, a_successors, a_predecessors, a_before, a_behind, a_loop, a_liveAt, a_knownAt, a_code, a_task, a_variable, a_latestTold) := by
  refine pk_loop (fun m i (r : Int32) => wX_findStraight_7 post f_stale f_seen f_seenCount f_meetings f_codeCount f_taskCount f_hasRun f_inputLeft f_toldCount f_lastNode f_hasStopped a_actKind a_actVariable a_actOperand a_endKind a_endVariable a_endX a_endY a_path a_pathSide a_leaving a_numberOf a_nodeAt a_successors a_predecessors a_before a_behind a_loop a_liveAt a_knownAt a_code a_task a_variable a_latestTold m (nI i) r) (fun i r => (r = 1 ∧ ∀ n, n < i → ∀ s, s < 16 → gs_sn ek ex ey n = true → gs_E ek ex ey n s → gs_nu ek ex ey s ≤ gs_nu ek ex ey n → gs_bf ek ex ey s n) ∨ (r = 0 ∧ ¬ gs_strt ek ex ey)) 16 0 1 (by omega) (Or.inl ⟨rfl, fun j hj => absurd hj (Nat.not_lt_zero j)⟩) ?_ ?_
  · rintro m r hI
    exact br_t gx_x16 (h r (hI.imp (fun z => ⟨z.1, z.2⟩) id))
  · rintro m i r hi hI ih
    refine br_f (gx_16 hi) ?_
    refine pk_loop (fun m' j (r : Int32) => wX_findStraight_15 post (wX_findStraight_7 post f_stale f_seen f_seenCount f_meetings f_codeCount f_taskCount f_hasRun f_inputLeft f_toldCount f_lastNode f_hasStopped a_actKind a_actVariable a_actOperand a_endKind a_endVariable a_endX a_endY a_path a_pathSide a_leaving a_numberOf a_nodeAt a_successors a_predecessors a_before a_behind a_loop a_liveAt a_knownAt a_code a_task a_variable a_latestTold m) (nI i) f_stale f_seen f_seenCount f_meetings f_codeCount f_taskCount f_hasRun f_inputLeft f_toldCount f_lastNode f_hasStopped a_actKind a_actVariable a_actOperand a_endKind a_endVariable a_endX a_endY a_path a_pathSide a_leaving a_numberOf a_nodeAt a_successors a_predecessors a_before a_behind a_loop a_liveAt a_knownAt a_code a_task a_variable a_latestTold m' (nI j) r) (fun j r => (r = 1 ∧ (∀ n, n < i → ∀ s, s < 16 → gs_sn ek ex ey n = true → gs_E ek ex ey n s → gs_nu ek ex ey s ≤ gs_nu ek ex ey n → gs_bf ek ex ey s n) ∧ ∀ s, s < j → gs_sn ek ex ey i = true → gs_E ek ex ey i s → gs_nu ek ex ey s ≤ gs_nu ek ex ey i → gs_bf ek ex ey s i) ∨ (r = 0 ∧ ¬ gs_strt ek ex ey)) 16 0 r (by omega) (hI.imp (fun z => ⟨z.1, z.2, fun j hj => absurd hj (Nat.not_lt_zero j)⟩) id) ?_ ?_
    · rintro m' r hJ
      refine br_t gx_x16 (nm_r (nI_1 i) (ih r (hJ.imp (fun z => ⟨z.1, fun n hn => ?_⟩) id)))
      by_cases e : n = i
      · subst e
        exact z.2.2
      · exact z.2.1 n (by omega)
    · rintro m' j r hj hJ ihj
      have keep : (gs_sn ek ex ey i = true → gs_E ek ex ey i j → gs_nu ek ex ey j ≤ gs_nu ek ex ey i → gs_bf ek ex ey j i) → wX_findStraight_15 post (wX_findStraight_7 post f_stale f_seen f_seenCount f_meetings f_codeCount f_taskCount f_hasRun f_inputLeft f_toldCount f_lastNode f_hasStopped a_actKind a_actVariable a_actOperand a_endKind a_endVariable a_endX a_endY a_path a_pathSide a_leaving a_numberOf a_nodeAt a_successors a_predecessors a_before a_behind a_loop a_liveAt a_knownAt a_code a_task a_variable a_latestTold m) (nI i) f_stale f_seen f_seenCount f_meetings f_codeCount f_taskCount f_hasRun f_inputLeft f_toldCount f_lastNode f_hasStopped a_actKind a_actVariable a_actOperand a_endKind a_endVariable a_endX a_endY a_path a_pathSide a_leaving a_numberOf a_nodeAt a_successors a_predecessors a_before a_behind a_loop a_liveAt a_knownAt a_code a_task a_variable a_latestTold m' (nI (j + 1)) r := fun q => ihj r (hJ.imp (fun z => ⟨z.1, z.2.1, fun s hs => by
        by_cases e : s = j
        · subst e
          exact q
        · exact z.2.2 s (by omega)⟩) id)
      refine br_f (gx_16 hj) ⟨gx_in hi, gx_hma LK.1 hi hj (fun q => ⟨gx_in hj, gx_in hi, ?_⟩) (fun q => ?_)⟩
      · have qs := gs_sn_E hx hy q.1 q.2
        have hl := (gx_nu_lt hx hy hN q.1 qs).1
        refine br_c (fun w => ?_) (fun w => ?_)
        · refine br_t rfl (nm_r (nI_1 j) (keep (fun _ _ z => ?_)))
          have := hl.mp w
          omega
        · refine br_f (by decide) ⟨gx_in hi, gx_hma hb hi hj (fun y => nm_r (nI_1 j) (keep (fun _ _ _ => y))) (fun y => nm_r (nI_1 j) (ihj 0 (Or.inr ⟨rfl, fun z => y (z i hi j hj q.1 q.2 ?_)⟩)))⟩
          have : ¬ gs_nu ek ex ey i < gs_nu ek ex ey j := fun z => w (hl.mpr z)
          omega
      · exact br_t rfl (nm_r (nI_1 j) (keep (fun z1 z2 _ => absurd ⟨z1, z2⟩ q)))
theorem gx_meet {post : SX → Prop} (hx : ∀ n, ex n < 16) (hy : ∀ n, ey n < 16) (LK : gx_LK ek ex ey a_successors a_predecessors) (hN : gx_NU ek ex ey a_numberOf)
    (h : ∀ r, gs_Mk r (gs_mt ek ex ey) → post (f_stale, f_seen, f_seenCount, f_isStraight, r, f_codeCount, f_taskCount, f_hasRun, f_inputLeft, f_toldCount, f_lastNode, f_hasStopped, a_actKind, a_actVariable, a_actOperand, a_endKind, a_endVariable, a_endX, a_endY, a_path, a_pathSide, a_leaving, a_numberOf, a_nodeAt, a_successors, a_predecessors, a_before, a_behind, a_loop, a_liveAt, a_knownAt, a_code, a_task, a_variable, a_latestTold)) : wpX_findMeetings post (f_stale, f_seen, f_seenCount, f_isStraight, f_meetings, f_codeCount, f_taskCount, f_hasRun, f_inputLeft, f_toldCount, f_lastNode, f_hasStopped, a_actKind, a_actVariable, a_actOperand, a_endKind, a_endVariable, a_endX, a_endY, a_path, a_pathSide, a_leaving, a_numberOf, a_nodeAt, a_successors, a_predecessors, a_before, a_behind, a_loop, a_liveAt, a_knownAt, a_code, a_task, a_variable, a_latestTold) := by
  refine pk_loop (fun m i (r : Int32) => wX_findMeetings_7 post f_stale f_seen f_seenCount f_isStraight f_codeCount f_taskCount f_hasRun f_inputLeft f_toldCount f_lastNode f_hasStopped a_actKind a_actVariable a_actOperand a_endKind a_endVariable a_endX a_endY a_path a_pathSide a_leaving a_numberOf a_nodeAt a_successors a_predecessors a_before a_behind a_loop a_liveAt a_knownAt a_code a_task a_variable a_latestTold m (nI i) r) (fun i r => gs_Mk r (fun n => n < i ∧ gs_mt ek ex ey n)) 16 0 0 (by omega) (gs_Mk_0 (fun i _ z => absurd z.1 (Nat.not_lt_zero i))) ?_ ?_
  · rintro m r hI
    exact br_t gx_x16 (h r (gs_Mk_iff hI (fun n hn => ⟨fun z => z.2, fun z => ⟨hn, z⟩⟩)))
  · rintro m i r hi hI ih
    refine br_f (gx_16 hi) ?_
    refine pk_loop (fun m' j (c : Int32) => wX_findMeetings_17 post (wX_findMeetings_7 post f_stale f_seen f_seenCount f_isStraight f_codeCount f_taskCount f_hasRun f_inputLeft f_toldCount f_lastNode f_hasStopped a_actKind a_actVariable a_actOperand a_endKind a_endVariable a_endX a_endY a_path a_pathSide a_leaving a_numberOf a_nodeAt a_successors a_predecessors a_before a_behind a_loop a_liveAt a_knownAt a_code a_task a_variable a_latestTold m) (nI i) f_stale f_seen f_seenCount f_isStraight r f_codeCount f_taskCount f_hasRun f_inputLeft f_toldCount f_lastNode f_hasStopped a_actKind a_actVariable a_actOperand a_endKind a_endVariable a_endX a_endY a_path a_pathSide a_leaving a_numberOf a_nodeAt a_successors a_predecessors a_before a_behind a_loop a_liveAt a_knownAt a_code a_task a_variable a_latestTold m' c (nI j)) (fun j c => c = nI (gs_cn (gs_mtc ek ex ey i) j)) 16 0 0 (by omega) rfl ?_ ?_
    · rintro m' c rfl
      have hc := gs_cn_le (gs_mtc ek ex ey i) 16
      refine br_t gx_x16 (pk_le (gs_cn (gs_mtc ek ex ey i) 16) 1 (fun z => ?_) (fun z => ?_))
      · refine nm_r (nI_1 i) (ih r (gs_Mk_iff hI (fun n _ => ⟨fun w => ⟨by omega, w.2⟩, fun w => ⟨?_, w.2⟩⟩)))
        by_cases e : n = i
        · subst e
          have : 1 < gs_cn (gs_mtc ek ex ey n) 16 := w.2
          omega
        · omega
      · refine nm_e (nm_r (nI_1 i) (ih _ (gs_Mk_iff (gs_Mk_set hI hi) (fun n _ => ?_))))
        constructor
        · rintro (w | rfl)
          · exact ⟨by omega, w.2⟩
          · exact ⟨by omega, z⟩
        · rintro ⟨w1, w2⟩
          by_cases e : n = i
          · exact Or.inr e
          · exact Or.inl ⟨by omega, w2⟩
    · rintro m' j c hj rfl ihj
      have no : ¬ (gs_sn ek ex ey j = true ∧ gs_E ek ex ey j i ∧ gs_nu ek ex ey j < gs_nu ek ex ey i) → nI (gs_cn (gs_mtc ek ex ey i) j) = nI (gs_cn (gs_mtc ek ex ey i) (j + 1)) := fun q => by
        have e : gs_mtc ek ex ey i j = false := gs_B_f.mpr q
        show _ = nI (gs_cn (gs_mtc ek ex ey i) j + (if gs_mtc ek ex ey i j = true then 1 else 0))
        rw [e]
        rfl
      refine br_f (gx_16 hj) ⟨gx_in hi, gx_hma LK.2 hi hj (fun q => ⟨gx_in hj, gx_in hi, ?_⟩) (fun q => ?_)⟩
      · have qs := gs_sn_E hx hy q.1 q.2
        have hl := (gx_nu_lt hx hy hN qs q.1).2
        refine br_c (fun w => ?_) (fun w => ?_)
        · refine nm_r (nI_1 j) (ihj _ (no (fun z => ?_)))
          have := hl.mp w
          omega
        · refine nm_r (nI_1 _) (nm_r (nI_1 j) (ihj _ ?_))
          have hlt : gs_nu ek ex ey j < gs_nu ek ex ey i := by
            have : ¬ gs_nu ek ex ey i ≤ gs_nu ek ex ey j := fun z => w (hl.mpr z)
            omega
          have e : gs_mtc ek ex ey i j = true := gs_B_t.mpr ⟨q.1, q.2, hlt⟩
          show _ = nI (gs_cn (gs_mtc ek ex ey i) j + (if gs_mtc ek ex ey i j = true then 1 else 0))
          rw [e]
          rfl
      · exact nm_r (nI_1 j) (ihj _ (no (fun z => q ⟨z.1, z.2.1⟩)))
theorem gx_near_before {post : Int32 → Prop} {C : Nat → Nat → Prop} {n : Nat} (hn : n < 16) (hC : ∀ n, n < 16 → gs_Mk (a_before n) (fun d => C d n)) (h : ∀ r, gs_Fst r (gs_near C n) → post r) : wpX_nearest__before post (f_stale, f_seen, f_seenCount, f_isStraight, f_meetings, f_codeCount, f_taskCount, f_hasRun, f_inputLeft, f_toldCount, f_lastNode, f_hasStopped, a_actKind, a_actVariable, a_actOperand, a_endKind, a_endVariable, a_endX, a_endY, a_path, a_pathSide, a_leaving, a_numberOf, a_nodeAt, a_successors, a_predecessors, a_before, a_behind, a_loop, a_liveAt, a_knownAt, a_code, a_task, a_variable, a_latestTold) (nI n) := by
  have hM : gs_Mk (a_before (nI n).toNatClampNeg &&& (((1 : Int32) <<< (nI n &&& 31)) ^^^ (-1))) (fun d => C d n ∧ ¬ d = n) := by
    rw [gx_cl hn]
    exact gs_Mk_andn (hC n hn) (gs_Mk_bit hn)
  refine ⟨gx_in hn, nm_e ?_⟩
  generalize a_before (nI n).toNatClampNeg &&& (((1 : Int32) <<< (nI n &&& 31)) ^^^ (-1)) = w at hM
  refine pk_loop (fun m i (_ : Unit) => wX_nearest__before_12 post w f_stale f_seen f_seenCount f_isStraight f_meetings f_codeCount f_taskCount f_hasRun f_inputLeft f_toldCount f_lastNode f_hasStopped a_actKind a_actVariable a_actOperand a_endKind a_endVariable a_endX a_endY a_path a_pathSide a_leaving a_numberOf a_nodeAt a_successors a_predecessors a_before a_behind a_loop a_liveAt a_knownAt a_code a_task a_variable a_latestTold m (nI i)) (fun i _ => ∀ d, d < i → ¬ gs_near C n d) 16 0 () (by omega) (fun j hj => absurd hj (Nat.not_lt_zero j)) ?_ ?_
  · rintro m _ hI
    exact br_t gx_x16 (h _ (Or.inr ⟨rfl, hI⟩))
  · rintro m i _ hi hI ih
    have up : ¬ gs_near C n i → ∀ d, d < i + 1 → ¬ gs_near C n d := fun q d hd => by
      by_cases e : d = i
      · exact e ▸ q
      · exact hI d (by omega)
    have hz : (w &&& ((a_before (nI i).toNatClampNeg) ^^^ (-1))) = 0 ↔ ∀ e, e < 16 → ¬ ((C e n ∧ ¬ e = n) ∧ ¬ C e i) := by
      rw [gx_cl hi]
      exact gs_Mk_z (gs_Mk_andn hM (hC i hi))
    refine br_f (gx_16 hi) (gx_hm hM hi (fun q => ⟨gx_in hi, br_c (fun y => ?_) (fun y => ?_)⟩) (fun q => ?_))
    · refine h _ (Or.inl ⟨i, hi, rfl, ⟨q.2, q.1, fun e he z1 z2 => ?_⟩, hI⟩)
      apply Classical.byContradiction
      exact fun z3 => hz.mp y e he ⟨⟨z2, z1⟩, z3⟩
    · refine nm_r (nI_1 i) (ih () (up (fun z => y (hz.mpr (fun e he w2 => w2.2 (z.2.2 e he w2.1.2 w2.1.1))))))
    · exact nm_r (nI_1 i) (ih () (up (fun z => q ⟨z.2.1, z.1⟩)))
theorem gx_border_before {post : Int32 → Prop} {C K : Nat → Nat → Prop} {t : Nat} (ht : t < 16) (hC : ∀ n, n < 16 → gs_Mk (a_before n) (fun d => C d n)) (hL : ∀ n, n < 16 → gs_Mk (a_predecessors n) (K n))
    (h : ∀ r, gs_Mk r (fun n => (n = t ∨ ¬ C t n) ∧ ∃ p, p < 16 ∧ K n p ∧ C t p) → post r) : wpX_border__before_predecessors post (f_stale, f_seen, f_seenCount, f_isStraight, f_meetings, f_codeCount, f_taskCount, f_hasRun, f_inputLeft, f_toldCount, f_lastNode, f_hasStopped, a_actKind, a_actVariable, a_actOperand, a_endKind, a_endVariable, a_endX, a_endY, a_path, a_pathSide, a_leaving, a_numberOf, a_nodeAt, a_successors, a_predecessors, a_before, a_behind, a_loop, a_liveAt, a_knownAt, a_code, a_task, a_variable, a_latestTold) (nI t) := by
  refine pk_loop (fun m i r => wX_border__before_predecessors_5 post (nI t) f_stale f_seen f_seenCount f_isStraight f_meetings f_codeCount f_taskCount f_hasRun f_inputLeft f_toldCount f_lastNode f_hasStopped a_actKind a_actVariable a_actOperand a_endKind a_endVariable a_endX a_endY a_path a_pathSide a_leaving a_numberOf a_nodeAt a_successors a_predecessors a_before a_behind a_loop a_liveAt a_knownAt a_code a_task a_variable a_latestTold m r (nI i)) (fun i r => gs_Mk r (fun n => n < i ∧ (n = t ∨ ¬ C t n) ∧ ∃ p, p < 16 ∧ K n p ∧ C t p)) 16 0 0 (by omega) (gs_Mk_0 (fun i _ z => absurd z.1 (Nat.not_lt_zero i))) ?_ ?_
  · rintro m r hI
    exact br_t gx_x16 (h r (gs_Mk_iff hI (fun n hn => ⟨fun z => z.2, fun z => ⟨hn, z⟩⟩)))
  · rintro m i r hi hI ih
    refine br_f (gx_16 hi) ?_
    refine pk_loop (fun m' j r => wX_border__before_predecessors_15 post (wX_border__before_predecessors_5 post (nI t) f_stale f_seen f_seenCount f_isStraight f_meetings f_codeCount f_taskCount f_hasRun f_inputLeft f_toldCount f_lastNode f_hasStopped a_actKind a_actVariable a_actOperand a_endKind a_endVariable a_endX a_endY a_path a_pathSide a_leaving a_numberOf a_nodeAt a_successors a_predecessors a_before a_behind a_loop a_liveAt a_knownAt a_code a_task a_variable a_latestTold m) (nI t) (nI i) f_stale f_seen f_seenCount f_isStraight f_meetings f_codeCount f_taskCount f_hasRun f_inputLeft f_toldCount f_lastNode f_hasStopped a_actKind a_actVariable a_actOperand a_endKind a_endVariable a_endX a_endY a_path a_pathSide a_leaving a_numberOf a_nodeAt a_successors a_predecessors a_before a_behind a_loop a_liveAt a_knownAt a_code a_task a_variable a_latestTold m' r (nI j)) (fun j r => gs_Mk r (fun n => (n < i ∧ (n = t ∨ ¬ C t n) ∧ ∃ p, p < 16 ∧ K n p ∧ C t p) ∨ (n = i ∧ (n = t ∨ ¬ C t n) ∧ ∃ p, p < j ∧ K n p ∧ C t p))) 16 0 r (by omega) (gs_Mk_iff hI (fun n _ => ⟨Or.inl, fun z => z.elim id (fun ⟨_, _, p, z, _⟩ => absurd z (Nat.not_lt_zero p))⟩)) ?_ ?_
    · rintro m' r hJ
      refine br_t gx_x16 (nm_r (nI_1 i) (ih r (gs_Mk_iff hJ (fun n _ => ?_))))
      constructor
      · rintro (z | ⟨rfl, z⟩)
        · exact ⟨by omega, z.2⟩
        · exact ⟨by omega, z⟩
      · rintro ⟨z1, z2⟩
        by_cases e : n = i
        · exact Or.inr ⟨e, z2⟩
        · exact Or.inl ⟨by omega, z2⟩
    · rintro m' j r hj hJ ihj
      have keep : ¬ ((i = t ∨ ¬ C t i) ∧ K i j ∧ C t j) → gs_Mk r (fun n => (n < i ∧ (n = t ∨ ¬ C t n) ∧ ∃ p, p < 16 ∧ K n p ∧ C t p) ∨ (n = i ∧ (n = t ∨ ¬ C t n) ∧ ∃ p, p < j + 1 ∧ K n p ∧ C t p)) := fun q => gs_Mk_iff hJ (fun n _ => by
        constructor
        · rintro (z | ⟨z1, z2, p, z3, z4⟩)
          · exact Or.inl z
          · exact Or.inr ⟨z1, z2, p, by omega, z4⟩
        · rintro (z | ⟨z1, z2, p, z3, z4⟩)
          · exact Or.inl z
          · by_cases e : p = j
            · subst e
              subst z1
              exact absurd ⟨z2, z4⟩ q
            · exact Or.inr ⟨z1, z2, p, by omega, z4⟩)
      have put : ((i = t ∨ ¬ C t i) ∧ K i j ∧ C t j) → gs_Mk (r ||| ((1 : Int32) <<< (nI i &&& 31))) (fun n => (n < i ∧ (n = t ∨ ¬ C t n) ∧ ∃ p, p < 16 ∧ K n p ∧ C t p) ∨ (n = i ∧ (n = t ∨ ¬ C t n) ∧ ∃ p, p < j + 1 ∧ K n p ∧ C t p)) := fun q => gs_Mk_iff (gs_Mk_set hJ hi) (fun n _ => by
        constructor
        · rintro ((z | ⟨z1, z2, p, z3, z4⟩) | rfl)
          · exact Or.inl z
          · exact Or.inr ⟨z1, z2, p, by omega, z4⟩
          · exact Or.inr ⟨rfl, q.1, j, by omega, q.2⟩
        · rintro (z | ⟨z1, _⟩)
          · exact Or.inl (Or.inl z)
          · exact Or.inr z1)
      refine br_f (gx_16 hj) ⟨gx_in hi, gx_hma hL hi hj (fun q => ⟨gx_in hj, gx_hma hC hj ht (fun y => ?_) (fun y => ?_)⟩) (fun q => ?_)⟩
      · refine br_f (by decide) (pk_eq i t (fun e => ?_) (fun e => ⟨gx_in hi, gx_hma hC hi ht (fun w => ?_) (fun w => ?_)⟩))
        · exact nm_e (nm_r (nI_1 j) (ihj _ (put ⟨Or.inl e, q, y⟩)))
        · exact nm_r (nI_1 j) (ihj _ (keep (fun z => z.1.elim (fun z => e z) (fun z => z w))))
        · exact nm_e (nm_r (nI_1 j) (ihj _ (put ⟨Or.inr w, q, y⟩)))
      · exact br_t rfl (nm_r (nI_1 j) (ihj _ (keep (fun z => y z.2.2))))
      · exact br_t rfl (nm_r (nI_1 j) (ihj _ (keep (fun z => q z.2.1))))
theorem gx_near_behind {post : Int32 → Prop} {C : Nat → Nat → Prop} {n : Nat} (hn : n < 16) (hC : ∀ n, n < 16 → gs_Mk (a_behind n) (fun d => C d n)) (h : ∀ r, gs_Fst r (gs_near C n) → post r) : wpX_nearest__behind post (f_stale, f_seen, f_seenCount, f_isStraight, f_meetings, f_codeCount, f_taskCount, f_hasRun, f_inputLeft, f_toldCount, f_lastNode, f_hasStopped, a_actKind, a_actVariable, a_actOperand, a_endKind, a_endVariable, a_endX, a_endY, a_path, a_pathSide, a_leaving, a_numberOf, a_nodeAt, a_successors, a_predecessors, a_before, a_behind, a_loop, a_liveAt, a_knownAt, a_code, a_task, a_variable, a_latestTold) (nI n) := by
  have hM : gs_Mk (a_behind (nI n).toNatClampNeg &&& (((1 : Int32) <<< (nI n &&& 31)) ^^^ (-1))) (fun d => C d n ∧ ¬ d = n) := by
    rw [gx_cl hn]
    exact gs_Mk_andn (hC n hn) (gs_Mk_bit hn)
  refine ⟨gx_in hn, nm_e ?_⟩
  generalize a_behind (nI n).toNatClampNeg &&& (((1 : Int32) <<< (nI n &&& 31)) ^^^ (-1)) = w at hM
  refine pk_loop (fun m i (_ : Unit) => wX_nearest__behind_12 post w f_stale f_seen f_seenCount f_isStraight f_meetings f_codeCount f_taskCount f_hasRun f_inputLeft f_toldCount f_lastNode f_hasStopped a_actKind a_actVariable a_actOperand a_endKind a_endVariable a_endX a_endY a_path a_pathSide a_leaving a_numberOf a_nodeAt a_successors a_predecessors a_before a_behind a_loop a_liveAt a_knownAt a_code a_task a_variable a_latestTold m (nI i)) (fun i _ => ∀ d, d < i → ¬ gs_near C n d) 16 0 () (by omega) (fun j hj => absurd hj (Nat.not_lt_zero j)) ?_ ?_
  · rintro m _ hI
    exact br_t gx_x16 (h _ (Or.inr ⟨rfl, hI⟩))
  · rintro m i _ hi hI ih
    have up : ¬ gs_near C n i → ∀ d, d < i + 1 → ¬ gs_near C n d := fun q d hd => by
      by_cases e : d = i
      · exact e ▸ q
      · exact hI d (by omega)
    have hz : (w &&& ((a_behind (nI i).toNatClampNeg) ^^^ (-1))) = 0 ↔ ∀ e, e < 16 → ¬ ((C e n ∧ ¬ e = n) ∧ ¬ C e i) := by
      rw [gx_cl hi]
      exact gs_Mk_z (gs_Mk_andn hM (hC i hi))
    refine br_f (gx_16 hi) (gx_hm hM hi (fun q => ⟨gx_in hi, br_c (fun y => ?_) (fun y => ?_)⟩) (fun q => ?_))
    · refine h _ (Or.inl ⟨i, hi, rfl, ⟨q.2, q.1, fun e he z1 z2 => ?_⟩, hI⟩)
      apply Classical.byContradiction
      exact fun z3 => hz.mp y e he ⟨⟨z2, z1⟩, z3⟩
    · refine nm_r (nI_1 i) (ih () (up (fun z => y (hz.mpr (fun e he w2 => w2.2 (z.2.2 e he w2.1.2 w2.1.1))))))
    · exact nm_r (nI_1 i) (ih () (up (fun z => q ⟨z.2.1, z.1⟩)))
theorem gx_border_behind {post : Int32 → Prop} {C K : Nat → Nat → Prop} {t : Nat} (ht : t < 16) (hC : ∀ n, n < 16 → gs_Mk (a_behind n) (fun d => C d n)) (hL : ∀ n, n < 16 → gs_Mk (a_successors n) (K n))
    (h : ∀ r, gs_Mk r (fun n => (n = t ∨ ¬ C t n) ∧ ∃ p, p < 16 ∧ K n p ∧ C t p) → post r) : wpX_border__behind_successors post (f_stale, f_seen, f_seenCount, f_isStraight, f_meetings, f_codeCount, f_taskCount, f_hasRun, f_inputLeft, f_toldCount, f_lastNode, f_hasStopped, a_actKind, a_actVariable, a_actOperand, a_endKind, a_endVariable, a_endX, a_endY, a_path, a_pathSide, a_leaving, a_numberOf, a_nodeAt, a_successors, a_predecessors, a_before, a_behind, a_loop, a_liveAt, a_knownAt, a_code, a_task, a_variable, a_latestTold) (nI t) := by
  refine pk_loop (fun m i r => wX_border__behind_successors_5 post (nI t) f_stale f_seen f_seenCount f_isStraight f_meetings f_codeCount f_taskCount f_hasRun f_inputLeft f_toldCount f_lastNode f_hasStopped a_actKind a_actVariable a_actOperand a_endKind a_endVariable a_endX a_endY a_path a_pathSide a_leaving a_numberOf a_nodeAt a_successors a_predecessors a_before a_behind a_loop a_liveAt a_knownAt a_code a_task a_variable a_latestTold m r (nI i)) (fun i r => gs_Mk r (fun n => n < i ∧ (n = t ∨ ¬ C t n) ∧ ∃ p, p < 16 ∧ K n p ∧ C t p)) 16 0 0 (by omega) (gs_Mk_0 (fun i _ z => absurd z.1 (Nat.not_lt_zero i))) ?_ ?_
  · rintro m r hI
    exact br_t gx_x16 (h r (gs_Mk_iff hI (fun n hn => ⟨fun z => z.2, fun z => ⟨hn, z⟩⟩)))
  · rintro m i r hi hI ih
    refine br_f (gx_16 hi) ?_
    refine pk_loop (fun m' j r => wX_border__behind_successors_15 post (wX_border__behind_successors_5 post (nI t) f_stale f_seen f_seenCount f_isStraight f_meetings f_codeCount f_taskCount f_hasRun f_inputLeft f_toldCount f_lastNode f_hasStopped a_actKind a_actVariable a_actOperand a_endKind a_endVariable a_endX a_endY a_path a_pathSide a_leaving a_numberOf a_nodeAt a_successors a_predecessors a_before a_behind a_loop a_liveAt a_knownAt a_code a_task a_variable a_latestTold m) (nI t) (nI i) f_stale f_seen f_seenCount f_isStraight f_meetings f_codeCount f_taskCount f_hasRun f_inputLeft f_toldCount f_lastNode f_hasStopped a_actKind a_actVariable a_actOperand a_endKind a_endVariable a_endX a_endY a_path a_pathSide a_leaving a_numberOf a_nodeAt a_successors a_predecessors a_before a_behind a_loop a_liveAt a_knownAt a_code a_task a_variable a_latestTold m' r (nI j)) (fun j r => gs_Mk r (fun n => (n < i ∧ (n = t ∨ ¬ C t n) ∧ ∃ p, p < 16 ∧ K n p ∧ C t p) ∨ (n = i ∧ (n = t ∨ ¬ C t n) ∧ ∃ p, p < j ∧ K n p ∧ C t p))) 16 0 r (by omega) (gs_Mk_iff hI (fun n _ => ⟨Or.inl, fun z => z.elim id (fun ⟨_, _, p, z, _⟩ => absurd z (Nat.not_lt_zero p))⟩)) ?_ ?_
    · rintro m' r hJ
      refine br_t gx_x16 (nm_r (nI_1 i) (ih r (gs_Mk_iff hJ (fun n _ => ?_))))
      constructor
      · rintro (z | ⟨rfl, z⟩)
        · exact ⟨by omega, z.2⟩
        · exact ⟨by omega, z⟩
      · rintro ⟨z1, z2⟩
        by_cases e : n = i
        · exact Or.inr ⟨e, z2⟩
        · exact Or.inl ⟨by omega, z2⟩
    · rintro m' j r hj hJ ihj
      have keep : ¬ ((i = t ∨ ¬ C t i) ∧ K i j ∧ C t j) → gs_Mk r (fun n => (n < i ∧ (n = t ∨ ¬ C t n) ∧ ∃ p, p < 16 ∧ K n p ∧ C t p) ∨ (n = i ∧ (n = t ∨ ¬ C t n) ∧ ∃ p, p < j + 1 ∧ K n p ∧ C t p)) := fun q => gs_Mk_iff hJ (fun n _ => by
        constructor
        · rintro (z | ⟨z1, z2, p, z3, z4⟩)
          · exact Or.inl z
          · exact Or.inr ⟨z1, z2, p, by omega, z4⟩
        · rintro (z | ⟨z1, z2, p, z3, z4⟩)
          · exact Or.inl z
          · by_cases e : p = j
            · subst e
              subst z1
              exact absurd ⟨z2, z4⟩ q
            · exact Or.inr ⟨z1, z2, p, by omega, z4⟩)
      have put : ((i = t ∨ ¬ C t i) ∧ K i j ∧ C t j) → gs_Mk (r ||| ((1 : Int32) <<< (nI i &&& 31))) (fun n => (n < i ∧ (n = t ∨ ¬ C t n) ∧ ∃ p, p < 16 ∧ K n p ∧ C t p) ∨ (n = i ∧ (n = t ∨ ¬ C t n) ∧ ∃ p, p < j + 1 ∧ K n p ∧ C t p)) := fun q => gs_Mk_iff (gs_Mk_set hJ hi) (fun n _ => by
        constructor
        · rintro ((z | ⟨z1, z2, p, z3, z4⟩) | rfl)
          · exact Or.inl z
          · exact Or.inr ⟨z1, z2, p, by omega, z4⟩
          · exact Or.inr ⟨rfl, q.1, j, by omega, q.2⟩
        · rintro (z | ⟨z1, _⟩)
          · exact Or.inl (Or.inl z)
          · exact Or.inr z1)
      refine br_f (gx_16 hj) ⟨gx_in hi, gx_hma hL hi hj (fun q => ⟨gx_in hj, gx_hma hC hj ht (fun y => ?_) (fun y => ?_)⟩) (fun q => ?_)⟩
      · refine br_f (by decide) (pk_eq i t (fun e => ?_) (fun e => ⟨gx_in hi, gx_hma hC hi ht (fun w => ?_) (fun w => ?_)⟩))
        · exact nm_e (nm_r (nI_1 j) (ihj _ (put ⟨Or.inl e, q, y⟩)))
        · exact nm_r (nI_1 j) (ihj _ (keep (fun z => z.1.elim (fun z => e z) (fun z => z w))))
        · exact nm_e (nm_r (nI_1 j) (ihj _ (put ⟨Or.inr w, q, y⟩)))
      · exact br_t rfl (nm_r (nI_1 j) (ihj _ (keep (fun z => y z.2.2))))
      · exact br_t rfl (nm_r (nI_1 j) (ihj _ (keep (fun z => q z.2.1))))
end
