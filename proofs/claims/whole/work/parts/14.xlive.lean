/-! X: live variables -/
section
variable (ak av ac ek ev : Nat → Nat)
def gs_rep (n v : Nat) : Prop := (ak n = 1 ∨ ak n = 3 ∨ ak n = 5) ∧ av n = v
def gs_look (n v : Nat) : Prop := ((ak n = 2 ∨ ak n = 4) ∧ av n = v) ∨ (ak n = 3 ∧ ac n = v)
def gs_hit (n v : Nat) : Prop := gs_look ak av ac n v ∨ (¬ gs_rep ak av n v ∧ ek n = 2 ∧ ev n = v)
def gs_rpm (n : Nat) : Int32 := if ak n = 1 ∨ ak n = 3 ∨ ak n = 5 then (1 : Int32) <<< (nI (av n) &&& 31) else 0
/-- v is live at n -/
def gs_liv (ex ey : Nat → Nat) (v n : Nat) : Prop := ∃ m, gs_cl (fun x => x = n) (fun j k => gs_E ek ex ey j k ∧ ¬ gs_rep ak av j v) m ∧ gs_hit ak av ac ek ev m v
/-- the acts as X holds them -/
def gx_GA (a_actKind a_actVariable a_actOperand a_endVariable : Nat → Int32) : Prop :=
  (∀ n, ak n ≤ 5) ∧ (∀ n, av n < 4) ∧ (∀ n, ac n < 16) ∧ (∀ n, ak n = 3 → ac n < 4) ∧ (∀ n, ev n < 4) ∧ (∀ n, a_actKind n = nI (ak n)) ∧ (∀ n, a_actVariable n = nI (av n)) ∧ (∀ n, a_actOperand n = nI (ac n)) ∧ (∀ n, a_endVariable n = nI (ev n))
end
section
variable {f_stale f_seen f_seenCount f_isStraight f_meetings f_codeCount f_taskCount f_hasRun f_toldCount f_lastNode f_hasStopped : Int32} {f_inputLeft : Int64} {a_actKind a_actVariable a_actOperand a_endKind a_endVariable a_endX a_endY a_path a_pathSide a_leaving a_numberOf a_nodeAt a_successors a_predecessors a_before a_behind a_loop a_liveAt a_knownAt a_code a_task a_variable a_latestTold : Nat → Int32} {ek ex ey ak av ac ev : Nat → Nat}
theorem gs_rpm_Mk (hv : ∀ n, av n < 4) (n : Nat) : gs_Mk (gs_rpm ak av n) (gs_rep ak av n) := by
  have := hv n
  unfold gs_rpm
  by_cases z : ak n = 1 ∨ ak n = 3 ∨ ak n = 5
  · rw [if_pos z]
    exact gs_Mk_iff (gs_Mk_bit (by omega)) (fun i _ => ⟨fun q => ⟨z, q.symm⟩, fun q => q.2.symm⟩)
  · rw [if_neg z]
    exact gs_Mk_0 (fun i _ q => z q.1)
theorem gx_repl {post : Int32 → Prop} {n : Nat} (GA : gx_GA ak av ac ev a_actKind a_actVariable a_actOperand a_endVariable) (hn : n < 16) (h : post (gs_rpm ak av n)) : wpX_replacedBy post (f_stale, f_seen, f_seenCount, f_isStraight, f_meetings, f_codeCount, f_taskCount, f_hasRun, f_inputLeft, f_toldCount, f_lastNode, f_hasStopped, a_actKind, a_actVariable, a_actOperand, a_endKind, a_endVariable, a_endX, a_endY, a_path, a_pathSide, a_leaving, a_numberOf, a_nodeAt, a_successors, a_predecessors, a_before, a_behind, a_loop, a_liveAt, a_knownAt, a_code, a_task, a_variable, a_latestTold) (nI n) := by
  obtain ⟨g1, g2, g3, g4, g5, g6, g7, g8, g9⟩ := GA
  have ka := g1 n
  have eq : ∀ b, b < 6 → (nI (ak n) = nI b ↔ ak n = b) := fun b hb => nI_eq (by omega) (by omega)
  have v0 : wX_replacedBy_27 post (nI n) 1 f_stale f_seen f_seenCount f_isStraight f_meetings f_codeCount f_taskCount f_hasRun f_inputLeft f_toldCount f_lastNode f_hasStopped a_actKind a_actVariable a_actOperand a_endKind a_endVariable a_endX a_endY a_path a_pathSide a_leaving a_numberOf a_nodeAt a_successors a_predecessors a_before a_behind a_loop a_liveAt a_knownAt a_code a_task a_variable a_latestTold ↔ post ((1 : Int32) <<< (nI (av n) &&& 31)) := by
    unfold wX_replacedBy_27
    rw [gx_cl hn, g7]
    exact ⟨fun z => (z.2 (by decide)).2, fun z => ⟨fun q => absurd q (by decide), fun _ => ⟨gx_in hn, z⟩⟩⟩
  have v1 : (ak n = 1 ∨ ak n = 3 ∨ ak n = 5) → wX_replacedBy_22 post (nI n) f_stale f_seen f_seenCount f_isStraight f_meetings f_codeCount f_taskCount f_hasRun f_inputLeft f_toldCount f_lastNode f_hasStopped a_actKind a_actVariable a_actOperand a_endKind a_endVariable a_endX a_endY a_path a_pathSide a_leaving a_numberOf a_nodeAt a_successors a_predecessors a_before a_behind a_loop a_liveAt a_knownAt a_code a_task a_variable a_latestTold := fun z => by
    refine v0.mpr ?_
    unfold gs_rpm at h
    rw [if_pos z] at h
    exact h
  refine ⟨gx_in hn, nm_r (e' := nI (ak n)) (by rw [gx_cl hn, g6]) (br_c (fun z => v1 (Or.inl ((eq 1 (by omega)).mp z))) (fun z1 => br_c (fun z => v1 (Or.inr (Or.inl ((eq 3 (by omega)).mp z)))) (fun z3 => br_c (fun z => v1 (Or.inr (Or.inr ((eq 5 (by omega)).mp z)))) (fun z5 => ?_))))⟩
  refine br_t rfl ?_
  unfold gs_rpm at h
  rw [if_neg] at h
  · exact h
  · rintro (z | z | z)
    · exact z1 ((eq 1 (by omega)).mpr z)
    · exact z3 ((eq 3 (by omega)).mpr z)
    · exact z5 ((eq 5 (by omega)).mpr z)
theorem gx_look {post : Int32 → Prop} {n : Nat} (GE : gx_GE ek ex ey a_endKind a_endX a_endY) (GA : gx_GA ak av ac ev a_actKind a_actVariable a_actOperand a_endVariable) (hn : n < 16) (h : ∀ r, gs_Mk r (gs_hit ak av ac ek ev n) → post r) : wpX_lookedAtBy post (f_stale, f_seen, f_seenCount, f_isStraight, f_meetings, f_codeCount, f_taskCount, f_hasRun, f_inputLeft, f_toldCount, f_lastNode, f_hasStopped, a_actKind, a_actVariable, a_actOperand, a_endKind, a_endVariable, a_endX, a_endY, a_path, a_pathSide, a_leaving, a_numberOf, a_nodeAt, a_successors, a_predecessors, a_before, a_behind, a_loop, a_liveAt, a_knownAt, a_code, a_task, a_variable, a_latestTold) (nI n) := by
  have GA' := GA
  obtain ⟨g1, g2, g3, g4, g5, g6, g7, g8, g9⟩ := GA
  have ka := g1 n
  have eq : ∀ b, b < 6 → (nI (ak n) = nI b ↔ ak n = b) := fun b hb => nI_eq (by omega) (by omega)
  have hk2 := GE.1 n
  have e2 : (a_endKind (nI n).toNatClampNeg = 2) ↔ ek n = 2 := by
    rw [gx_cl hn, GE.2.2.2.1]
    exact nI_eq (b := 2) (by omega) (by decide)
  have s3 : ∀ r, gs_Mk r (gs_look ak av ac n) → wX_lookedAtBy_42 post (nI n) r f_stale f_seen f_seenCount f_isStraight f_meetings f_codeCount f_taskCount f_hasRun f_inputLeft f_toldCount f_lastNode f_hasStopped a_actKind a_actVariable a_actOperand a_endKind a_endVariable a_endX a_endY a_path a_pathSide a_leaving a_numberOf a_nodeAt a_successors a_predecessors a_before a_behind a_loop a_liveAt a_knownAt a_code a_task a_variable a_latestTold := by
    intro r hr
    refine ⟨gx_in hn, br_c (fun z => ⟨gx_in hn, gx_repl GA' hn (nm_e (h _ ?_))⟩) (fun z => h _ ?_)⟩
    · rw [gx_cl hn, g9]
      have := g5 n
      apply gs_Mk_iff (gs_Mk_or hr (gs_Mk_andn (gs_Mk_bit (s := ev n) (by omega)) (gs_rpm_Mk g2 n)))
      intro i _
      constructor
      · rintro (q | ⟨q1, q2⟩)
        · exact Or.inl q
        · exact Or.inr ⟨q2, e2.mp z, q1.symm⟩
      · rintro (q | ⟨q1, _, q2⟩)
        · exact Or.inl q
        · exact Or.inr ⟨q2.symm, q1⟩
    · apply gs_Mk_iff hr
      intro i _
      exact ⟨Or.inl, fun q => q.elim id (fun q => absurd (e2.mpr q.2.1) z)⟩
  have av4 := g2 n
  have s2 : ∀ r, gs_Mk r (fun i => (ak n = 2 ∨ ak n = 4) ∧ av n = i) → wX_lookedAtBy_28 post (nI n) (nI (ak n)) r f_stale f_seen f_seenCount f_isStraight f_meetings f_codeCount f_taskCount f_hasRun f_inputLeft f_toldCount f_lastNode f_hasStopped a_actKind a_actVariable a_actOperand a_endKind a_endVariable a_endX a_endY a_path a_pathSide a_leaving a_numberOf a_nodeAt a_successors a_predecessors a_before a_behind a_loop a_liveAt a_knownAt a_code a_task a_variable a_latestTold := by
    intro r hr
    refine br_c (fun z => ⟨gx_in hn, nm_e (s3 _ ?_)⟩) (fun z => s3 _ ?_)
    · have z3 := (eq 3 (by omega)).mp z
      rw [gx_cl hn, g8]
      have := g4 n z3
      apply gs_Mk_iff (gs_Mk_bit (s := ac n) (by omega))
      intro i _
      constructor
      · exact fun q => Or.inr ⟨z3, q.symm⟩
      · rintro (⟨q, _⟩ | ⟨_, q⟩)
        · omega
        · exact q.symm
    · apply gs_Mk_iff hr
      intro i _
      constructor
      · exact fun q => Or.inl q
      · rintro (q | ⟨q, _⟩)
        · exact q
        · exact absurd ((eq 3 (by omega)).mpr q) z
  have s1 : (ak n = 2 ∨ ak n = 4) → wX_lookedAtBy_19 post (nI n) (nI (ak n)) f_stale f_seen f_seenCount f_isStraight f_meetings f_codeCount f_taskCount f_hasRun f_inputLeft f_toldCount f_lastNode f_hasStopped a_actKind a_actVariable a_actOperand a_endKind a_endVariable a_endX a_endY a_path a_pathSide a_leaving a_numberOf a_nodeAt a_successors a_predecessors a_before a_behind a_loop a_liveAt a_knownAt a_code a_task a_variable a_latestTold := by
    intro z
    refine ⟨gx_in hn, nm_e (s2 _ ?_)⟩
    rw [gx_cl hn, g7]
    exact gs_Mk_iff (gs_Mk_bit (s := av n) (by omega)) (fun i _ => ⟨fun q => ⟨z, q.symm⟩, fun q => q.2.symm⟩)
  refine ⟨gx_in hn, nm_r (e' := nI (ak n)) (by rw [gx_cl hn, g6]) (br_c (fun z => s1 (Or.inl ((eq 2 (by omega)).mp z))) (fun z2 => br_c (fun z => s1 (Or.inr ((eq 4 (by omega)).mp z))) (fun z4 => s2 _ (gs_Mk_0 ?_))))⟩
  rintro i _ ⟨q | q, _⟩
  · exact z2 ((eq 2 (by omega)).mpr q)
  · exact z4 ((eq 4 (by omega)).mpr q)
theorem gx_liveBehind {post : Int32 → Prop} {n : Nat} (hn : n < 16) (h : post (gs_lb a_successors a_liveAt n 16)) : wpX_liveBehind post (f_stale, f_seen, f_seenCount, f_isStraight, f_meetings, f_codeCount, f_taskCount, f_hasRun, f_inputLeft, f_toldCount, f_lastNode, f_hasStopped, a_actKind, a_actVariable, a_actOperand, a_endKind, a_endVariable, a_endX, a_endY, a_path, a_pathSide, a_leaving, a_numberOf, a_nodeAt, a_successors, a_predecessors, a_before, a_behind, a_loop, a_liveAt, a_knownAt, a_code, a_task, a_variable, a_latestTold) (nI n) := by
  refine pk_loop (fun m i s => wX_liveBehind_4 post (nI n) f_stale f_seen f_seenCount f_isStraight f_meetings f_codeCount f_taskCount f_hasRun f_inputLeft f_toldCount f_lastNode f_hasStopped a_actKind a_actVariable a_actOperand a_endKind a_endVariable a_endX a_endY a_path a_pathSide a_leaving a_numberOf a_nodeAt a_successors a_predecessors a_before a_behind a_loop a_liveAt a_knownAt a_code a_task a_variable a_latestTold m s (nI i)) (fun i s => s = gs_lb a_successors a_liveAt n i) 16 0 0 (by omega) rfl ?_ ?_
  · rintro m s rfl
    exact br_t gx_x16 h
  · rintro m i s hi rfl ih
    refine br_f (gx_16 hi) ⟨gx_in hn, ?_⟩
    rw [gx_cl hn]
    refine gx_hb hi (fun q => ⟨gx_in hi, nm_r (e' := gs_lb a_successors a_liveAt n (i + 1)) ?_ (nm_r (nI_1 i) (ih _ rfl))⟩) (fun q => nm_r (nI_1 i) (ih _ ?_))
    · rw [gx_cl hi]
      exact (if_pos q).symm
    · exact (if_neg (fun z => by rw [q] at z; exact nomatch z)).symm
theorem gx_live {post : SX → Prop} (GE : gx_GE ek ex ey a_endKind a_endX a_endY) (GA : gx_GA ak av ac ev a_actKind a_actVariable a_actOperand a_endVariable) (LK : gx_LK ek ex ey a_successors a_predecessors)
    (h : ∀ l, (∀ n, gs_sn ek ex ey n = true → gs_Mk (l n) (fun v => gs_liv ak av ac ek ev ex ey v n)) → post (f_stale, f_seen, f_seenCount, f_isStraight, f_meetings, f_codeCount, f_taskCount, f_hasRun, f_inputLeft, f_toldCount, f_lastNode, f_hasStopped, a_actKind, a_actVariable, a_actOperand, a_endKind, a_endVariable, a_endX, a_endY, a_path, a_pathSide, a_leaving, a_numberOf, a_nodeAt, a_successors, a_predecessors, a_before, a_behind, a_loop, l, a_knownAt, a_code, a_task, a_variable, a_latestTold)) : wpX_findLive post (f_stale, f_seen, f_seenCount, f_isStraight, f_meetings, f_codeCount, f_taskCount, f_hasRun, f_inputLeft, f_toldCount, f_lastNode, f_hasStopped, a_actKind, a_actVariable, a_actOperand, a_endKind, a_endVariable, a_endX, a_endY, a_path, a_pathSide, a_leaving, a_numberOf, a_nodeAt, a_successors, a_predecessors, a_before, a_behind, a_loop, a_liveAt, a_knownAt, a_code, a_task, a_variable, a_latestTold) := by
  have hx := GE.2.1
  have hy := GE.2.2.1
  have fin : ∀ l, (∀ n, n < 16 → gs_Mk (l n) (gs_hit ak av ac ek ev n)) → ∀ n, gs_sn ek ex ey n = true → gs_Mk (gs_it (gs_ls a_successors (gs_rpm ak av)) 15 l n) (fun v => gs_liv ak av ac ek ev ex ey v n) := by
    intro l hl n hn v
    have hn16 := gs_sn_lt hx hy hn
    rcases Nat.lt_or_ge v 32 with hv | hv
    · rw [gs_live_ok hv hn16]
      constructor
      · rintro ⟨m, hm, h1, h2⟩
        have h3 := (hl m hm v).mp h2
        refine ⟨h3.1, m, ?_, h3.2⟩
        refine gs_cl_mono h1 (fun j e => gs_cl_b e) (fun j k _ s e => gs_cl_s s ⟨((LK.1 j e.1 k).mp e.2.2.1).2.2, fun q => e.2.2.2 ((gs_rpm_Mk GA.2.1 j v).mpr ⟨h3.1, q⟩)⟩)
      · rintro ⟨hv16, m, h1, h2⟩
        have key := gs_cl_i h1 (fun m => gs_sn ek ex ey m = true ∧ gs_cl (fun x => x = n) (fun j k => j < 16 ∧ k < 16 ∧ bt (a_successors j) k = true ∧ ¬ bt (gs_rpm ak av j) v = true) m) ?_ ?_
        · have m16 := gs_sn_lt hx hy key.1
          exact ⟨m, m16, key.2, (hl m m16 v).mpr ⟨hv16, h2⟩⟩
        · rintro j rfl
          exact ⟨hn, gs_cl_b rfl⟩
        · rintro j k _ ⟨s1, s2⟩ ⟨e1, e2⟩
          have j16 := gs_sn_lt hx hy s1
          have k1 := gs_sn_E hx hy s1 e1
          have k16 := gs_sn_lt hx hy k1
          exact ⟨k1, gs_cl_s s2 ⟨j16, k16, (LK.1 j j16 k).mpr ⟨k16, s1, e1⟩, fun q => e2 ((gs_rpm_Mk GA.2.1 j v).mp q).2⟩⟩
    · rw [b_big hv]
      constructor
      · exact fun z => nomatch z
      · intro z
        omega
  refine pk_loop (fun m i (s : Nat → Int32) => wX_findLive_2 post f_stale f_seen f_seenCount f_isStraight f_meetings f_codeCount f_taskCount f_hasRun f_inputLeft f_toldCount f_lastNode f_hasStopped m (nI i) a_actKind a_actVariable a_actOperand a_endKind a_endVariable a_endX a_endY a_path a_pathSide a_leaving a_numberOf a_nodeAt a_successors a_predecessors a_before a_behind a_loop s a_knownAt a_code a_task a_variable a_latestTold) (fun i s => ∀ n, n < i → gs_Mk (s n) (gs_hit ak av ac ek ev n)) 16 0 a_liveAt (by omega) (fun j hj => absurd hj (Nat.not_lt_zero j)) ?_ ?_
  · rintro m l hl
    refine br_t gx_x16 ?_
    refine pk_loop (fun m i (s : Nat → Int32) => wX_findLive_27 post f_stale f_seen f_seenCount f_isStraight f_meetings f_codeCount f_taskCount f_hasRun f_inputLeft f_toldCount f_lastNode f_hasStopped m (nI i) a_actKind a_actVariable a_actOperand a_endKind a_endVariable a_endX a_endY a_path a_pathSide a_leaving a_numberOf a_nodeAt a_successors a_predecessors a_before a_behind a_loop s a_knownAt a_code a_task a_variable a_latestTold) (fun i s => 1 ≤ i ∧ s = gs_it (gs_ls a_successors (gs_rpm ak av)) (i - 1) l) 16 1 l (by omega) ⟨by omega, rfl⟩ ?_ ?_
    · rintro m s ⟨_, rfl⟩
      exact br_t gx_x16 (h _ (fin l hl))
    · rintro m i s hi ⟨h1, rfl⟩ ih
      refine br_f (gx_16 hi) ?_
      refine pk_loop (fun m' j (s : Nat → Int32) => wX_findLive_35 post (wX_findLive_27 post f_stale f_seen f_seenCount f_isStraight f_meetings f_codeCount f_taskCount f_hasRun f_inputLeft f_toldCount f_lastNode f_hasStopped m) (nI i) f_stale f_seen f_seenCount f_isStraight f_meetings f_codeCount f_taskCount f_hasRun f_inputLeft f_toldCount f_lastNode f_hasStopped m' (nI j) a_actKind a_actVariable a_actOperand a_endKind a_endVariable a_endX a_endY a_path a_pathSide a_leaving a_numberOf a_nodeAt a_successors a_predecessors a_before a_behind a_loop s a_knownAt a_code a_task a_variable a_latestTold) (fun j s => s = gs_ls1 a_successors (gs_rpm ak av) (gs_it (gs_ls a_successors (gs_rpm ak av)) (i - 1) l) j) 16 0 _ (by omega) rfl ?_ ?_
      · rintro m' s rfl
        refine br_t gx_x16 (nm_r (nI_1 i) (ih _ ⟨by omega, ?_⟩))
        obtain ⟨j, rfl⟩ : ∃ j, i = j + 1 := ⟨i - 1, by omega⟩
        exact (gs_it_s (gs_ls a_successors (gs_rpm ak av)) j l).symm
      · rintro m' j s hj rfl ihj
        refine br_f (gx_16 hj) ⟨gx_in hj, gx_liveBehind hj (gx_repl GA hj ⟨gx_in hj, nm_r (e' := gs_ls1 a_successors (gs_rpm ak av) (gs_it (gs_ls a_successors (gs_rpm ak av)) (i - 1) l) (j + 1)) ?_ (nm_r (nI_1 j) (ihj _ rfl))⟩)⟩
        rw [gx_cl hj]
        rfl
  · rintro m i s hi hI ih
    refine br_f (gx_16 hi) (gx_look GE GA hi (fun r hr => ⟨gx_in hi, nm_r (e' := upd s i r) (by rw [gx_cl hi]) (nm_r (nI_1 i) (ih _ (fun n hn => ?_)))⟩))
    by_cases e : n = i
    · subst e
      rw [pk_us]
      exact hr
    · rw [pk_un e]
      exact hI n (by omega)
end
