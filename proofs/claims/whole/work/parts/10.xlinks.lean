/-! X: has, successor, reach, links -/
theorem gx_x16 : (16 : Int32) ≤ nI 16 := by decide
theorem gx_16 {i : Nat} (h : i < 16) : ¬ (16 : Int32) ≤ nI i := nI_ge (b := 16) h (by decide)
theorem gx_in {i : Nat} (h : i < 16) : vp_in (nI i) 16 := vp_in_nI h (by decide)
theorem gx_cl {i : Nat} (h : i < 16) : (nI i).toNatClampNeg = i := nI_clamp (by omega)
theorem gx_hb {A B : Prop} {m : Int32} {s : Nat} (hs : s < 16) (ht : bt m s = true → B) (hf : bt m s = false → A) : wpX_has (fun r => (r = 0 → A) ∧ (¬ r = 0 → B)) m (nI s) := by
  refine ⟨fun h => br_t rfl (hf ((gs_has m (by omega)).mp h)), fun h => br_f (by decide) (ht ?_)⟩
  rw [gs_has m (by omega)] at h
  cases z : bt m s
  · exact absurd z h
  · rfl
theorem gx_hm {A B : Prop} {P : Nat → Prop} {m : Int32} {s : Nat} (hM : gs_Mk m P) (hs : s < 16) (ht : P s → B) (hf : ¬ P s → A) : wpX_has (fun r => (r = 0 → A) ∧ (¬ r = 0 → B)) m (nI s) :=
  gx_hb hs (fun h => ht ((gs_Mk_t hM hs).mp h)) (fun h => hf (fun z => by rw [(gs_Mk_t hM hs).mpr z] at h; exact nomatch h))
theorem gx_hma {A B : Prop} {P : Nat → Nat → Prop} {a : Nat → Int32} {i s : Nat} (hM : ∀ i, i < 16 → gs_Mk (a i) (P i)) (hi : i < 16) (hs : s < 16) (ht : P i s → B) (hf : ¬ P i s → A) : wpX_has (fun r => (r = 0 → A) ∧ (¬ r = 0 → B)) (a (nI i).toNatClampNeg) (nI s) := by
  rw [gx_cl hi]
  exact gx_hm (hM i hi) hs ht hf
theorem gs_sw1_t {so : Int32} {e : Nat → Int32} {r : Int32} {n : Nat} (h : bt so n = true ∨ bt (gs_sw1 so e r n) n = true) : gs_sw1 so e r (n + 1) = gs_sw1 so e r n ||| e n := if_pos h
theorem gs_sw1_f {so : Int32} {e : Nat → Int32} {r : Int32} {n : Nat} (h1 : bt so n = false) (h2 : bt (gs_sw1 so e r n) n = false) : gs_sw1 so e r (n + 1) = gs_sw1 so e r n :=
  if_neg (fun z => z.elim (fun z => by rw [h1] at z; exact nomatch z) (fun z => by rw [h2] at z; exact nomatch z))
theorem pk_loop {σ : Type} (W : Nat → Nat → σ → Prop) (I : Nat → σ → Prop) (e i0 : Nat) (s : σ) (hi : i0 ≤ e) (h0 : I i0 s) (hx : ∀ n s, I e s → W (n + 1) e s)
    (hs : ∀ n i s, i < e → I i s → (∀ s', I (i + 1) s' → W n (i + 1) s') → W (n + 1) i s) : ∃ n, W n i0 s :=
  ⟨e + 1, loop_i W I e hx hs (e + 1) i0 s hi (by omega) h0⟩
/-- the ends as X holds them -/
def gx_GE (ek ex ey : Nat → Nat) (a_endKind a_endX a_endY : Nat → Int32) : Prop :=
  (∀ n, ek n ≤ 2) ∧ (∀ n, ex n < 16) ∧ (∀ n, ey n < 16) ∧ (∀ n, a_endKind n = nI (ek n)) ∧ (∀ n, a_endX n = nI (ex n)) ∧ (∀ n, a_endY n = nI (ey n))
section
variable {f_stale f_seen f_seenCount f_isStraight f_meetings f_codeCount f_taskCount f_hasRun f_toldCount f_lastNode f_hasStopped : Int32} {f_inputLeft : Int64} {a_actKind a_actVariable a_actOperand a_endKind a_endVariable a_endX a_endY a_path a_pathSide a_leaving a_numberOf a_nodeAt a_successors a_predecessors a_before a_behind a_loop a_liveAt a_knownAt a_code a_task a_variable a_latestTold : Nat → Int32} {ek ex ey : Nat → Nat}
theorem gx_succ {post : Int32 → Prop} {n k : Nat} (GE : gx_GE ek ex ey a_endKind a_endX a_endY) (hn : n < 16) (hk : k < 2) (h1 : ∀ s, s < 16 → gs_sc ek ex ey n k = some s → post (nI s)) (h0 : gs_sc ek ex ey n k = none → post (-1)) : wpX_successor post (f_stale, f_seen, f_seenCount, f_isStraight, f_meetings, f_codeCount, f_taskCount, f_hasRun, f_inputLeft, f_toldCount, f_lastNode, f_hasStopped, a_actKind, a_actVariable, a_actOperand, a_endKind, a_endVariable, a_endX, a_endY, a_path, a_pathSide, a_leaving, a_numberOf, a_nodeAt, a_successors, a_predecessors, a_before, a_behind, a_loop, a_liveAt, a_knownAt, a_code, a_task, a_variable, a_latestTold) (nI n) (nI k) := by
  obtain ⟨g1, g2, g3, g4, g5, g6⟩ := GE
  unfold wpX_successor
  simp only [gx_cl hn, g4, g5, g6]
  have k0 : (nI k = 0) ↔ k = 0 := nI_eq (b := 0) (by omega) (by decide)
  have e2 : (nI (ek n) = 2) ↔ ek n = 2 := nI_eq (b := 2) (by have := g1 n; omega) (by decide)
  have e1 : (nI (ek n) = 1) ↔ ek n = 1 := nI_eq (b := 1) (by have := g1 n; omega) (by decide)
  unfold gs_sc at h1 h0
  refine ⟨gx_in hn, br_c (fun z => ?_) (fun z => ⟨gx_in hn, br_c (fun y => ?_) (fun y => ?_)⟩)⟩
  · rw [e2] at z
    rw [if_pos z] at h1 h0
    refine br_c (fun w => ⟨gx_in hn, ?_⟩) (fun w => ⟨gx_in hn, ?_⟩)
    · rw [k0] at w
      exact h1 _ (g2 n) (if_pos w)
    · rw [k0] at w
      exact h1 _ (g3 n) (if_neg w)
  · rw [e2] at z
    rw [e1] at y
    rw [if_neg z] at h1 h0
    refine br_c (fun w => ⟨gx_in hn, ?_⟩) (fun w => ?_)
    · rw [k0] at w
      exact h1 _ (g2 n) (if_pos ⟨y, w⟩)
    · rw [k0] at w
      exact h0 (if_neg (fun q => w q.2))
  · rw [e2] at z
    rw [e1] at y
    rw [if_neg z] at h1 h0
    exact h0 (if_neg (fun q => y q.1))
theorem gx_reach_successors_19 {post : Int32 → Prop} {J9 : Int32 → Int32 → Prop} {x2 x4 r : Int32} (h : J9 (gs_sw 0 (fun n => a_successors n &&& (x2 ^^^ (-1))) r) (x4 + 1)) : ∃ n, wX_reach__successors_19 post J9 x2 x4 f_stale f_seen f_seenCount f_isStraight f_meetings f_codeCount f_taskCount f_hasRun f_inputLeft f_toldCount f_lastNode f_hasStopped a_actKind a_actVariable a_actOperand a_endKind a_endVariable a_endX a_endY a_path a_pathSide a_leaving a_numberOf a_nodeAt a_successors a_predecessors a_before a_behind a_loop a_liveAt a_knownAt a_code a_task a_variable a_latestTold n r 0 := by
  refine pk_loop (fun n i s => wX_reach__successors_19 post J9 x2 x4 f_stale f_seen f_seenCount f_isStraight f_meetings f_codeCount f_taskCount f_hasRun f_inputLeft f_toldCount f_lastNode f_hasStopped a_actKind a_actVariable a_actOperand a_endKind a_endVariable a_endX a_endY a_path a_pathSide a_leaving a_numberOf a_nodeAt a_successors a_predecessors a_before a_behind a_loop a_liveAt a_knownAt a_code a_task a_variable a_latestTold n s (nI i)) (fun i s => s = gs_sw1 0 (fun n => a_successors n &&& (x2 ^^^ (-1))) r i) 16 0 r (by omega) rfl ?_ ?_
  · rintro n s rfl
    exact br_t gx_x16 (nm_e h)
  · rintro n i s hi rfl ih
    refine br_f (gx_16 hi) (gx_hb hi (fun hb => ?_) (fun hb => ?_))
    · refine ⟨gx_in hi, nm_r (e' := gs_sw1 0 (fun n => a_successors n &&& (x2 ^^^ (-1))) r (i + 1)) ?_ (nm_r (nI_1 i) (ih _ rfl))⟩
      rw [gx_cl hi]
      exact (gs_sw1_t (Or.inr hb)).symm
    · exact nm_r (nI_1 i) (ih _ (gs_sw1_f (b_0 i) hb).symm)
theorem gx_reach_successors_9 {post : Int32 → Prop} {x2 r : Int32} (h : post (gs_it (gs_sw 0 (fun n => a_successors n &&& (x2 ^^^ (-1)))) 15 r)) : ∃ n, wX_reach__successors_9 post x2 f_stale f_seen f_seenCount f_isStraight f_meetings f_codeCount f_taskCount f_hasRun f_inputLeft f_toldCount f_lastNode f_hasStopped a_actKind a_actVariable a_actOperand a_endKind a_endVariable a_endX a_endY a_path a_pathSide a_leaving a_numberOf a_nodeAt a_successors a_predecessors a_before a_behind a_loop a_liveAt a_knownAt a_code a_task a_variable a_latestTold n r 1 := by
  refine pk_loop (fun n i s => wX_reach__successors_9 post x2 f_stale f_seen f_seenCount f_isStraight f_meetings f_codeCount f_taskCount f_hasRun f_inputLeft f_toldCount f_lastNode f_hasStopped a_actKind a_actVariable a_actOperand a_endKind a_endVariable a_endX a_endY a_path a_pathSide a_leaving a_numberOf a_nodeAt a_successors a_predecessors a_before a_behind a_loop a_liveAt a_knownAt a_code a_task a_variable a_latestTold n s (nI i)) (fun i s => 1 ≤ i ∧ s = gs_it (gs_sw 0 (fun n => a_successors n &&& (x2 ^^^ (-1)))) (i - 1) r) 16 1 r (by omega) ⟨by omega, rfl⟩ ?_ ?_
  · rintro n s ⟨_, rfl⟩
    exact br_t gx_x16 h
  · rintro n i s hi ⟨h1, rfl⟩ ih
    refine br_f (gx_16 hi) (gx_reach_successors_19 ?_)
    rw [nI_1]
    refine ih _ ⟨by omega, ?_⟩
    obtain ⟨j, rfl⟩ : ∃ j, i = j + 1 := ⟨i - 1, by omega⟩
    exact (gs_it_s _ j r).symm
theorem gx_reach_successors {post : Int32 → Prop} {p1 p2 : Int32} (h : post (gs_rch a_successors p1 p2)) : wpX_reach__successors post (f_stale, f_seen, f_seenCount, f_isStraight, f_meetings, f_codeCount, f_taskCount, f_hasRun, f_inputLeft, f_toldCount, f_lastNode, f_hasStopped, a_actKind, a_actVariable, a_actOperand, a_endKind, a_endVariable, a_endX, a_endY, a_path, a_pathSide, a_leaving, a_numberOf, a_nodeAt, a_successors, a_predecessors, a_before, a_behind, a_loop, a_liveAt, a_knownAt, a_code, a_task, a_variable, a_latestTold) p1 p2 :=
  nm_e (gx_reach_successors_9 h)
theorem gx_reach_predecessors_19 {post : Int32 → Prop} {J9 : Int32 → Int32 → Prop} {x2 x4 r : Int32} (h : J9 (gs_sw 0 (fun n => a_predecessors n &&& (x2 ^^^ (-1))) r) (x4 + 1)) : ∃ n, wX_reach__predecessors_19 post J9 x2 x4 f_stale f_seen f_seenCount f_isStraight f_meetings f_codeCount f_taskCount f_hasRun f_inputLeft f_toldCount f_lastNode f_hasStopped a_actKind a_actVariable a_actOperand a_endKind a_endVariable a_endX a_endY a_path a_pathSide a_leaving a_numberOf a_nodeAt a_successors a_predecessors a_before a_behind a_loop a_liveAt a_knownAt a_code a_task a_variable a_latestTold n r 0 := by
  refine pk_loop (fun n i s => wX_reach__predecessors_19 post J9 x2 x4 f_stale f_seen f_seenCount f_isStraight f_meetings f_codeCount f_taskCount f_hasRun f_inputLeft f_toldCount f_lastNode f_hasStopped a_actKind a_actVariable a_actOperand a_endKind a_endVariable a_endX a_endY a_path a_pathSide a_leaving a_numberOf a_nodeAt a_successors a_predecessors a_before a_behind a_loop a_liveAt a_knownAt a_code a_task a_variable a_latestTold n s (nI i)) (fun i s => s = gs_sw1 0 (fun n => a_predecessors n &&& (x2 ^^^ (-1))) r i) 16 0 r (by omega) rfl ?_ ?_
  · rintro n s rfl
    exact br_t gx_x16 (nm_e h)
  · rintro n i s hi rfl ih
    refine br_f (gx_16 hi) (gx_hb hi (fun hb => ?_) (fun hb => ?_))
    · refine ⟨gx_in hi, nm_r (e' := gs_sw1 0 (fun n => a_predecessors n &&& (x2 ^^^ (-1))) r (i + 1)) ?_ (nm_r (nI_1 i) (ih _ rfl))⟩
      rw [gx_cl hi]
      exact (gs_sw1_t (Or.inr hb)).symm
    · exact nm_r (nI_1 i) (ih _ (gs_sw1_f (b_0 i) hb).symm)
theorem gx_reach_predecessors_9 {post : Int32 → Prop} {x2 r : Int32} (h : post (gs_it (gs_sw 0 (fun n => a_predecessors n &&& (x2 ^^^ (-1)))) 15 r)) : ∃ n, wX_reach__predecessors_9 post x2 f_stale f_seen f_seenCount f_isStraight f_meetings f_codeCount f_taskCount f_hasRun f_inputLeft f_toldCount f_lastNode f_hasStopped a_actKind a_actVariable a_actOperand a_endKind a_endVariable a_endX a_endY a_path a_pathSide a_leaving a_numberOf a_nodeAt a_successors a_predecessors a_before a_behind a_loop a_liveAt a_knownAt a_code a_task a_variable a_latestTold n r 1 := by
  refine pk_loop (fun n i s => wX_reach__predecessors_9 post x2 f_stale f_seen f_seenCount f_isStraight f_meetings f_codeCount f_taskCount f_hasRun f_inputLeft f_toldCount f_lastNode f_hasStopped a_actKind a_actVariable a_actOperand a_endKind a_endVariable a_endX a_endY a_path a_pathSide a_leaving a_numberOf a_nodeAt a_successors a_predecessors a_before a_behind a_loop a_liveAt a_knownAt a_code a_task a_variable a_latestTold n s (nI i)) (fun i s => 1 ≤ i ∧ s = gs_it (gs_sw 0 (fun n => a_predecessors n &&& (x2 ^^^ (-1)))) (i - 1) r) 16 1 r (by omega) ⟨by omega, rfl⟩ ?_ ?_
  · rintro n s ⟨_, rfl⟩
    exact br_t gx_x16 h
  · rintro n i s hi ⟨h1, rfl⟩ ih
    refine br_f (gx_16 hi) (gx_reach_predecessors_19 ?_)
    rw [nI_1]
    refine ih _ ⟨by omega, ?_⟩
    obtain ⟨j, rfl⟩ : ∃ j, i = j + 1 := ⟨i - 1, by omega⟩
    exact (gs_it_s _ j r).symm
theorem gx_reach_predecessors {post : Int32 → Prop} {p1 p2 : Int32} (h : post (gs_rch a_predecessors p1 p2)) : wpX_reach__predecessors post (f_stale, f_seen, f_seenCount, f_isStraight, f_meetings, f_codeCount, f_taskCount, f_hasRun, f_inputLeft, f_toldCount, f_lastNode, f_hasStopped, a_actKind, a_actVariable, a_actOperand, a_endKind, a_endVariable, a_endX, a_endY, a_path, a_pathSide, a_leaving, a_numberOf, a_nodeAt, a_successors, a_predecessors, a_before, a_behind, a_loop, a_liveAt, a_knownAt, a_code, a_task, a_variable, a_latestTold) p1 p2 :=
  nm_e (gx_reach_predecessors_9 h)
end
