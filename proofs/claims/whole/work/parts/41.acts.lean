/-! act and end, both sides -/
theorem gs_updI {a : Nat → Int32} {f : Nat → Nat} (h : ∀ m, a m = nI (f m)) (n k : Nat) : ∀ m, upd a n (nI k) m = nI (gs_un1 f n k m) := by
  intro m
  unfold gs_un1
  by_cases e : m = n
  · rw [if_pos e, e, pk_us]
  · rw [if_neg e, pk_un e]
    exact h m
theorem gs_un1_all {f : Nat → Nat} {P : Nat → Prop} {n k : Nat} (h : ∀ m, P (f m)) (hk : P k) : ∀ m, P (gs_un1 f n k m) := by
  intro m
  unfold gs_un1
  by_cases e : m = n
  · rw [if_pos e]
    exact hk
  · rw [if_neg e]
    exact h m
theorem gs_un1_2 {f g : Nat → Nat} {P : Nat → Nat → Prop} {n k l : Nat} (h : ∀ m, P (f m) (g m)) (hk : P k l) : ∀ m, P (gs_un1 f n k m) (gs_un1 g n l m) := by
  intro m
  unfold gs_un1
  by_cases e : m = n
  · rw [if_pos e, if_pos e]
    exact hk
  · rw [if_neg e, if_neg e]
    exact h m
/-- where a kind's condition holds, the array shows the number -/
theorem gs_updC {a : Nat → Int32} {f g : Nat → Nat} {C : Nat → Prop} {p : Int32} {n k l : Nat} (h : ∀ m, C (f m) → a m = nI (g m)) (hk : C k → p = nI l) : ∀ m, C (gs_un1 f n k m) → upd a n p m = nI (gs_un1 g n l m) := by
  intro m
  unfold gs_un1
  by_cases e : m = n
  · rw [if_pos e, if_pos e, e, pk_us]
    exact hk
  · rw [if_neg e, if_neg e, pk_un e]
    exact h m
def gs_cA (n k v c : Nat) (p0 p1 p2 p3 : Int32) : Prop := n < 16 ∧ k ≤ 5 ∧ p0 = nI n ∧ p1 = nI k ∧ (k ≠ 0 → v < 4 ∧ p2 = nI v) ∧ (k = 0 → v = 0) ∧ (k = 1 ∨ k = 2 → c < 16 ∧ p3 = nI c) ∧ (k = 3 → c < 4 ∧ p3 = nI c) ∧ (k = 0 ∨ k = 4 ∨ k = 5 → c = 0)
def gs_cE (n k v x y : Nat) (p0 p1 p2 p3 p4 : Int32) : Prop := n < 16 ∧ k ≤ 2 ∧ p0 = nI n ∧ p1 = nI k ∧ (k ≠ 0 → x < 16 ∧ p3 = nI x) ∧ (k = 0 → x = 0) ∧ (k = 2 → v < 4 ∧ p2 = nI v ∧ y < 16 ∧ p4 = nI y) ∧ (k ≠ 2 → v = 0 ∧ y = 0)
theorem gx_isVal {A B : Prop} {p : Int32} (ht : ∀ n, n < 16 → p = nI n → B) (hf : (∀ n, n < 16 → p ≠ nI n) → A) : wpX_isValue (fun r => (r = 0 → A) ∧ (¬ r = 0 → B)) p := by
  refine br_c (fun z => br_t rfl (hf (fun n hn e => ?_))) (fun z => ?_)
  · subst e
    exact nI_pos (by omega) z
  · obtain ⟨j, hj, rfl⟩ := nI_of z
    refine pk_le 16 j (fun w => br_t rfl (hf (fun n hn e => ?_))) (fun w => br_f (by decide) (ht j w rfl))
    have := (nI_eq hj (by omega)).mp e
    omega
theorem gx_isVarP {post : Int32 → Prop} {p : Int32} (ht : ∀ n, n < 4 → p = nI n → post 1) (hf : (∀ n, n < 4 → p ≠ nI n) → post 0) : wpX_isVariable post p := by
  refine br_c (fun z => hf (fun n hn e => ?_)) (fun z => ?_)
  · subst e
    exact nI_pos (by omega) z
  · obtain ⟨j, hj, rfl⟩ := nI_of z
    refine pk_le 4 j (fun w => hf (fun n hn e => ?_)) (fun w => ht j w rfl)
    have := (nI_eq hj (by omega)).mp e
    omega
theorem gx_isNodeP {post : Int32 → Prop} {p : Int32} (ht : ∀ n, n < 16 → p = nI n → post 1) (hf : (∀ n, n < 16 → p ≠ nI n) → post 0) : wpX_isNode post p := by
  refine br_c (fun z => hf (fun n hn e => ?_)) (fun z => ?_)
  · subst e
    exact nI_pos (by omega) z
  · obtain ⟨j, hj, rfl⟩ := nI_of z
    refine pk_le 16 j (fun w => hf (fun n hn e => ?_)) (fun w => ht j w rfl)
    have := (nI_eq hj (by omega)).mp e
    omega
theorem gx_isAct {A B : Prop} {p1 p2 p3 : Int32} {n : Nat} (hn : n < 16) (ht : (∃ k v c, gs_cA n k v c (nI n) p1 p2 p3) → B) (hf : (¬ ∃ k v c, gs_cA n k v c (nI n) p1 p2 p3) → A) : wpX_isAct (fun r => (r = 0 → A) ∧ (¬ r = 0 → B)) p1 p2 p3 := by
  have bad : (∀ k, k ≤ 5 → p1 ≠ nI k) → A := fun q => hf (fun ⟨k, v, c, w⟩ => q k w.2.1 w.2.2.2.1)
  refine br_c (fun z => br_t rfl (bad (fun k hk e => ?_))) (fun z => ?_)
  · subst e
    exact nI_pos (by omega) z
  · obtain ⟨k, hk, rfl⟩ := nI_of z
    refine pk_lt 5 k (fun w => br_t rfl (bad (fun j hj e => ?_))) (fun w => ?_)
    · have := (nI_eq hk (by omega)).mp e
      omega
    · have inj : ∀ j, j ≤ 5 → nI k = nI j → j = k := fun j hj e => ((nI_eq hk (by omega)).mp e).symm
      have h12 : (k = 1 ∨ k = 2) → wX_isAct_42 (fun r => (r = 0 → A) ∧ (¬ r = 0 → B)) p2 p3 := fun hc => by
        refine gx_isVar (fun v hv e => gx_isVal (fun c hc' e' => br_f (by decide) (ht ⟨k, v, c, hn, w, rfl, rfl, fun _ => ⟨hv, e⟩, fun q => by omega, fun _ => ⟨hc', e'⟩, fun q => by omega, fun q => by omega⟩)) (fun q => br_t rfl (hf ?_))) (fun q => br_t rfl (hf ?_))
        · rintro ⟨j, v', c', y⟩
          have := inj j y.2.1 y.2.2.2.1
          subst this
          exact q c' (y.2.2.2.2.2.2.1 hc).1 (y.2.2.2.2.2.2.1 hc).2
        · rintro ⟨j, v', c', y⟩
          have := inj j y.2.1 y.2.2.2.1
          subst this
          exact q v' (y.2.2.2.2.1 (by omega)).1 (y.2.2.2.2.1 (by omega)).2
      have h45 : (k = 4 ∨ k = 5) → wX_isAct_82 (fun r => (r = 0 → A) ∧ (¬ r = 0 → B)) p2 := fun hc => by
        refine gx_isVarP (fun v hv e => ⟨rfl, br_f (by decide) (ht ⟨k, v, 0, hn, w, rfl, rfl, fun _ => ⟨hv, e⟩, fun q => by omega, fun q => by omega, fun q => by omega, fun _ => rfl⟩)⟩) (fun q => ⟨rfl, br_t rfl (hf ?_)⟩)
        rintro ⟨j, v', c', y⟩
        have := inj j y.2.1 y.2.2.2.1
        subst this
        exact q v' (y.2.2.2.2.1 (by omega)).1 (y.2.2.2.2.1 (by omega)).2
      refine pk_eq k 0 (fun c0 => br_f (by decide) (ht ⟨k, 0, 0, hn, w, rfl, rfl, fun q => absurd c0 q, fun _ => rfl, fun q => by omega, fun q => by omega, fun _ => rfl⟩)) (fun c0 => pk_eq k 1 (fun c1 => h12 (Or.inl c1)) (fun c1 => pk_eq k 2 (fun c2 => h12 (Or.inr c2)) (fun c2 => pk_eq k 3 (fun c3 => ?_) (fun c3 => pk_eq k 4 (fun c4 => h45 (Or.inl c4)) (fun c4 => pk_eq k 5 (fun c5 => h45 (Or.inr c5)) (fun _ => trivial))))))
      refine gx_isVar (fun v hv e => gx_isVar (fun c hc' e' => br_f (by decide) (ht ⟨k, v, c, hn, w, rfl, rfl, fun _ => ⟨hv, e⟩, fun q => by omega, fun q => by omega, fun _ => ⟨hc', e'⟩, fun q => by omega⟩)) (fun q => br_t rfl (hf ?_))) (fun q => br_t rfl (hf ?_))
      · rintro ⟨j, v', c', y⟩
        have := inj j y.2.1 y.2.2.2.1
        subst this
        exact q c' (y.2.2.2.2.2.2.2.1 c3).1 (y.2.2.2.2.2.2.2.1 c3).2
      · rintro ⟨j, v', c', y⟩
        have := inj j y.2.1 y.2.2.2.1
        subst this
        exact q v' (y.2.2.2.2.1 (by omega)).1 (y.2.2.2.2.1 (by omega)).2
theorem gx_isEnd {A B : Prop} {p1 p2 p3 p4 : Int32} {n : Nat} (hn : n < 16) (ht : (∃ k v x y, gs_cE n k v x y (nI n) p1 p2 p3 p4) → B) (hf : (¬ ∃ k v x y, gs_cE n k v x y (nI n) p1 p2 p3 p4) → A) : wpX_isEnd (fun r => (r = 0 → A) ∧ (¬ r = 0 → B)) p1 p2 p3 p4 := by
  have bad : (∀ k, k ≤ 2 → p1 ≠ nI k) → A := fun q => hf (fun ⟨k, v, x, y, w⟩ => q k w.2.1 w.2.2.2.1)
  refine br_c (fun z => br_t rfl (bad (fun k hk e => ?_))) (fun z => ?_)
  · subst e
    exact nI_pos (by omega) z
  · obtain ⟨k, hk, rfl⟩ := nI_of z
    refine pk_lt 2 k (fun w => br_t rfl (bad (fun j hj e => ?_))) (fun w => ?_)
    · have := (nI_eq hk (by omega)).mp e
      omega
    · have inj : ∀ j, j ≤ 2 → nI k = nI j → j = k := fun j hj e => ((nI_eq hk (by omega)).mp e).symm
      refine pk_eq k 0 (fun c0 => br_f (by decide) (ht ⟨k, 0, 0, 0, hn, w, rfl, rfl, fun q => absurd c0 q, fun _ => rfl, fun q => by omega, fun _ => ⟨rfl, rfl⟩⟩)) (fun c0 => pk_eq k 1 (fun c1 => ?_) (fun c1 => pk_eq k 2 (fun c2 => ?_) (fun _ => trivial)))
      · refine gx_isNodeP (fun x hx e => ⟨rfl, br_f (by decide) (ht ⟨k, 0, x, 0, hn, w, rfl, rfl, fun _ => ⟨hx, e⟩, fun q => by omega, fun q => by omega, fun _ => ⟨rfl, rfl⟩⟩)⟩) (fun q => ⟨rfl, br_t rfl (hf ?_)⟩)
        rintro ⟨j, v', x', y', y⟩
        have := inj j y.2.1 y.2.2.2.1
        subst this
        exact q x' (y.2.2.2.2.1 (by omega)).1 (y.2.2.2.2.1 (by omega)).2
      · refine gx_isVar (fun v hv e => gx_isNode (fun x hx e' => gx_isNode (fun y hy e'' => br_f (by decide) (ht ⟨k, v, x, y, hn, w, rfl, rfl, fun _ => ⟨hx, e'⟩, fun q => by omega, fun _ => ⟨hv, e, hy, e''⟩, fun q => absurd c2 q⟩)) (fun q => br_t rfl (hf ?_))) (fun q => br_t rfl (hf ?_))) (fun q => br_t rfl (hf ?_))
        · rintro ⟨j, v', x', y', y⟩
          have := inj j y.2.1 y.2.2.2.1
          subst this
          have := y.2.2.2.2.2.2.1 c2
          exact q y' this.2.2.1 this.2.2.2
        · rintro ⟨j, v', x', y', y⟩
          have := inj j y.2.1 y.2.2.2.1
          subst this
          exact q x' (y.2.2.2.2.1 (by omega)).1 (y.2.2.2.2.1 (by omega)).2
        · rintro ⟨j, v', x', y', y⟩
          have := inj j y.2.1 y.2.2.2.1
          subst this
          have := y.2.2.2.2.2.2.1 c2
          exact q v' this.1 this.2.1
section
variable {f_stale f_seen f_seenCount f_isStraight f_meetings f_codeCount f_taskCount f_hasRun f_toldCount f_lastNode f_hasStopped : Int32} {f_inputLeft : Int64} {a_actKind a_actVariable a_actOperand a_endKind a_endVariable a_endX a_endY a_path a_pathSide a_leaving a_numberOf a_nodeAt a_successors a_predecessors a_before a_behind a_loop a_liveAt a_knownAt a_code a_task a_variable a_latestTold : Nat → Int32} {ek ex ey ak av ac ev : Nat → Nat}
theorem gx_m_act {post : Int32 → SX → Prop} {p0 p1 p2 p3 : Int32} (R : gx_RX ak av ac ek ev ex ey (f_stale, f_seen, f_seenCount, f_isStraight, f_meetings, f_codeCount, f_taskCount, f_hasRun, f_inputLeft, f_toldCount, f_lastNode, f_hasStopped, a_actKind, a_actVariable, a_actOperand, a_endKind, a_endVariable, a_endX, a_endY, a_path, a_pathSide, a_leaving, a_numberOf, a_nodeAt, a_successors, a_predecessors, a_before, a_behind, a_loop, a_liveAt, a_knownAt, a_code, a_task, a_variable, a_latestTold)) (hno : (¬ ∃ n k v c, gs_cA n k v c p0 p1 p2 p3) → post 0 (f_stale, f_seen, f_seenCount, f_isStraight, f_meetings, f_codeCount, f_taskCount, f_hasRun, f_inputLeft, f_toldCount, f_lastNode, f_hasStopped, a_actKind, a_actVariable, a_actOperand, a_endKind, a_endVariable, a_endX, a_endY, a_path, a_pathSide, a_leaving, a_numberOf, a_nodeAt, a_successors, a_predecessors, a_before, a_behind, a_loop, a_liveAt, a_knownAt, a_code, a_task, a_variable, a_latestTold))
    (hok : ∀ n k v c, gs_cA n k v c p0 p1 p2 p3 → ∀ u, gx_RX (gs_un1 ak n k) (gs_un1 av n v) (gs_un1 ac n c) ek ev ex ey u → gx_run u = gx_run (f_stale, f_seen, f_seenCount, f_isStraight, f_meetings, f_codeCount, f_taskCount, f_hasRun, f_inputLeft, f_toldCount, f_lastNode, f_hasStopped, a_actKind, a_actVariable, a_actOperand, a_endKind, a_endVariable, a_endX, a_endY, a_path, a_pathSide, a_leaving, a_numberOf, a_nodeAt, a_successors, a_predecessors, a_before, a_behind, a_loop, a_liveAt, a_knownAt, a_code, a_task, a_variable, a_latestTold) → post 1 u) : wpX_act post (f_stale, f_seen, f_seenCount, f_isStraight, f_meetings, f_codeCount, f_taskCount, f_hasRun, f_inputLeft, f_toldCount, f_lastNode, f_hasStopped, a_actKind, a_actVariable, a_actOperand, a_endKind, a_endVariable, a_endX, a_endY, a_path, a_pathSide, a_leaving, a_numberOf, a_nodeAt, a_successors, a_predecessors, a_before, a_behind, a_loop, a_liveAt, a_knownAt, a_code, a_task, a_variable, a_latestTold) p0 p1 p2 p3 := by
  obtain ⟨GE, ⟨g1, g2, g3, g4, g5, g6, g7, g8, g9⟩, _⟩ := R
  unfold wpX_act
  refine gx_isNode (fun n hn e => ?_) (fun q => hno (fun ⟨n, k, v, c, w⟩ => q n w.1 w.2.2.1))
  subst e
  refine gx_isAct hn (fun ⟨k, v, c, w⟩ => ?_) (fun q => hno (fun ⟨m, k, v, c, w⟩ => q ?_))
  · have w' := w
    obtain ⟨w1, w2, w3, w4, w5, w6, w7, w8, w9⟩ := w
    subst w4
    have fin : ∀ u, gx_RX (gs_un1 ak n k) (gs_un1 av n v) (gs_un1 ac n c) ek ev ex ey u → gx_run u = gx_run (f_stale, f_seen, f_seenCount, f_isStraight, f_meetings, f_codeCount, f_taskCount, f_hasRun, f_inputLeft, f_toldCount, f_lastNode, f_hasStopped, a_actKind, a_actVariable, a_actOperand, a_endKind, a_endVariable, a_endX, a_endY, a_path, a_pathSide, a_leaving, a_numberOf, a_nodeAt, a_successors, a_predecessors, a_before, a_behind, a_loop, a_liveAt, a_knownAt, a_code, a_task, a_variable, a_latestTold) → post 1 u := hok n k v c w'
    have c16 : c < 16 := by
      by_cases q : k = 1 ∨ k = 2
      · exact (w7 q).1
      · by_cases q3 : k = 3
        · have := (w8 q3).1
          omega
        · have := w9 (by omega)
          omega
    have v4 : v < 4 := by
      by_cases q : k = 0
      · have := w6 q
        omega
      · exact (w5 q).1
    have GA : ∀ a1 a2 a3, (∀ m, a1 m = nI (gs_un1 ak n k m)) → (∀ m, a2 m = nI (gs_un1 av n v m)) → (∀ m, a3 m = nI (gs_un1 ac n c m)) → gx_GA (gs_un1 ak n k) (gs_un1 av n v) (gs_un1 ac n c) ev a1 a2 a3 a_endVariable := fun a1 a2 a3 h1 h2 h3 =>
      ⟨gs_un1_all (P := fun x => x ≤ 5) g1 w2, gs_un1_all (P := fun x => x < 4) g2 v4, gs_un1_all (P := fun x => x < 16) g3 c16, gs_un1_2 (P := fun x y => x = 3 → y < 4) g4 (fun q => (w8 q).1), g5, h1, h2, h3, g9⟩
    have s62 : ∀ (z : Int32) (x5 : Int32), z = nI v → ((x5 = 0 ∧ c = 0) ∨ (¬ x5 = 0 ∧ p3 = nI c)) → wX_act_62 post (nI n) p3 x5 z (nI n) f_stale f_seen f_seenCount f_isStraight f_meetings f_codeCount f_taskCount f_hasRun f_inputLeft f_toldCount f_lastNode f_hasStopped (upd a_actKind n (nI k)) a_actVariable a_actOperand a_endKind a_endVariable a_endX a_endY a_path a_pathSide a_leaving a_numberOf a_nodeAt a_successors a_predecessors a_before a_behind a_loop a_liveAt a_knownAt a_code a_task a_variable a_latestTold := by
      intro z x5 hz hx5
      refine ⟨gx_in hn, nm_r (e' := upd a_actVariable n (nI v)) (by rw [gx_cl hn, hz]) (br_c (fun y => ⟨gx_in hn, nm_r (e' := upd a_actOperand n (nI c)) ?_ ?_⟩) (fun y => ⟨gx_in hn, nm_r (e' := upd a_actOperand n (nI c)) ?_ ?_⟩))⟩
      · rw [gx_cl hn]
        rcases hx5 with q | q
        · rw [q.2]
          rfl
        · exact absurd y q.1
      · exact fin _ ⟨GE, GA _ _ _ (gs_updI g6 n k) (gs_updI g7 n v) (gs_updI g8 n c), fun q => absurd q (by decide)⟩ rfl
      · rw [gx_cl hn]
        rcases hx5 with q | q
        · exact absurd q.1 y
        · rw [q.2]
      · exact fin _ ⟨GE, GA _ _ _ (gs_updI g6 n k) (gs_updI g7 n v) (gs_updI g8 n c), fun q => absurd q (by decide)⟩ rfl
    have s39 : ∀ x5 : Int32, ((x5 = 0 ∧ c = 0) ∨ (¬ x5 = 0 ∧ p3 = nI c)) → wX_act_39 post (nI n) (nI k) p2 p3 x5 f_stale f_seen f_seenCount f_isStraight f_meetings f_codeCount f_taskCount f_hasRun f_inputLeft f_toldCount f_lastNode f_hasStopped a_actKind a_actVariable a_actOperand a_endKind a_endVariable a_endX a_endY a_path a_pathSide a_leaving a_numberOf a_nodeAt a_successors a_predecessors a_before a_behind a_loop a_liveAt a_knownAt a_code a_task a_variable a_latestTold := by
      intro x5 hx5
      refine ⟨gx_in hn, nm_r (e' := upd a_actKind n (nI k)) (by rw [gx_cl hn]) (pk_eq k 0 (fun q => s62 _ x5 (by rw [w6 q]; rfl) hx5) (fun q => s62 _ x5 (w5 q).2 hx5))⟩
    have s34 : (k = 1 ∨ k = 2 ∨ k = 3) → wX_act_34 post (nI n) (nI k) p2 p3 f_stale f_seen f_seenCount f_isStraight f_meetings f_codeCount f_taskCount f_hasRun f_inputLeft f_toldCount f_lastNode f_hasStopped a_actKind a_actVariable a_actOperand a_endKind a_endVariable a_endX a_endY a_path a_pathSide a_leaving a_numberOf a_nodeAt a_successors a_predecessors a_before a_behind a_loop a_liveAt a_knownAt a_code a_task a_variable a_latestTold := by
      intro q
      refine s39 1 (Or.inr ⟨by decide, ?_⟩)
      by_cases q3 : k = 3
      · exact (w8 q3).2
      · exact (w7 (by omega)).2
    exact pk_eq k 1 (fun q => s34 (Or.inl q)) (fun q1 => pk_eq k 2 (fun q => s34 (Or.inr (Or.inl q))) (fun q2 => pk_eq k 3 (fun q => s34 (Or.inr (Or.inr q))) (fun q3 => s39 0 (Or.inl ⟨rfl, w9 (by omega)⟩))))
  · have : m = n := ((nI_eq (by omega) (by have := w.1; omega)).mp w.2.2.1).symm
    subst this
    exact ⟨k, v, c, w⟩
theorem gx_m_end {post : Int32 → SX → Prop} {p0 p1 p2 p3 p4 : Int32} (R : gx_RX ak av ac ek ev ex ey (f_stale, f_seen, f_seenCount, f_isStraight, f_meetings, f_codeCount, f_taskCount, f_hasRun, f_inputLeft, f_toldCount, f_lastNode, f_hasStopped, a_actKind, a_actVariable, a_actOperand, a_endKind, a_endVariable, a_endX, a_endY, a_path, a_pathSide, a_leaving, a_numberOf, a_nodeAt, a_successors, a_predecessors, a_before, a_behind, a_loop, a_liveAt, a_knownAt, a_code, a_task, a_variable, a_latestTold)) (hno : (¬ ∃ n k v x y, gs_cE n k v x y p0 p1 p2 p3 p4) → post 0 (f_stale, f_seen, f_seenCount, f_isStraight, f_meetings, f_codeCount, f_taskCount, f_hasRun, f_inputLeft, f_toldCount, f_lastNode, f_hasStopped, a_actKind, a_actVariable, a_actOperand, a_endKind, a_endVariable, a_endX, a_endY, a_path, a_pathSide, a_leaving, a_numberOf, a_nodeAt, a_successors, a_predecessors, a_before, a_behind, a_loop, a_liveAt, a_knownAt, a_code, a_task, a_variable, a_latestTold))
    (hok : ∀ n k v x y, gs_cE n k v x y p0 p1 p2 p3 p4 → ∀ u, gx_RX ak av ac (gs_un1 ek n k) (gs_un1 ev n v) (gs_un1 ex n x) (gs_un1 ey n y) u → gx_run u = gx_run (f_stale, f_seen, f_seenCount, f_isStraight, f_meetings, f_codeCount, f_taskCount, f_hasRun, f_inputLeft, f_toldCount, f_lastNode, f_hasStopped, a_actKind, a_actVariable, a_actOperand, a_endKind, a_endVariable, a_endX, a_endY, a_path, a_pathSide, a_leaving, a_numberOf, a_nodeAt, a_successors, a_predecessors, a_before, a_behind, a_loop, a_liveAt, a_knownAt, a_code, a_task, a_variable, a_latestTold) → post 1 u) : wpX_end post (f_stale, f_seen, f_seenCount, f_isStraight, f_meetings, f_codeCount, f_taskCount, f_hasRun, f_inputLeft, f_toldCount, f_lastNode, f_hasStopped, a_actKind, a_actVariable, a_actOperand, a_endKind, a_endVariable, a_endX, a_endY, a_path, a_pathSide, a_leaving, a_numberOf, a_nodeAt, a_successors, a_predecessors, a_before, a_behind, a_loop, a_liveAt, a_knownAt, a_code, a_task, a_variable, a_latestTold) p0 p1 p2 p3 p4 := by
  obtain ⟨⟨e1, e2, e3, e4, e5, e6⟩, ⟨g1, g2, g3, g4, g5, g6, g7, g8, g9⟩, _⟩ := R
  unfold wpX_end
  refine gx_isNode (fun n hn e => ?_) (fun q => hno (fun ⟨n, k, v, x, y, w⟩ => q n w.1 w.2.2.1))
  subst e
  refine gx_isEnd hn (fun ⟨k, v, x, y, w⟩ => ?_) (fun q => hno (fun ⟨m, k, v, x, y, w⟩ => q ?_))
  · have w' := w
    obtain ⟨w1, w2, w3, w4, w5, w6, w7, w8⟩ := w
    subst w4
    have fin : ∀ u, gx_RX ak av ac (gs_un1 ek n k) (gs_un1 ev n v) (gs_un1 ex n x) (gs_un1 ey n y) u → gx_run u = gx_run (f_stale, f_seen, f_seenCount, f_isStraight, f_meetings, f_codeCount, f_taskCount, f_hasRun, f_inputLeft, f_toldCount, f_lastNode, f_hasStopped, a_actKind, a_actVariable, a_actOperand, a_endKind, a_endVariable, a_endX, a_endY, a_path, a_pathSide, a_leaving, a_numberOf, a_nodeAt, a_successors, a_predecessors, a_before, a_behind, a_loop, a_liveAt, a_knownAt, a_code, a_task, a_variable, a_latestTold) → post 1 u := hok n k v x y w'
    have x16 : x < 16 := by
      by_cases q : k = 0
      · have := w6 q
        omega
      · exact (w5 q).1
    have vy : v < 4 ∧ y < 16 := by
      by_cases q : k = 2
      · exact ⟨(w7 q).1, (w7 q).2.2.1⟩
      · have := w8 q
        omega
    have GE : gx_GE (gs_un1 ek n k) (gs_un1 ex n x) (gs_un1 ey n y) (upd a_endKind n (nI k)) (upd a_endX n (nI x)) (upd a_endY n (nI y)) := ⟨gs_un1_all (P := fun x => x ≤ 2) e1 w2, gs_un1_all (P := fun x => x < 16) e2 x16, gs_un1_all (P := fun x => x < 16) e3 vy.2, gs_updI e4 n k, gs_updI e5 n x, gs_updI e6 n y⟩
    have GA : gx_GA ak av ac (gs_un1 ev n v) a_actKind a_actVariable a_actOperand (upd a_endVariable n (nI v)) := ⟨g1, g2, g3, g4, gs_un1_all (P := fun x => x < 4) g5 vy.1, g6, g7, g8, gs_updI g9 n v⟩
    have s59 : ∀ z : Int32, z = nI x → wX_end_59 post (nI n) (nI k) p4 z (nI n) f_stale f_seen f_seenCount f_isStraight f_meetings f_codeCount f_taskCount f_hasRun f_inputLeft f_toldCount f_lastNode f_hasStopped a_actKind a_actVariable a_actOperand (upd a_endKind n (nI k)) (upd a_endVariable n (nI v)) a_endX a_endY a_path a_pathSide a_leaving a_numberOf a_nodeAt a_successors a_predecessors a_before a_behind a_loop a_liveAt a_knownAt a_code a_task a_variable a_latestTold := by
      intro z hz
      refine ⟨gx_in hn, nm_r (e' := upd a_endX n (nI x)) (by rw [gx_cl hn, hz]) (pk_eq k 2 (fun q => ⟨gx_in hn, nm_r (e' := upd a_endY n (nI y)) (by rw [gx_cl hn, (w7 q).2.2.2]) ?_⟩) (fun q => ⟨gx_in hn, nm_r (e' := upd a_endY n (nI y)) (by rw [gx_cl hn, (w8 q).2]; rfl) ?_⟩))⟩
      · exact fin _ ⟨GE, GA, fun q => absurd q (by decide)⟩ rfl
      · exact fin _ ⟨GE, GA, fun q => absurd q (by decide)⟩ rfl
    have s43 : ∀ z : Int32, z = nI v → wX_end_43 post (nI n) (nI k) p3 p4 z (nI n) f_stale f_seen f_seenCount f_isStraight f_meetings f_codeCount f_taskCount f_hasRun f_inputLeft f_toldCount f_lastNode f_hasStopped a_actKind a_actVariable a_actOperand (upd a_endKind n (nI k)) a_endVariable a_endX a_endY a_path a_pathSide a_leaving a_numberOf a_nodeAt a_successors a_predecessors a_before a_behind a_loop a_liveAt a_knownAt a_code a_task a_variable a_latestTold := by
      intro z hz
      exact ⟨gx_in hn, nm_r (e' := upd a_endVariable n (nI v)) (by rw [gx_cl hn, hz]) (pk_eq k 0 (fun q => s59 _ (by rw [w6 q]; rfl)) (fun q => s59 _ (w5 q).2))⟩
    exact ⟨gx_in hn, nm_r (e' := upd a_endKind n (nI k)) (by rw [gx_cl hn]) (pk_eq k 2 (fun q => s43 _ (w7 q).2.1) (fun q => s43 _ (by rw [(w8 q).1]; rfl)))⟩
  · have : m = n := ((nI_eq (by omega) (by have := w.1; omega)).mp w.2.2.1).symm
    subst this
    exact ⟨k, v, x, y, w⟩
end
section
variable {f_fresh f_many f_tells f_last f_runs f_stopped : Int32} {a_actKind a_actV a_actC a_endKind a_endV a_endX a_endY a_number a_before a_behind a_reached a_todo a_words a_coming a_values a_told a_variables : Nat → Int32} {ek ex ey ak av ac ev : Nat → Nat}
theorem gy_m_act {post : Int32 → SY → Prop} {p0 p1 p2 p3 : Int32} (R : gy_RY ak av ac ek ev ex ey (f_fresh, f_many, f_tells, f_last, f_runs, f_stopped, a_actKind, a_actV, a_actC, a_endKind, a_endV, a_endX, a_endY, a_number, a_before, a_behind, a_reached, a_todo, a_words, a_coming, a_values, a_told, a_variables)) (hno : (¬ ∃ n k v c, gs_cA n k v c p0 p1 p2 p3) → post 0 (f_fresh, f_many, f_tells, f_last, f_runs, f_stopped, a_actKind, a_actV, a_actC, a_endKind, a_endV, a_endX, a_endY, a_number, a_before, a_behind, a_reached, a_todo, a_words, a_coming, a_values, a_told, a_variables))
    (hok : ∀ n k v c, gs_cA n k v c p0 p1 p2 p3 → ∀ u, gy_RY (gs_un1 ak n k) (gs_un1 av n v) (gs_un1 ac n c) ek ev ex ey u → gy_run u = gy_run (f_fresh, f_many, f_tells, f_last, f_runs, f_stopped, a_actKind, a_actV, a_actC, a_endKind, a_endV, a_endX, a_endY, a_number, a_before, a_behind, a_reached, a_todo, a_words, a_coming, a_values, a_told, a_variables) → post 1 u) : wpY_act post (f_fresh, f_many, f_tells, f_last, f_runs, f_stopped, a_actKind, a_actV, a_actC, a_endKind, a_endV, a_endX, a_endY, a_number, a_before, a_behind, a_reached, a_todo, a_words, a_coming, a_values, a_told, a_variables) p0 p1 p2 p3 := by
  obtain ⟨GE, ⟨g1, g2, g3, g4, g5, g6, g7⟩, _⟩ := R
  unfold wpY_act
  refine gy_in (m := 15) rfl (by decide) (fun n hn e => ?_) (fun q => hno (fun ⟨n, k, v, c, w⟩ => q n (by have := w.1; omega) w.2.2.1))
  subst e
  have bad : ∀ k, k ≤ 5 → p1 = nI k → (∀ v c, ¬ gs_cA n k v c (nI n) p1 p2 p3) → post 0 (f_fresh, f_many, f_tells, f_last, f_runs, f_stopped, a_actKind, a_actV, a_actC, a_endKind, a_endV, a_endX, a_endY, a_number, a_before, a_behind, a_reached, a_todo, a_words, a_coming, a_values, a_told, a_variables) := by
    intro k hk e q
    refine hno (fun ⟨m, j, v, c, w⟩ => q v c ?_)
    have m1 : m = n := ((nI_eq (by omega) (by have := w.1; omega)).mp w.2.2.1).symm
    have j1 : j = k := ((nI_eq (by omega) (by have := w.2.1; omega)).mp (e.symm.trans w.2.2.2.1)).symm
    subst m1 j1
    exact w
  refine gy_in (m := 5) rfl (by decide) (fun k hk e => ?_) (fun q => hno (fun ⟨m, k, v, c, w⟩ => q k w.2.1 w.2.2.2.1))
  subst e
  have s70 : ∀ v c, gs_cA n k v c (nI n) (nI k) p2 p3 → wY_act_70 post (nI n) (nI k) p2 p3 f_fresh f_many f_tells f_last f_runs f_stopped a_actKind a_actV a_actC a_endKind a_endV a_endX a_endY a_number a_before a_behind a_reached a_todo a_words a_coming a_values a_told a_variables := by
    intro v c w
    have w' := w
    obtain ⟨w1, w2, w3, w4, w5, w6, w7, w8, w9⟩ := w
    have c16 : c < 16 := by
      by_cases q : k = 1 ∨ k = 2
      · exact (w7 q).1
      · by_cases q3 : k = 3
        · have := (w8 q3).1
          omega
        · have := w9 (by omega)
          omega
    have v4 : v < 4 := by
      by_cases q : k = 0
      · have := w6 q
        omega
      · exact (w5 q).1
    refine ⟨gx_in w1, nm_r (e' := upd a_actKind n (nI k)) (by rw [gx_cl w1]) ⟨gx_in w1, nm_r (e' := upd a_actV n p2) (by rw [gx_cl w1]) ⟨gx_in w1, nm_r (e' := upd a_actC n p3) (by rw [gx_cl w1]) ?_⟩⟩⟩
    refine hok n k v c w' _ ⟨GE, ⟨gs_un1_all (P := fun x => x ≤ 5) g1 w2, gs_un1_all (P := fun x => x < 4) g2 v4, gs_un1_all (P := fun x => x < 16) g3 c16, gs_un1_2 (P := fun x y => x = 3 → y < 4) g4 (fun q => (w8 q).1), gs_updI g5 n k, gs_updC (C := fun x => x ≠ 0) g6 (fun q => (w5 q).2), gs_updC (C := fun x => x = 1 ∨ x = 2 ∨ x = 3) g7 (fun q => ?_)⟩, fun q => absurd rfl q⟩ rfl
    by_cases q3 : k = 3
    · exact (w8 q3).2
    · exact (w7 (by omega)).2
  have s53 : ∀ v, ((k ≠ 0 → v < 4 ∧ p2 = nI v) ∧ (k = 0 → v = 0)) → (¬ (k = 1 ∨ k = 2) ∨ ∃ c, c < 16 ∧ p3 = nI c) → wY_act_53 post (nI n) (nI k) p2 p3 f_fresh f_many f_tells f_last f_runs f_stopped a_actKind a_actV a_actC a_endKind a_endV a_endX a_endY a_number a_before a_behind a_reached a_todo a_words a_coming a_values a_told a_variables := by
    intro v hv hc
    refine pk_eq k 3 (fun q => gy_in (m := 3) rfl (by decide) (fun c h3 e => s70 v c ⟨by omega, hk, rfl, rfl, hv.1, hv.2, fun y => by omega, fun _ => ⟨by omega, e⟩, fun y => by omega⟩) (fun y => bad k hk rfl (fun v' c' w => y c' (by have := (w.2.2.2.2.2.2.2.1 q).1; omega) (w.2.2.2.2.2.2.2.1 q).2))) (fun q => ?_)
    by_cases q12 : k = 1 ∨ k = 2
    · obtain ⟨c, h1, h2⟩ := hc.resolve_left (fun y => y q12)
      exact s70 v c ⟨by omega, hk, rfl, rfl, hv.1, hv.2, fun _ => ⟨h1, h2⟩, fun y => absurd y q, fun y => by omega⟩
    · exact s70 v 0 ⟨by omega, hk, rfl, rfl, hv.1, hv.2, fun y => absurd y q12, fun y => absurd y q, fun _ => rfl⟩
  have s32 : ∀ v, ((k ≠ 0 → v < 4 ∧ p2 = nI v) ∧ (k = 0 → v = 0)) → wY_act_32 post (nI n) (nI k) p2 p3 f_fresh f_many f_tells f_last f_runs f_stopped a_actKind a_actV a_actC a_endKind a_endV a_endX a_endY a_number a_before a_behind a_reached a_todo a_words a_coming a_values a_told a_variables := by
    intro v hv
    have s42 : (k = 1 ∨ k = 2) → wY_act_42 post (nI n) (nI k) p2 p3 f_fresh f_many f_tells f_last f_runs f_stopped a_actKind a_actV a_actC a_endKind a_endV a_endX a_endY a_number a_before a_behind a_reached a_todo a_words a_coming a_values a_told a_variables := fun q => gy_in (m := 15) rfl (by decide) (fun c hc e => s53 v hv (Or.inr ⟨c, by omega, e⟩)) (fun y => bad k hk rfl (fun v' c' w => y c' (by have := (w.2.2.2.2.2.2.1 q).1; omega) (w.2.2.2.2.2.2.1 q).2))
    exact pk_eq k 1 (fun q => s42 (Or.inl q)) (fun q1 => pk_eq k 2 (fun q => s42 (Or.inr q)) (fun q2 => s53 v hv (Or.inl (by omega))))
  refine pk_le k 0 (fun q => s32 0 ⟨fun y => by omega, fun _ => rfl⟩) (fun q => gy_in (m := 3) rfl (by decide) (fun v hv e => s32 v ⟨fun _ => ⟨by omega, e⟩, fun y => by omega⟩) (fun y => bad k hk rfl (fun v' c' w => y v' (by have := (w.2.2.2.2.1 (by omega)).1; omega) (w.2.2.2.2.1 (by omega)).2)))
theorem gy_m_end {post : Int32 → SY → Prop} {p0 p1 p2 p3 p4 : Int32} (R : gy_RY ak av ac ek ev ex ey (f_fresh, f_many, f_tells, f_last, f_runs, f_stopped, a_actKind, a_actV, a_actC, a_endKind, a_endV, a_endX, a_endY, a_number, a_before, a_behind, a_reached, a_todo, a_words, a_coming, a_values, a_told, a_variables)) (hno : (¬ ∃ n k v x y, gs_cE n k v x y p0 p1 p2 p3 p4) → post 0 (f_fresh, f_many, f_tells, f_last, f_runs, f_stopped, a_actKind, a_actV, a_actC, a_endKind, a_endV, a_endX, a_endY, a_number, a_before, a_behind, a_reached, a_todo, a_words, a_coming, a_values, a_told, a_variables))
    (hok : ∀ n k v x y, gs_cE n k v x y p0 p1 p2 p3 p4 → ∀ u, gy_RY ak av ac (gs_un1 ek n k) (gs_un1 ev n v) (gs_un1 ex n x) (gs_un1 ey n y) u → gy_run u = gy_run (f_fresh, f_many, f_tells, f_last, f_runs, f_stopped, a_actKind, a_actV, a_actC, a_endKind, a_endV, a_endX, a_endY, a_number, a_before, a_behind, a_reached, a_todo, a_words, a_coming, a_values, a_told, a_variables) → post 1 u) : wpY_end post (f_fresh, f_many, f_tells, f_last, f_runs, f_stopped, a_actKind, a_actV, a_actC, a_endKind, a_endV, a_endX, a_endY, a_number, a_before, a_behind, a_reached, a_todo, a_words, a_coming, a_values, a_told, a_variables) p0 p1 p2 p3 p4 := by
  obtain ⟨⟨e1, e2, e3, e4, e5, e6, e7, e8⟩, GA, _⟩ := R
  unfold wpY_end
  refine gy_in (m := 15) rfl (by decide) (fun n hn e => ?_) (fun q => hno (fun ⟨n, k, v, x, y, w⟩ => q n (by have := w.1; omega) w.2.2.1))
  subst e
  have bad : ∀ k, k ≤ 2 → p1 = nI k → (∀ v x y, ¬ gs_cE n k v x y (nI n) p1 p2 p3 p4) → post 0 (f_fresh, f_many, f_tells, f_last, f_runs, f_stopped, a_actKind, a_actV, a_actC, a_endKind, a_endV, a_endX, a_endY, a_number, a_before, a_behind, a_reached, a_todo, a_words, a_coming, a_values, a_told, a_variables) := by
    intro k hk e q
    refine hno (fun ⟨m, j, v, x, y, w⟩ => q v x y ?_)
    have m1 : m = n := ((nI_eq (by omega) (by have := w.1; omega)).mp w.2.2.1).symm
    have j1 : j = k := ((nI_eq (by omega) (by have := w.2.1; omega)).mp (e.symm.trans w.2.2.2.1)).symm
    subst m1 j1
    exact w
  refine gy_in (m := 2) rfl (by decide) (fun k hk e => ?_) (fun q => hno (fun ⟨m, k, v, x, y, w⟩ => q k w.2.1 w.2.2.2.1))
  subst e
  have s61 : ∀ v x y, gs_cE n k v x y (nI n) (nI k) p2 p3 p4 → wY_end_61 post (nI n) (nI k) p2 p3 p4 f_fresh f_many f_tells f_last f_runs f_stopped a_actKind a_actV a_actC a_endKind a_endV a_endX a_endY a_number a_before a_behind a_reached a_todo a_words a_coming a_values a_told a_variables := by
    intro v x y w
    have w' := w
    obtain ⟨w1, w2, w3, w4, w5, w6, w7, w8⟩ := w
    have x16 : x < 16 := by
      by_cases q : k = 0
      · have := w6 q
        omega
      · exact (w5 q).1
    have vy : v < 4 ∧ y < 16 := by
      by_cases q : k = 2
      · exact ⟨(w7 q).1, (w7 q).2.2.1⟩
      · have := w8 q
        omega
    refine ⟨gx_in w1, nm_r (e' := upd a_endKind n (nI k)) (by rw [gx_cl w1]) ⟨gx_in w1, nm_r (e' := upd a_endV n p2) (by rw [gx_cl w1]) ⟨gx_in w1, nm_r (e' := upd a_endX n p3) (by rw [gx_cl w1]) ⟨gx_in w1, nm_r (e' := upd a_endY n p4) (by rw [gx_cl w1]) ?_⟩⟩⟩⟩
    exact hok n k v x y w' _ ⟨⟨gs_un1_all (P := fun x => x ≤ 2) e1 w2, gs_un1_all (P := fun x => x < 16) e2 x16, gs_un1_all (P := fun x => x < 16) e3 vy.2, gs_un1_all (P := fun x => x < 4) e4 vy.1, gs_updI e5 n k, gs_updC (C := fun x => x ≠ 0) e6 (fun q => (w5 q).2), gs_updC (C := fun x => x = 2) e7 (fun q => (w7 q).2.2.2), gs_updC (C := fun x => x = 2) e8 (fun q => (w7 q).2.1)⟩, GA, fun q => absurd rfl q⟩ rfl
  have s34 : ∀ x, ((k ≠ 0 → x < 16 ∧ p3 = nI x) ∧ (k = 0 → x = 0)) → wY_end_34 post (nI n) (nI k) p2 p3 p4 f_fresh f_many f_tells f_last f_runs f_stopped a_actKind a_actV a_actC a_endKind a_endV a_endX a_endY a_number a_before a_behind a_reached a_todo a_words a_coming a_values a_told a_variables := by
    intro x hx
    exact pk_eq k 2 (fun q => gy_in (m := 3) rfl (by decide) (fun v hv e => gy_in (m := 15) rfl (by decide) (fun y hy e' => s61 v x y ⟨by omega, hk, rfl, rfl, hx.1, hx.2, fun _ => ⟨by omega, e, by omega, e'⟩, fun z => absurd q z⟩) (fun z => bad k hk rfl (fun v' x' y' w => z y' (by have := (w.2.2.2.2.2.2.1 q).2.2.1; omega) (w.2.2.2.2.2.2.1 q).2.2.2))) (fun z => bad k hk rfl (fun v' x' y' w => z v' (by have := (w.2.2.2.2.2.2.1 q).1; omega) (w.2.2.2.2.2.2.1 q).2.1))) (fun q => s61 0 x 0 ⟨by omega, hk, rfl, rfl, hx.1, hx.2, fun y => absurd y q, fun _ => ⟨rfl, rfl⟩⟩)
  exact pk_le k 0 (fun q => s34 0 ⟨fun y => by omega, fun _ => rfl⟩) (fun q => gy_in (m := 15) rfl (by decide) (fun x hx e => s34 x ⟨fun _ => ⟨by omega, e⟩, fun y => by omega⟩) (fun y => bad k hk rfl (fun v' x' y' w => y x' (by have := (w.2.2.2.2.1 (by omega)).1; omega) (w.2.2.2.2.1 (by omega)).2)))
end
