/-! X: known values -/
theorem gx_kd_s (a : Nat) : gs_kd (a + 1) = nI a := by
  unfold gs_kd
  rw [if_neg (by omega), Nat.add_sub_cancel]
theorem gx_kd_0 : gs_kd 0 = -1 := rfl
theorem gx_kd_inj {a b : Nat} (ha : a ≤ 17) (hb : b ≤ 17) : gs_kd a = gs_kd b ↔ a = b := by
  constructor
  · intro h
    cases a with
    | zero =>
      cases b with
      | zero => rfl
      | succ b =>
        rw [gx_kd_s, gx_kd_0] at h
        have := nI_pos (n := b) (by omega)
        rw [← h] at this
        exact absurd (by decide) this
    | succ a =>
      cases b with
      | zero =>
        rw [gx_kd_s, gx_kd_0] at h
        have := nI_pos (n := a) (by omega)
        rw [h] at this
        exact absurd (by decide) this
      | succ b =>
        rw [gx_kd_s, gx_kd_s, nI_eq (by omega) (by omega)] at h
        omega
  · intro h
    rw [h]
noncomputable def gs_fl (a b : Nat → Nat) : Int32 := if gs_B (b = a) = true then 0 else 1
theorem gs_fl_0 {a b : Nat → Nat} (h : b = a) : gs_fl a b = 0 := if_pos (gs_B_t.mpr h)
theorem gs_fl_1 {a b : Nat → Nat} (h : ¬ b = a) : gs_fl a b = 1 := if_neg (fun z => h (gs_B_t.mp z))
theorem gs_fl_z {a b : Nat → Nat} : gs_fl a b = 0 ↔ b = a := by
  constructor
  · intro h
    apply Classical.byContradiction
    intro z
    rw [gs_fl_1 z] at h
    exact absurd h (by decide)
  · exact gs_fl_0
theorem gs_fl_n (a b : Nat → Nat) : narrow .boolean (.int (gs_fl a b)) = .int (gs_fl a b) := by
  by_cases z : b = a
  · rw [gs_fl_0 z]
    rfl
  · rw [gs_fl_1 z]
    rfl
section
variable {f_stale f_seen f_seenCount f_isStraight f_meetings f_codeCount f_taskCount f_hasRun f_toldCount f_lastNode f_hasStopped : Int32} {f_inputLeft : Int64} {a_actKind a_actVariable a_actOperand a_endKind a_endVariable a_endX a_endY a_path a_pathSide a_leaving a_numberOf a_nodeAt a_successors a_predecessors a_before a_behind a_loop a_liveAt a_knownAt a_code a_task a_variable a_latestTold : Nat → Int32} {ek ex ey ak av ac ev : Nat → Nat}
theorem gx_made {post : Int32 → Prop} {kv : Nat → Nat} {n v : Nat} (GA : gx_GA ak av ac ev a_actKind a_actVariable a_actOperand a_endVariable) (hK : ∀ i, i < 64 → a_knownAt i = gs_kd (kv i)) (hle : ∀ i, kv i ≤ 17) (hn : n < 16) (hv : v < 4) (hall : ∀ v, v < 4 → kv (4 * n + v) ≠ 0)
    (h : post (gs_kd (gs_md ak av ac kv n v))) : wpX_made__knownAt post (f_stale, f_seen, f_seenCount, f_isStraight, f_meetings, f_codeCount, f_taskCount, f_hasRun, f_inputLeft, f_toldCount, f_lastNode, f_hasStopped, a_actKind, a_actVariable, a_actOperand, a_endKind, a_endVariable, a_endX, a_endY, a_path, a_pathSide, a_leaving, a_numberOf, a_nodeAt, a_successors, a_predecessors, a_before, a_behind, a_loop, a_liveAt, a_knownAt, a_code, a_task, a_variable, a_latestTold) (nI n * 4) (nI n) (nI v) := by
  obtain ⟨g1, g2, g3, g4, g5, g6, g7, g8, g9⟩ := GA
  have e : ∀ u, nI n * 4 + nI u = nI (4 * n + u) := fun u => by
    rw [show (4 : Int32) = nI 4 from rfl, pk_mul, nI_add, Nat.mul_comm]
  have av4 := g2 n
  have ac16 := g3 n
  have ak5 := g1 n
  unfold wpX_made__knownAt
  refine ⟨by rw [e]; exact vp_in_nI (by omega) (by decide), nm_r (e' := gs_kd (kv (4 * n + v))) (by rw [e, nI_clamp (by omega)]; exact hK _ (by omega)) ⟨gx_in hn, ?_⟩⟩
  simp only [gx_cl hn, g6, g7, g8]
  unfold gs_md at h
  refine br_c (fun z => ?_) (fun z => ?_)
  · have z' : v = av n := (nI_eq (by omega) (by omega)).mp z
    rw [if_neg (fun w => w z')] at h
    refine ⟨gx_in hn, nm_e ?_⟩
    have hc : ak n = 0 ∨ ak n = 1 ∨ ak n = 2 ∨ ak n = 3 ∨ ak n = 4 ∨ ak n = 5 := by omega
    rcases hc with c | c | c | c | c | c <;> rw [c] at h ⊢
    · exact br_t (by decide) h
    · exact br_f (by decide) (br_f (by decide) (br_t rfl ⟨gx_in hn, by rw [if_pos rfl, gx_kd_s] at h; exact h⟩))
    · rw [if_neg (by decide), if_pos rfl] at h
      refine br_f (by decide) (br_f (by decide) (br_f (by decide) (br_t rfl ?_)))
      have h17 := hle (4 * n + v)
      have h0 := hall v hv
      by_cases q : kv (4 * n + v) = 17
      · rw [q] at h ⊢
        exact br_t rfl h
      · rw [if_neg q, gx_kd_s] at h
        obtain ⟨b, hb⟩ : ∃ b, kv (4 * n + v) = b + 1 := ⟨kv (4 * n + v) - 1, by omega⟩
        rw [hb, gx_kd_s]
        rw [hb, Nat.add_sub_cancel] at h
        refine br_f (fun w => ?_) ⟨gx_in hn, by decide, ?_⟩
        · have := (nI_eq (b := 16) (by omega) (by decide)).mp w
          omega
        · rw [nI_add, show (16 : Int32) = nI 16 from rfl, pk_rem (by omega) (by decide) (by decide)]
          exact h
    · rw [if_neg (by decide), if_neg (by decide), if_pos rfl] at h
      have c4 := g4 n c
      refine br_f (by decide) (br_f (by decide) (br_f (by decide) (br_f (by decide) (br_t rfl ⟨gx_in hn, ?_, ?_⟩))))
      · rw [e]
        exact vp_in_nI (by omega) (by decide)
      · rw [e, nI_clamp (by omega), hK _ (by omega)]
        exact h
    · exact br_f (by decide) (br_f (by decide) (br_f (by decide) (br_f (by decide) (br_f (by decide) (br_t rfl h)))))
    · exact br_f (by decide) (br_f (by decide) (br_f (by decide) (br_f (by decide) (br_f (by decide) (br_f (by decide) (br_t rfl h))))))
  · rw [if_pos (fun w => z (by rw [w]))] at h
    exact h
theorem gs_gw_le (hac : ∀ n, ac n < 16) {kv : Nat → Nat} (h : ∀ i, kv i ≤ 17) (n t w i : Nat) : gs_gw ak av ac kv n t w i ≤ 17 := by
  unfold gs_gw
  split
  · exact gs_jn_le (gs_md_le hac h n _)
  · exact h i
theorem gs_gw_nz {kv : Nat → Nat} {n t w i : Nat} (h : kv i ≠ 0) : gs_gw ak av ac kv n t w i ≠ 0 := by
  unfold gs_gw
  split
  · unfold gs_jn
    split
    · rename_i z
      rcases z with z | z
      · exact absurd z h
      · exact z ▸ h
    · omega
  · exact h
theorem gx_give {post : Int32 → SX → Prop} {kv : Nat → Nat} {n t : Nat} (GA : gx_GA ak av ac ev a_actKind a_actVariable a_actOperand a_endVariable) (hK : ∀ i, i < 64 → a_knownAt i = gs_kd (kv i)) (hle : ∀ i, kv i ≤ 17) (hn : n < 16) (ht : t < 16) (hall : ∀ v, v < 4 → kv (4 * n + v) ≠ 0)
    (h : ∀ a, (∀ i, i < 64 → a i = gs_kd (gs_gv ak av ac kv n t i)) → post (gs_fl kv (gs_gv ak av ac kv n t)) (f_stale, f_seen, f_seenCount, f_isStraight, f_meetings, f_codeCount, f_taskCount, f_hasRun, f_inputLeft, f_toldCount, f_lastNode, f_hasStopped, a_actKind, a_actVariable, a_actOperand, a_endKind, a_endVariable, a_endX, a_endY, a_path, a_pathSide, a_leaving, a_numberOf, a_nodeAt, a_successors, a_predecessors, a_before, a_behind, a_loop, a_liveAt, a, a_code, a_task, a_variable, a_latestTold)) : wpX_give post (f_stale, f_seen, f_seenCount, f_isStraight, f_meetings, f_codeCount, f_taskCount, f_hasRun, f_inputLeft, f_toldCount, f_lastNode, f_hasStopped, a_actKind, a_actVariable, a_actOperand, a_endKind, a_endVariable, a_endX, a_endY, a_path, a_pathSide, a_leaving, a_numberOf, a_nodeAt, a_successors, a_predecessors, a_before, a_behind, a_loop, a_liveAt, a_knownAt, a_code, a_task, a_variable, a_latestTold) (nI n) (nI t) := by
  have g3 := GA.2.2.1
  have g4 := GA.2.2.2.1
  refine pk_loop (fun m i (s : Int32 × (Nat → Int32)) => wX_give_5 post (nI n) (nI t) f_stale f_seen f_seenCount f_isStraight f_meetings f_codeCount f_taskCount f_hasRun f_inputLeft f_toldCount f_lastNode f_hasStopped m s.1 (nI i) a_actKind a_actVariable a_actOperand a_endKind a_endVariable a_endX a_endY a_path a_pathSide a_leaving a_numberOf a_nodeAt a_successors a_predecessors a_before a_behind a_loop a_liveAt s.2 a_code a_task a_variable a_latestTold) (fun w s => s.1 = gs_fl kv (gs_gw ak av ac kv n t w) ∧ ∀ i, i < 64 → s.2 i = gs_kd (gs_gw ak av ac kv n t w i)) 4 0 (0, a_knownAt) (by omega) ⟨(gs_fl_0 (gs_gw_0 kv n t)).symm, fun i hi => by rw [gs_gw_0]; exact hK i hi⟩ ?_ ?_
  · rintro m ⟨s1, s2⟩ ⟨e1, e2⟩
    dsimp only at e1 e2
    subst e1
    exact br_t (by decide) ⟨gs_fl_n _ _, h s2 e2⟩
  · rintro m w ⟨s1, s2⟩ hw ⟨e1, e2⟩ ih
    dsimp only at e1 e2
    have e : nI t * 4 + nI w = nI (4 * t + w) := by
      rw [show (4 : Int32) = nI 4 from rfl, pk_mul, nI_add, Nat.mul_comm]
    refine br_f (nI_ge (b := 4) hw (by decide)) (gx_made GA e2 (gs_gw_le g3 hle n t w) hn hw (fun v hv => gs_gw_nz (hall v hv)) ?_)
    rw [gs_md_in kv n t w w hw (Nat.le_refl _) g4]
    refine nm_r e ⟨vp_in_nI (by omega) (by decide), nm_r (e' := gs_kd (kv (4 * t + w))) ?_ ?_⟩
    · rw [nI_clamp (by omega)]
      show s2 (4 * t + w) = _
      rw [e2 (4 * t + w) (by omega), gs_gw_at]
    · have hl1 := hle (4 * t + w)
      have hl2 := gs_md_le (av := av) (ak := ak) g3 hle n w
      have key : wX_give_64 post (wX_give_5 post (nI n) (nI t) f_stale f_seen f_seenCount f_isStraight f_meetings f_codeCount f_taskCount f_hasRun f_inputLeft f_toldCount f_lastNode f_hasStopped m) (nI n) (nI t) s1 (nI w) (nI (4 * t + w)) (gs_kd (kv (4 * t + w))) (gs_kd (gs_jn (kv (4 * t + w)) (gs_md ak av ac kv n w))) f_stale f_seen f_seenCount f_isStraight f_meetings f_codeCount f_taskCount f_hasRun f_inputLeft f_toldCount f_lastNode f_hasStopped a_actKind a_actVariable a_actOperand a_endKind a_endVariable a_endX a_endY a_path a_pathSide a_leaving a_numberOf a_nodeAt a_successors a_predecessors a_before a_behind a_loop a_liveAt s2 a_code a_task a_variable a_latestTold := by
        have hj := gs_jn_le (h := kv (4 * t + w)) hl2
        refine br_c (fun z => nm_r (nI_1 w) (ih (s1, s2) ?_)) (fun z => ⟨vp_in_nI (by omega) (by decide), nm_r (e' := upd s2 (4 * t + w) (gs_kd (gs_jn (kv (4 * t + w)) (gs_md ak av ac kv n w)))) (by rw [nI_clamp (by omega)]) (nm_r (nI_1 w) (ih (1, _) ?_))⟩)
        · have z' := (gx_kd_inj hj hl1).mp z
          have same : gs_gw ak av ac kv n t (w + 1) = gs_gw ak av ac kv n t w := by
            rw [gs_gw_s, z']
            funext i
            unfold gs_un1
            by_cases q : i = 4 * t + w
            · rw [if_pos q, q, gs_gw_at]
            · rw [if_neg q]
          rw [same]
          exact ⟨e1, e2⟩
        · have z' : ¬ gs_jn (kv (4 * t + w)) (gs_md ak av ac kv n w) = kv (4 * t + w) := fun q => z (by rw [q])
          refine ⟨(gs_fl_1 (fun q => z' ?_)).symm, fun i hi => ?_⟩
          · have := congrFun q (4 * t + w)
            rw [gs_gw_s] at this
            unfold gs_un1 at this
            rw [if_pos rfl] at this
            exact this
          · rw [gs_gw_s]
            unfold gs_un1
            by_cases q : i = 4 * t + w
            · rw [if_pos q, q]
              exact pk_us
            · rw [if_neg q]
              exact (pk_un q).trans (e2 i hi)
      refine br_c (fun z => ?_) (fun z => br_c (fun y => ?_) (fun y => ?_))
      · have z' : kv (4 * t + w) = 0 := (gx_kd_inj hl1 (by omega)).mp (z.trans gx_kd_0.symm)
        have ej : gs_jn (kv (4 * t + w)) (gs_md ak av ac kv n w) = gs_md ak av ac kv n w := if_pos (Or.inl z')
        rw [ej] at key
        exact key
      · have y' := (gx_kd_inj hl1 hl2).mp y
        have ej : gs_jn (kv (4 * t + w)) (gs_md ak av ac kv n w) = gs_md ak av ac kv n w := if_pos (Or.inr y')
        rw [ej] at key
        exact key
      · have ej : gs_jn (kv (4 * t + w)) (gs_md ak av ac kv n w) = 17 := by
          apply if_neg
          rintro (q | q)
          · exact z (by rw [q]; rfl)
          · exact y (by rw [q])
        rw [ej] at key
        exact key
/-- one side of X's giving on -/
def gs_sd (ak av ac ek ex ey : Nat → Nat) (ch : Bool) (co : Nat) (kv : Nat → Nat) (n k : Nat) : Nat → Nat :=
  match gs_sc ek ex ey n k with
  | none => kv
  | some s => if ch = false ∨ k = co then gs_gv ak av ac kv n s else kv
theorem gs_gv_nz {kv : Nat → Nat} {n t i : Nat} (h : kv i ≠ 0) : gs_gv ak av ac kv n t i ≠ 0 := gs_gw_nz h
theorem gs_sd_ok (hac : ∀ n, ac n < 16) (hc3 : ∀ n, ak n = 3 → ac n < 4) (hx : ∀ n, ex n < 16) (hy : ∀ n, ey n < 16) {ch : Bool} {co : Nat} {kv : Nat → Nat} {n k : Nat} (hk : k < 2) (h : gs_KI kv) (hn : n < 16) (he : kv (4 * n) ≠ 0) : gs_KI (gs_sd ak av ac ek ex ey ch co kv n k) ∧ gs_sd ak av ac ek ex ey ch co kv n k (4 * n) ≠ 0 ∧ (gs_sd ak av ac ek ex ey ch co kv n k = kv ∨ gs_kc kv < gs_kc (gs_sd ak av ac ek ex ey ch co kv n k)) := by
  unfold gs_sd
  cases e : gs_sc ek ex ey n k with
  | none => exact ⟨h, he, Or.inl rfl⟩
  | some s =>
    have s16 : s < 16 := gs_E_lt ek ex ey hx hy ((gs_E_sc ek ex ey).mpr ⟨k, hk, e⟩)
    dsimp only
    split
    · exact ⟨gs_gv_KI hac hc3 h hn he, gs_gv_nz he, gs_gv_grow hc3 h hn s16 he⟩
    · exact ⟨h, he, Or.inl rfl⟩
theorem gs_KI_all {kv : Nat → Nat} (h : gs_KI kv) {n : Nat} (hn : n < 16) (he : kv (4 * n) ≠ 0) : ∀ v, v < 4 → kv (4 * n + v) ≠ 0 := by
  rcases h.2 n hn with z | z
  · exact absurd (z 0 (by omega)) he
  · exact z
/-- both sides -/
theorem gs_sd_go (hk2 : ∀ n, ek n ≤ 2) (hac : ∀ n, ac n < 16) (hc3 : ∀ n, ak n = 3 → ac n < 4) {kv : Nat → Nat} {n : Nat} (h : gs_KI kv) (hn : n < 16) (he : kv (4 * n) ≠ 0) {ch : Bool} {co : Nat} (hch : ch = true ↔ ek n = 2 ∧ gs_md ak av ac kv n (ev n) ≠ 17) (hco : co = if gs_md ak av ac kv n (ev n) = 1 then 0 else 1) :
    gs_sd ak av ac ek ex ey ch co (gs_sd ak av ac ek ex ey ch co kv n 0) n 1 = gs_go ak av ac ek ev ex ey kv n := by
  have k3 := hk2 n
  have hc : ek n = 0 ∨ ek n = 1 ∨ ek n = 2 := by omega
  unfold gs_go
  rcases hc with c | c | c
  · have s0 : ∀ k, gs_sc ek ex ey n k = none := fun k => by unfold gs_sc; rw [if_neg (by omega), if_neg (by omega)]
    unfold gs_sd
    rw [s0, s0, if_pos c]
  · have s0 : gs_sc ek ex ey n 0 = some (ex n) := by unfold gs_sc; rw [if_neg (by omega), if_pos ⟨c, rfl⟩]
    have s1 : gs_sc ek ex ey n 1 = none := by unfold gs_sc; rw [if_neg (by omega), if_neg (by omega)]
    have hf : ch = false := by
      cases ch
      · rfl
      · have := (hch.mp rfl).1
        omega
    unfold gs_sd
    rw [s0, s1, if_neg (by omega), if_pos (Or.inl c)]
    exact if_pos (Or.inl hf)
  · have s0 : gs_sc ek ex ey n 0 = some (ex n) := by unfold gs_sc; rw [if_pos c, if_pos rfl]
    have s1 : gs_sc ek ex ey n 1 = some (ey n) := by unfold gs_sc; rw [if_pos c, if_neg (by omega)]
    unfold gs_sd
    rw [s0, s1]
    dsimp only
    rw [if_neg (by omega : ¬ ek n = 0)]
    by_cases m17 : gs_md ak av ac kv n (ev n) = 17
    · have hf : ch = false := by
        cases ch
        · rfl
        · exact absurd m17 (hch.mp rfl).2
      rw [if_pos (Or.inl hf), if_pos (Or.inl hf), if_pos m17]
      by_cases xy : ex n = ey n
      · rw [if_pos (Or.inr xy), ← xy]
        exact gs_gv_twice hc3 h hn he
      · rw [if_neg (by omega)]
    · have hT : ch = true := hch.mpr ⟨c, m17⟩
      subst hT
      by_cases m1 : gs_md ak av ac kv n (ev n) = 1
      · rw [if_pos m1] at hco
        subst hco
        rw [if_neg (by simp), if_pos (Or.inr rfl), if_neg m17, if_pos m1]
        split <;> rfl
      · rw [if_neg m1] at hco
        subst hco
        rw [if_pos (Or.inr rfl), if_neg (by simp), if_neg m17, if_neg m1]
        split
        · rename_i z
          rcases z with z | z
          · omega
          · rw [z]
        · rfl
theorem gx_giveOn_58 {post : Int32 → SX → Prop} {kv0 kv : Nat → Nat} {n i m : Nat} {ch : Bool} {co : Nat} (GE : gx_GE ek ex ey a_endKind a_endX a_endY) (GA : gx_GA ak av ac ev a_actKind a_actVariable a_actOperand a_endVariable) (hI : gs_KI kv) (hn : n < 16) (he : kv (4 * n) ≠ 0) (hi : i < 2) (hco : co < 2) (h0 : gs_kc kv0 < gs_kc kv ∨ kv = kv0) (hK : ∀ i, i < 64 → a_knownAt i = gs_kd (kv i))
    (h : ∀ a, (∀ j, j < 64 → a j = gs_kd (gs_sd ak av ac ek ex ey ch co kv n i j)) → wX_giveOn_58 post (nI n) (if ch = true then 1 else 0) (nI co) m (gs_fl kv0 (gs_sd ak av ac ek ex ey ch co kv n i)) (nI (i + 1)) f_stale f_seen f_seenCount f_isStraight f_meetings f_codeCount f_taskCount f_hasRun f_inputLeft f_toldCount f_lastNode f_hasStopped a_actKind a_actVariable a_actOperand a_endKind a_endVariable a_endX a_endY a_path a_pathSide a_leaving a_numberOf a_nodeAt a_successors a_predecessors a_before a_behind a_loop a_liveAt a a_code a_task a_variable a_latestTold) : wX_giveOn_58 post (nI n) (if ch = true then 1 else 0) (nI co) (m + 1) (gs_fl kv0 kv) (nI i) f_stale f_seen f_seenCount f_isStraight f_meetings f_codeCount f_taskCount f_hasRun f_inputLeft f_toldCount f_lastNode f_hasStopped a_actKind a_actVariable a_actOperand a_endKind a_endVariable a_endX a_endY a_path a_pathSide a_leaving a_numberOf a_nodeAt a_successors a_predecessors a_before a_behind a_loop a_liveAt a_knownAt a_code a_task a_variable a_latestTold := by
  refine br_f (nI_ge (b := 2) hi (by decide)) (gx_succ GE hn hi (fun s s16 hs => ?_) (fun hs => ?_))
  · have sd : gs_sd ak av ac ek ex ey ch co kv n i = if ch = false ∨ i = co then gs_gv ak av ac kv n s else kv := by
      unfold gs_sd
      rw [hs]
    have no : ¬ (ch = false ∨ i = co) → wX_giveOn_94 post (wX_giveOn_58 post (nI n) (if ch = true then 1 else 0) (nI co) m) (nI n) (if ch = true then 1 else 0) (nI co) (gs_fl kv0 kv) (nI i) (nI s) f_stale f_seen f_seenCount f_isStraight f_meetings f_codeCount f_taskCount f_hasRun f_inputLeft f_toldCount f_lastNode f_hasStopped a_actKind a_actVariable a_actOperand a_endKind a_endVariable a_endX a_endY a_path a_pathSide a_leaving a_numberOf a_nodeAt a_successors a_predecessors a_before a_behind a_loop a_liveAt a_knownAt a_code a_task a_variable a_latestTold := by
      intro q
      rw [sd, if_neg q] at h
      exact br_t rfl (nm_r (nI_1 i) (h _ hK))
    have yes : (ch = false ∨ i = co) → wX_giveOn_90 post (wX_giveOn_58 post (nI n) (if ch = true then 1 else 0) (nI co) m) (nI n) (if ch = true then 1 else 0) (nI co) (gs_fl kv0 kv) (nI i) (nI s) f_stale f_seen f_seenCount f_isStraight f_meetings f_codeCount f_taskCount f_hasRun f_inputLeft f_toldCount f_lastNode f_hasStopped a_actKind a_actVariable a_actOperand a_endKind a_endVariable a_endX a_endY a_path a_pathSide a_leaving a_numberOf a_nodeAt a_successors a_predecessors a_before a_behind a_loop a_liveAt a_knownAt a_code a_task a_variable a_latestTold := by
      intro q
      rw [sd, if_pos q] at h
      refine br_f (by decide) (gx_give GA hK hI.1 hn s16 (gs_KI_all hI hn he) (fun a ha => ?_))
      refine br_c (fun z => nm_r (nI_1 i) ?_) (fun z => nm_r (nI_1 i) ?_)
      · have z' := gs_fl_z.mp z
        have := h a ha
        rw [z'] at this
        exact this
      · have z' : ¬ gs_gv ak av ac kv n s = kv := fun y => z (gs_fl_0 y)
        have gr := (gs_gv_grow (av := av) GA.2.2.2.1 hI hn s16 he).resolve_left z'
        have := h a ha
        rw [gs_fl_1 (fun y => ?_)] at this
        · exact this
        · rw [y] at gr
          rcases h0 with w | w
          · omega
          · rw [w] at gr
            omega
    refine br_f (gx_ne1 s16) (br_c (fun z => yes (Or.inl ?_)) (fun z => br_c (fun y => yes (Or.inr ((nI_eq (by omega) (by omega)).mp y))) (fun y => no ?_)))
    · cases ch
      · rfl
      · exact absurd z (by decide)
    · rintro (q | q)
      · subst q
        exact z rfl
      · exact y (by rw [q])
  · have sd : gs_sd ak av ac ek ex ey ch co kv n i = kv := by
      unfold gs_sd
      rw [hs]
    rw [sd] at h
    exact br_t rfl (br_t rfl (nm_r (nI_1 i) (h _ hK)))
theorem gx_giveOn {post : Int32 → SX → Prop} {kv : Nat → Nat} {n : Nat} (GE : gx_GE ek ex ey a_endKind a_endX a_endY) (GA : gx_GA ak av ac ev a_actKind a_actVariable a_actOperand a_endVariable) (hI : gs_KI kv) (hn : n < 16) (he : kv (4 * n) ≠ 0) (hK : ∀ i, i < 64 → a_knownAt i = gs_kd (kv i))
    (h : ∀ a, (∀ j, j < 64 → a j = gs_kd (gs_go ak av ac ek ev ex ey kv n j)) → post (gs_fl kv (gs_go ak av ac ek ev ex ey kv n)) (f_stale, f_seen, f_seenCount, f_isStraight, f_meetings, f_codeCount, f_taskCount, f_hasRun, f_inputLeft, f_toldCount, f_lastNode, f_hasStopped, a_actKind, a_actVariable, a_actOperand, a_endKind, a_endVariable, a_endX, a_endY, a_path, a_pathSide, a_leaving, a_numberOf, a_nodeAt, a_successors, a_predecessors, a_before, a_behind, a_loop, a_liveAt, a, a_code, a_task, a_variable, a_latestTold)) : wpX_giveOn post (f_stale, f_seen, f_seenCount, f_isStraight, f_meetings, f_codeCount, f_taskCount, f_hasRun, f_inputLeft, f_toldCount, f_lastNode, f_hasStopped, a_actKind, a_actVariable, a_actOperand, a_endKind, a_endVariable, a_endX, a_endY, a_path, a_pathSide, a_leaving, a_numberOf, a_nodeAt, a_successors, a_predecessors, a_before, a_behind, a_loop, a_liveAt, a_knownAt, a_code, a_task, a_variable, a_latestTold) (nI n) := by
  have hx := GE.2.1
  have hy := GE.2.2.1
  have hac := GA.2.2.1
  have hc3 := GA.2.2.2.1
  have ev4 := GA.2.2.2.2.1 n
  have hk2 := GE.1 n
  have e2 : (a_endKind (nI n).toNatClampNeg = 2) ↔ ek n = 2 := by
    rw [gx_cl hn, GE.2.2.2.1]
    exact nI_eq (b := 2) (by omega) (by decide)
  have ml := gs_md_le (ak := ak) (av := av) hac hI.1 n (ev n)
  have m17 : gs_kd (gs_md ak av ac kv n (ev n)) = 16 ↔ gs_md ak av ac kv n (ev n) = 17 := gx_kd_inj (b := 17) ml (by omega)
  have m1 : gs_kd (gs_md ak av ac kv n (ev n)) = 0 ↔ gs_md ak av ac kv n (ev n) = 1 := gx_kd_inj (b := 1) ml (by omega)
  have run : ∀ (ch : Bool), (ch = true ↔ ek n = 2 ∧ gs_md ak av ac kv n (ev n) ≠ 17) → wX_giveOn_40 post (nI n) (gs_kd (gs_md ak av ac kv n (ev n))) (if ch = true then 1 else 0) f_stale f_seen f_seenCount f_isStraight f_meetings f_codeCount f_taskCount f_hasRun f_inputLeft f_toldCount f_lastNode f_hasStopped a_actKind a_actVariable a_actOperand a_endKind a_endVariable a_endX a_endY a_path a_pathSide a_leaving a_numberOf a_nodeAt a_successors a_predecessors a_before a_behind a_loop a_liveAt a_knownAt a_code a_task a_variable a_latestTold := by
    intro ch hch
    have both : ∀ co, co < 2 → (co = if gs_md ak av ac kv n (ev n) = 1 then 0 else 1) → ∃ n58, wX_giveOn_58 post (nI n) (if ch = true then 1 else 0) (nI co) n58 0 0 f_stale f_seen f_seenCount f_isStraight f_meetings f_codeCount f_taskCount f_hasRun f_inputLeft f_toldCount f_lastNode f_hasStopped a_actKind a_actVariable a_actOperand a_endKind a_endVariable a_endX a_endY a_path a_pathSide a_leaving a_numberOf a_nodeAt a_successors a_predecessors a_before a_behind a_loop a_liveAt a_knownAt a_code a_task a_variable a_latestTold := by
      intro co hco hc
      have a1 := gs_sd_ok (ek := ek) (av := av) hac hc3 hx hy (ch := ch) (co := co) (k := 0) (by omega) hI hn he
      have go := gs_sd_go (ex := ex) (ey := ey) GE.1 hac hc3 hI hn he hch hc
      refine ⟨3, ?_⟩
      have st := gx_giveOn_58 (post := post) (m := 2) (i := 0) (kv0 := kv) (ch := ch) GE GA hI hn he (by omega) hco (Or.inr rfl) hK (fun a ha => gx_giveOn_58 (m := 1) (i := 1) GE GA a1.1 hn a1.2.1 (by omega) hco (a1.2.2.elim Or.inr Or.inl) ha (fun b hb => br_t (by decide) ⟨gs_fl_n _ _, by
        rw [go] at hb ⊢
        exact h b hb⟩))
      rw [gs_fl_0 rfl] at st
      exact st
    refine br_c (fun z => both 0 (by omega) (by rw [if_pos (m1.mp z)])) (fun z => both 1 (by omega) (by rw [if_neg (fun w => z (m1.mpr w))]))
  refine ⟨gx_in hn, ?_⟩
  have e9 : a_endVariable (nI n).toNatClampNeg = nI (ev n) := by rw [gx_cl hn]; exact GA.2.2.2.2.2.2.2.2 n
  rw [e9]
  refine gx_made GA hK hI.1 hn ev4 (gs_KI_all hI hn he) ⟨gx_in hn, br_c (fun z => br_c (fun y => ?_) (fun y => ?_)) (fun z => ?_)⟩
  · exact run false ⟨fun q => (nomatch q), fun q => absurd (m17.mp y) q.2⟩
  · exact run true ⟨fun _ => ⟨e2.mp z, fun w => y (m17.mpr w)⟩, fun _ => rfl⟩
  · exact run false ⟨fun q => (nomatch q), fun q => absurd (e2.mpr q.1) z⟩
theorem gx_known {post : SX → Prop} (GE : gx_GE ek ex ey a_endKind a_endX a_endY) (GA : gx_GA ak av ac ev a_actKind a_actVariable a_actOperand a_endVariable)
    (h : ∀ a, (∀ j, j < 64 → a j = gs_kd (gs_kF ak av ac ek ev ex ey j)) → post (f_stale, f_seen, f_seenCount, f_isStraight, f_meetings, f_codeCount, f_taskCount, f_hasRun, f_inputLeft, f_toldCount, f_lastNode, f_hasStopped, a_actKind, a_actVariable, a_actOperand, a_endKind, a_endVariable, a_endX, a_endY, a_path, a_pathSide, a_leaving, a_numberOf, a_nodeAt, a_successors, a_predecessors, a_before, a_behind, a_loop, a_liveAt, a, a_code, a_task, a_variable, a_latestTold)) : wpX_findKnown post (f_stale, f_seen, f_seenCount, f_isStraight, f_meetings, f_codeCount, f_taskCount, f_hasRun, f_inputLeft, f_toldCount, f_lastNode, f_hasStopped, a_actKind, a_actVariable, a_actOperand, a_endKind, a_endVariable, a_endX, a_endY, a_path, a_pathSide, a_leaving, a_numberOf, a_nodeAt, a_successors, a_predecessors, a_before, a_behind, a_loop, a_liveAt, a_knownAt, a_code, a_task, a_variable, a_latestTold) := by
  have hx := GE.2.1
  have hy := GE.2.2.1
  have hac := GA.2.2.1
  have hc3 := GA.2.2.2.1
  refine pk_loop (fun m i (s : Nat → Int32) => wX_findKnown_2 post f_stale f_seen f_seenCount f_isStraight f_meetings f_codeCount f_taskCount f_hasRun f_inputLeft f_toldCount f_lastNode f_hasStopped m (nI i) a_actKind a_actVariable a_actOperand a_endKind a_endVariable a_endX a_endY a_path a_pathSide a_leaving a_numberOf a_nodeAt a_successors a_predecessors a_before a_behind a_loop a_liveAt s a_code a_task a_variable a_latestTold) (fun i s => ∀ j, j < i → s j = gs_kd (gs_k0 j)) 64 0 a_knownAt (by omega) (fun j hj => absurd hj (Nat.not_lt_zero j)) ?_ ?_
  · rintro m l hl
    refine br_t (by decide) ?_
    refine pk_loop (fun m i (s : Int32 × (Nat → Int32)) => wX_findKnown_34 post m s.1 (nI i) f_stale f_seen f_seenCount f_isStraight f_meetings f_codeCount f_taskCount f_hasRun f_inputLeft f_toldCount f_lastNode f_hasStopped a_actKind a_actVariable a_actOperand a_endKind a_endVariable a_endX a_endY a_path a_pathSide a_leaving a_numberOf a_nodeAt a_successors a_predecessors a_before a_behind a_loop a_liveAt s.2 a_code a_task a_variable a_latestTold) (fun i s => (s.1 = 0 → gs_ks ak av ac ek ev ex ey (gs_it (gs_ks ak av ac ek ev ex ey) i gs_k0) = gs_it (gs_ks ak av ac ek ev ex ey) i gs_k0) ∧ ∀ j, j < 64 → s.2 j = gs_kd (gs_it (gs_ks ak av ac ek ev ex ey) i gs_k0 j)) 81 0 (1, l) (by omega) ⟨fun z => absurd (show (1 : Int32) = 0 from z) (by decide), hl⟩ ?_ ?_
    · rintro m s ⟨_, hs⟩
      rw [← gs_kF_eq] at hs
      exact br_t (by decide) (h _ hs)
    · rintro m i s hi ⟨hf, hs⟩ ih
      refine br_f (nI_ge (b := 81) hi (by decide)) (br_c (fun z => ?_) (fun z => ?_))
      · rw [gs_kF_end hac hc3 hx hy (hf z)] at hs
        exact h _ hs
      · have KI := gs_kit_KI (ek := ek) (ev := ev) (av := av) hac hc3 hx hy i
        have st := gs_it_s (gs_ks ak av ac ek ev ex ey) i gs_k0
        generalize gs_it (gs_ks ak av ac ek ev ex ey) i gs_k0 = kv at hs KI st
        refine pk_loop (fun m' j (s : Int32 × (Nat → Int32)) => wX_findKnown_48 post (wX_findKnown_34 post m) (nI i) m' s.1 (nI j) f_stale f_seen f_seenCount f_isStraight f_meetings f_codeCount f_taskCount f_hasRun f_inputLeft f_toldCount f_lastNode f_hasStopped a_actKind a_actVariable a_actOperand a_endKind a_endVariable a_endX a_endY a_path a_pathSide a_leaving a_numberOf a_nodeAt a_successors a_predecessors a_before a_behind a_loop a_liveAt s.2 a_code a_task a_variable a_latestTold) (fun j s => s.1 = gs_fl kv (gs_ks1 ak av ac ek ev ex ey kv j) ∧ ∀ q, q < 64 → s.2 q = gs_kd (gs_ks1 ak av ac ek ev ex ey kv j q)) 16 0 (0, s.2) (by omega) ⟨(gs_fl_0 rfl).symm, hs⟩ ?_ ?_
        · rintro m' t ⟨t1, t2⟩
          refine br_t gx_x16 (nm_r (nI_1 i) (ih t ⟨fun w => ?_, ?_⟩))
          · rw [st]
            rw [t1] at w
            have w' : gs_ks ak av ac ek ev ex ey kv = kv := gs_fl_z.mp w
            rw [w']
            exact w'
          · rw [st]
            exact t2
        · rintro m' j ⟨t1, t2⟩ hj ⟨h1, h2⟩ ihj
          dsimp only at h1 h2
          have ok := gs_ks1_ok (ek := ek) (ev := ev) (av := av) hac hc3 hx hy KI j (by omega)
          have e : nI j * 4 = nI (4 * j) := by rw [show (4 : Int32) = nI 4 from rfl, pk_mul, Nat.mul_comm]
          have cell : t2 (nI j * 4).toNatClampNeg = gs_kd (gs_ks1 ak av ac ek ev ex ey kv j (4 * j)) := by
            rw [e, nI_clamp (by omega)]
            exact h2 _ (by omega)
          have z0 : (t2 (nI j * 4).toNatClampNeg = -1) ↔ gs_ks1 ak av ac ek ev ex ey kv j (4 * j) = 0 := by
            rw [cell]
            exact gx_kd_inj (b := 0) (ok.1.1 _) (by omega)
          refine br_f (gx_16 hj) ⟨?_, br_c (fun w => ?_) (fun w => ?_)⟩
          · rw [e]
            exact vp_in_nI (by omega) (by decide)
          · have s1 : gs_ks1 ak av ac ek ev ex ey kv (j + 1) = gs_ks1 ak av ac ek ev ex ey kv j := if_pos (z0.mp w)
            refine nm_r (nI_1 j) (ihj (t1, t2) ?_)
            rw [s1]
            exact ⟨h1, h2⟩
          · have w' : ¬ gs_ks1 ak av ac ek ev ex ey kv j (4 * j) = 0 := fun q => w (z0.mpr q)
            have s1 : gs_ks1 ak av ac ek ev ex ey kv (j + 1) = gs_go ak av ac ek ev ex ey (gs_ks1 ak av ac ek ev ex ey kv j) j := if_neg w'
            have g := gs_go_ok (ek := ek) (ev := ev) (av := av) hac hc3 hx hy ok.1 hj w'
            refine gx_giveOn GE GA ok.1 hj w' h2 (fun a ha => br_c (fun q => nm_r (nI_1 j) (ihj (t1, a) ?_)) (fun q => nm_r (nI_1 j) (ihj (1, a) ?_)))
            · have q' := gs_fl_z.mp q
              rw [s1]
              refine ⟨?_, ha⟩
              rw [q']
              exact h1
            · have q' : ¬ gs_go ak av ac ek ev ex ey (gs_ks1 ak av ac ek ev ex ey kv j) j = gs_ks1 ak av ac ek ev ex ey kv j := fun y => q (gs_fl_0 y)
              have gr := g.2.resolve_left q'
              rw [s1]
              refine ⟨(gs_fl_1 (fun y => ?_)).symm, ha⟩
              rw [y] at gr
              rcases ok.2 with o | o
              · rw [o] at gr
                omega
              · omega
  · rintro m i s hi hI ih
    have put : ∀ v, v = gs_kd (gs_k0 i) → ∀ j, j < i + 1 → upd s i v j = gs_kd (gs_k0 j) := by
      intro v hv j hj
      by_cases e : j = i
      · subst e
        rw [pk_us]
        exact hv
      · rw [pk_un e]
        exact hI j (by omega)
    refine br_f (nI_ge (b := 64) hi (by decide)) (pk_le 4 i (fun z => ⟨vp_in_nI hi (by decide), nm_r (e' := upd s i (-1)) (by rw [nI_clamp (by omega)]) (nm_r (nI_1 i) (ih _ (put _ ?_)))⟩) (fun z => ⟨vp_in_nI hi (by decide), nm_r (e' := upd s i 0) (by rw [nI_clamp (by omega)]) (nm_r (nI_1 i) (ih _ (put _ ?_)))⟩))
    · unfold gs_k0
      rw [if_neg (by omega)]
      rfl
    · unfold gs_k0
      rw [if_pos (by omega)]
      rfl
end
