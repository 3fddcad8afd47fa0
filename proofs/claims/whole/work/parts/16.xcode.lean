/-! X: the code -/
section
variable {f_stale f_seen f_seenCount f_isStraight f_meetings f_codeCount f_taskCount f_hasRun f_toldCount f_lastNode f_hasStopped : Int32} {f_inputLeft : Int64} {a_actKind a_actVariable a_actOperand a_endKind a_endVariable a_endX a_endY a_path a_pathSide a_leaving a_numberOf a_nodeAt a_successors a_predecessors a_before a_behind a_loop a_liveAt a_knownAt a_code a_task a_variable a_latestTold : Nat → Int32} {ek ex ey ev : Nat → Nat}
theorem gx_addTask {post : SX → Prop} {tk : List Nat} {w : Nat} {p : Int32} (hp : p = nI w) (ht : gs_st a_task tk) (hl : tk.length < 176) (h : ∀ t, gs_st t (w :: tk) → post (f_stale, f_seen, f_seenCount, f_isStraight, f_meetings, f_codeCount, nI (w :: tk).length, f_hasRun, f_inputLeft, f_toldCount, f_lastNode, f_hasStopped, a_actKind, a_actVariable, a_actOperand, a_endKind, a_endVariable, a_endX, a_endY, a_path, a_pathSide, a_leaving, a_numberOf, a_nodeAt, a_successors, a_predecessors, a_before, a_behind, a_loop, a_liveAt, a_knownAt, a_code, t, a_variable, a_latestTold)) : wpX_addTask post (f_stale, f_seen, f_seenCount, f_isStraight, f_meetings, f_codeCount, nI tk.length, f_hasRun, f_inputLeft, f_toldCount, f_lastNode, f_hasStopped, a_actKind, a_actVariable, a_actOperand, a_endKind, a_endVariable, a_endX, a_endY, a_path, a_pathSide, a_leaving, a_numberOf, a_nodeAt, a_successors, a_predecessors, a_before, a_behind, a_loop, a_liveAt, a_knownAt, a_code, a_task, a_variable, a_latestTold) p := by
  subst hp
  refine br_f (nI_ge (b := 176) hl (by decide)) ⟨vp_in_nI hl (by decide), nm_r (e' := upd a_task tk.length (nI w)) (by rw [nI_clamp (by omega)]) (nm_r (nI_1 _) (h _ (gs_st_push ht)))⟩
theorem gx_addWord {post : SX → Prop} {wd : List Nat} {w : Nat} {p : Int32} (hp : p = nI w) (ht : gs_st a_code wd) (hl : wd.length < 160) (h : ∀ t, gs_st t (w :: wd) → post (f_stale, f_seen, f_seenCount, f_isStraight, f_meetings, nI (w :: wd).length, f_taskCount, f_hasRun, f_inputLeft, f_toldCount, f_lastNode, f_hasStopped, a_actKind, a_actVariable, a_actOperand, a_endKind, a_endVariable, a_endX, a_endY, a_path, a_pathSide, a_leaving, a_numberOf, a_nodeAt, a_successors, a_predecessors, a_before, a_behind, a_loop, a_liveAt, a_knownAt, t, a_task, a_variable, a_latestTold)) : wpX_addWord post (f_stale, f_seen, f_seenCount, f_isStraight, f_meetings, nI wd.length, f_taskCount, f_hasRun, f_inputLeft, f_toldCount, f_lastNode, f_hasStopped, a_actKind, a_actVariable, a_actOperand, a_endKind, a_endVariable, a_endX, a_endY, a_path, a_pathSide, a_leaving, a_numberOf, a_nodeAt, a_successors, a_predecessors, a_before, a_behind, a_loop, a_liveAt, a_knownAt, a_code, a_task, a_variable, a_latestTold) p := by
  subst hp
  refine br_f (nI_ge (b := 160) hl (by decide)) ⟨vp_in_nI hl (by decide), nm_r (e' := upd a_code wd.length (nI w)) (by rw [nI_clamp (by omega)]) (nm_r (nI_1 _) (h _ (gs_st_push ht)))⟩
theorem gs_Fst_ch (hx : ∀ n, ex n < 16) (hy : ∀ n, ey n < 16) {r : Int32} {m n : Nat} (hn : n < 16) (h : gs_Fst r (gs_near (gs_bf ek ex ey) m)) : r = nI n ↔ gs_ch ek ex ey m n := by
  rcases h with ⟨d, hd, rfl, h1, h2⟩ | ⟨rfl, h1⟩
  · rw [nI_eq (by omega) (by omega)]
    constructor
    · rintro rfl
      exact ⟨h1, h2⟩
    · intro z
      rcases Nat.lt_trichotomy d n with q | q | q
      · exact absurd h1 (z.2 d q)
      · exact q
      · exact absurd z.1 (h2 n q)
  · constructor
    · intro z
      exact absurd z.symm (gx_ne1 hn)
    · intro z
      exact absurd z.1 (h1 n hn)
/-- what X knows when it writes -/
def gx_CW (ek ex ey : Nat → Nat) (f_seenCount f_meetings : Int32) (a_numberOf a_nodeAt a_before a_loop : Nat → Int32) : Prop :=
  f_seenCount = nI (gs_lv ek ex ey).length ∧ gs_Mk f_meetings (gs_mt ek ex ey) ∧ gx_NU ek ex ey a_numberOf ∧ gx_NA ek ex ey a_nodeAt ∧ (∀ n, n < 16 → gs_Mk (a_before n) (fun d => gs_bf ek ex ey d n)) ∧ (∀ n, n < 16 → gs_Mk (a_loop n) (gs_lp ek ex ey n))
theorem gx_open_30 {post : SX → Prop} {n : Nat} (hx : ∀ n, ex n < 16) (hy : ∀ n, ey n < 16) (CW : gx_CW ek ex ey f_seenCount f_meetings a_numberOf a_nodeAt a_before a_loop) (hn : n < 16) : ∀ (k : Nat) (s : List Nat × List Nat) (c t : Nat → Int32), k ≤ (gs_lv ek ex ey).length → gs_st c s.1 → gs_st t s.2 → (gs_ob ek ex ey n k s).1.length < 160 → (gs_ob ek ex ey n k s).2.length ≤ 176 →
    (∀ c' t', gs_st c' (n :: (gs_ob ek ex ey n k s).1) → gs_st t' (gs_ob ek ex ey n k s).2 → post (f_stale, f_seen, f_seenCount, f_isStraight, f_meetings, nI (n :: (gs_ob ek ex ey n k s).1).length, nI (gs_ob ek ex ey n k s).2.length, f_hasRun, f_inputLeft, f_toldCount, f_lastNode, f_hasStopped, a_actKind, a_actVariable, a_actOperand, a_endKind, a_endVariable, a_endX, a_endY, a_path, a_pathSide, a_leaving, a_numberOf, a_nodeAt, a_successors, a_predecessors, a_before, a_behind, a_loop, a_liveAt, a_knownAt, c', t', a_variable, a_latestTold)) →
    wX_openNode_30 post (nI n) (k + 1) (nI k + (-1)) f_stale f_seen f_seenCount f_isStraight f_meetings (nI s.1.length) (nI s.2.length) f_hasRun f_inputLeft f_toldCount f_lastNode f_hasStopped a_actKind a_actVariable a_actOperand a_endKind a_endVariable a_endX a_endY a_path a_pathSide a_leaving a_numberOf a_nodeAt a_successors a_predecessors a_before a_behind a_loop a_liveAt a_knownAt c t a_variable a_latestTold
  | 0, s, c, t, _, hc, ht, hl1, hl2, h => by
    refine br_t (by decide) (gx_addWord (w := n) ?_ hc hl1 (fun c' hc' => h c' t hc' ht))
    rw [Int32.zero_add]
  | k + 1, s, c, t, hk, hc, ht, hl1, hl2, h => by
    have L := gs_lv_len (ek := ek) hx hy
    have hm : gs_at (gs_lv ek ex ey) k ∈ gs_lv ek ex ey := gs_at_mem _ k hk
    have hs : gs_sn ek ex ey (gs_at (gs_lv ek ex ey) k) = true := (gs_sn_lv hx hy).mpr hm
    have m16 := gs_sn_lt hx hy hs
    have hna := CW.2.2.2.1 k hk
    have ih := gx_open_30 (post := post) hx hy CW hn k
    unfold gs_ob at hl1 hl2 h
    rw [pk_m1]
    refine br_f (nI_pos (by omega)) ⟨gx_in (by omega), nm_r (e' := nI (gs_at (gs_lv ek ex ey) k)) (by rw [gx_cl (by omega)]; exact hna) (gx_hm CW.2.1 m16 (fun q => ?_) (fun q => ?_))⟩
    · refine gx_near_before m16 CW.2.2.2.2.1 (fun r hr => br_c (fun z => ?_) (fun z => ?_))
      · have kid : gs_kid ek ex ey n (gs_at (gs_lv ek ex ey) k) = true := gs_B_t.mpr ⟨q, (gs_Fst_ch hx hy hn hr).mp z⟩
        rw [if_pos kid] at hl1 hl2 h
        have g := gs_ob_len (ek := ek) (ex := ex) (ey := ey) n k ((32 + gs_at (gs_lv ek ex ey) k) :: s.1, 80 :: (256 + gs_at (gs_lv ek ex ey) k) :: s.2)
        simp only [List.length_cons] at g
        refine gx_addWord (w := 32 + gs_at (gs_lv ek ex ey) k) (nI_add 32 _) hc (by omega) (fun c1 hc1 => ?_)
        refine gx_addTask (w := 256 + gs_at (gs_lv ek ex ey) k) (nI_add 256 _) ht (by omega) (fun t1 ht1 => ?_)
        refine gx_addTask (w := 80) rfl ht1 (by simp only [List.length_cons]; omega) (fun t2 ht2 => nm_e ?_)
        exact ih ((32 + gs_at (gs_lv ek ex ey) k) :: s.1, 80 :: (256 + gs_at (gs_lv ek ex ey) k) :: s.2) c1 t2 (by omega) hc1 ht2 hl1 hl2 h
      · have kid : ¬ gs_kid ek ex ey n (gs_at (gs_lv ek ex ey) k) = true := fun w => z ((gs_Fst_ch hx hy hn hr).mpr (gs_B_t.mp w).2)
        rw [if_neg kid] at hl1 hl2 h
        exact nm_e (ih s c t (by omega) hc ht hl1 hl2 h)
    · have kid : ¬ gs_kid ek ex ey n (gs_at (gs_lv ek ex ey) k) = true := fun w => q (gs_B_t.mp w).1
      rw [if_neg kid] at hl1 hl2 h
      exact nm_e (ih s c t (by omega) hc ht hl1 hl2 h)
theorem gx_lenp (hx : ∀ n, ex n < 16) (hy : ∀ n, ey n < 16) : nI (gs_lv ek ex ey).length - 1 = nI (gs_lv ek ex ey).length + (-1) := by
  obtain ⟨t, ht⟩ := gs_lv_0 (ek := ek) hx hy
  rw [ht, List.length_cons, nI_pred, pk_m1]
theorem gx_open {post : SX → Prop} {n : Nat} {wd tk : List Nat} (hx : ∀ n, ex n < 16) (hy : ∀ n, ey n < 16) (CW : gx_CW ek ex ey f_seenCount f_meetings a_numberOf a_nodeAt a_before a_loop) (hn : n < 16) (hc : gs_st a_code wd) (ht : gs_st a_task tk) (hl1 : (gs_op ek ex ey ev n (wd, tk)).1.length ≤ 160) (hl2 : (gs_ob ek ex ey n (gs_lv ek ex ey).length (gs_o1 ek ex ey n (wd, tk))).2.length ≤ 176)
    (h : ∀ c' t', gs_st c' (gs_op ek ex ey ev n (wd, tk)).1 → gs_st t' (gs_ob ek ex ey n (gs_lv ek ex ey).length (gs_o1 ek ex ey n (wd, tk))).2 → post (f_stale, f_seen, f_seenCount, f_isStraight, f_meetings, nI (gs_op ek ex ey ev n (wd, tk)).1.length, nI (gs_ob ek ex ey n (gs_lv ek ex ey).length (gs_o1 ek ex ey n (wd, tk))).2.length, f_hasRun, f_inputLeft, f_toldCount, f_lastNode, f_hasStopped, a_actKind, a_actVariable, a_actOperand, a_endKind, a_endVariable, a_endX, a_endY, a_path, a_pathSide, a_leaving, a_numberOf, a_nodeAt, a_successors, a_predecessors, a_before, a_behind, a_loop, a_liveAt, a_knownAt, c', t', a_variable, a_latestTold)) :
    wpX_openNode post (f_stale, f_seen, f_seenCount, f_isStraight, f_meetings, nI wd.length, nI tk.length, f_hasRun, f_inputLeft, f_toldCount, f_lastNode, f_hasStopped, a_actKind, a_actVariable, a_actOperand, a_endKind, a_endVariable, a_endX, a_endY, a_path, a_pathSide, a_leaving, a_numberOf, a_nodeAt, a_successors, a_predecessors, a_before, a_behind, a_loop, a_liveAt, a_knownAt, a_code, a_task, a_variable, a_latestTold) (nI n) := by
  have hz : (a_loop (nI n).toNatClampNeg = 0) ↔ ¬ ∃ p, gs_ret ek ex ey n p := by
    rw [gx_cl hn, gs_Mk_z (CW.2.2.2.2.2 n hn)]
    constructor
    · rintro z ⟨p, hp⟩
      exact z n hn (gs_lp_h hp)
    · rintro z i _ ⟨p, hp, _⟩
      exact z ⟨p, hp⟩
  have hsc := CW.1
  unfold gs_op at hl1 h
  dsimp only at hl1 h
  simp only [List.length_cons] at hl1
  refine ⟨gx_in hn, br_c (fun z => ?_) (fun z => ?_)⟩
  · have o1 : gs_o1 ek ex ey n (wd, tk) = (wd, tk) := if_neg (fun w => hz.mp z (gs_B_t.mp w))
    rw [o1] at hl1 hl2 h
    refine nm_r (e' := nI (gs_lv ek ex ey).length + (-1)) (by rw [hsc]; exact gx_lenp hx hy) ⟨_, gx_open_30 hx hy CW hn (gs_lv ek ex ey).length (wd, tk) a_code a_task (Nat.le_refl _) hc ht (by omega) hl2 h⟩
  · have hd : gs_hd ek ex ey n = true := by
      apply gs_B_t.mpr
      apply Classical.byContradiction
      exact fun w => z (hz.mpr w)
    have o1 : gs_o1 ek ex ey n (wd, tk) = ((16 + n) :: wd, 80 :: tk) := if_pos hd
    rw [o1] at hl1 hl2 h
    have g := gs_ob_len (ek := ek) (ex := ex) (ey := ey) n (gs_lv ek ex ey).length ((16 + n) :: wd, 80 :: tk)
    simp only [List.length_cons] at g
    refine gx_addWord (w := 16 + n) (nI_add 16 n) hc (by omega) (fun c1 hc1 => gx_addTask (w := 80) rfl ht (by omega) (fun t1 ht1 => ?_))
    refine nm_r (e' := nI (gs_lv ek ex ey).length + (-1)) (by rw [hsc]; exact gx_lenp hx hy) ⟨_, gx_open_30 hx hy CW hn (gs_lv ek ex ey).length ((16 + n) :: wd, 80 :: tk) c1 t1 (Nat.le_refl _) hc1 ht1 (by omega) hl2 h⟩
theorem gx_way {post : Int32 → Prop} {n s : Nat} (hx : ∀ n, ex n < 16) (hy : ∀ n, ey n < 16) (CW : gx_CW ek ex ey f_seenCount f_meetings a_numberOf a_nodeAt a_before a_loop) (hn : gs_sn ek ex ey n = true) (hs : gs_sn ek ex ey s = true) (h : post (nI (gs_way ek ex ey n s))) : wpX_wayTo post (f_stale, f_seen, f_seenCount, f_isStraight, f_meetings, f_codeCount, f_taskCount, f_hasRun, f_inputLeft, f_toldCount, f_lastNode, f_hasStopped, a_actKind, a_actVariable, a_actOperand, a_endKind, a_endVariable, a_endX, a_endY, a_path, a_pathSide, a_leaving, a_numberOf, a_nodeAt, a_successors, a_predecessors, a_before, a_behind, a_loop, a_liveAt, a_knownAt, a_code, a_task, a_variable, a_latestTold) (nI n) (nI s) := by
  have n16 := gs_sn_lt hx hy hn
  have s16 := gs_sn_lt hx hy hs
  have hl := (gx_nu_lt hx hy CW.2.2.1 hn hs).1
  unfold gs_way at h
  refine ⟨gx_in s16, gx_in n16, br_c (fun z => ?_) (fun z => ?_)⟩
  · have z' := hl.mp z
    rw [if_neg (by omega)] at h
    refine gx_hm CW.2.1 s16 (fun q => ?_) (fun q => ?_)
    · rw [if_pos (gs_B_t.mpr q)] at h
      rw [show (112 : Int32) + nI s = nI (112 + s) from nI_add 112 s]
      exact h
    · rw [if_neg (fun w => q (gs_B_t.mp w))] at h
      rw [show (256 : Int32) + nI s = nI (256 + s) from nI_add 256 s]
      exact h
  · have z' : ¬ gs_nu ek ex ey n < gs_nu ek ex ey s := fun w => z (hl.mpr w)
    rw [if_pos (by omega)] at h
    rw [show (96 : Int32) + nI s = nI (96 + s) from nI_add 96 s]
    exact h
theorem gx_goon {post : SX → Prop} {n : Nat} {tk : List Nat} (GE : gx_GE ek ex ey a_endKind a_endX a_endY) (hev : ∀ n, a_endVariable n = nI (ev n)) (CW : gx_CW ek ex ey f_seenCount f_meetings a_numberOf a_nodeAt a_before a_loop) (hn : gs_sn ek ex ey n = true) (ht : gs_st a_task tk) (hl : (gs_gon ek ex ey ev n ++ tk).length ≤ 176)
    (h : ∀ t', gs_st t' (gs_gon ek ex ey ev n ++ tk) → post (f_stale, f_seen, f_seenCount, f_isStraight, f_meetings, f_codeCount, nI (gs_gon ek ex ey ev n ++ tk).length, f_hasRun, f_inputLeft, f_toldCount, f_lastNode, f_hasStopped, a_actKind, a_actVariable, a_actOperand, a_endKind, a_endVariable, a_endX, a_endY, a_path, a_pathSide, a_leaving, a_numberOf, a_nodeAt, a_successors, a_predecessors, a_before, a_behind, a_loop, a_liveAt, a_knownAt, a_code, t', a_variable, a_latestTold)) : wpX_addGoingOn post (f_stale, f_seen, f_seenCount, f_isStraight, f_meetings, f_codeCount, nI tk.length, f_hasRun, f_inputLeft, f_toldCount, f_lastNode, f_hasStopped, a_actKind, a_actVariable, a_actOperand, a_endKind, a_endVariable, a_endX, a_endY, a_path, a_pathSide, a_leaving, a_numberOf, a_nodeAt, a_successors, a_predecessors, a_before, a_behind, a_loop, a_liveAt, a_knownAt, a_code, a_task, a_variable, a_latestTold) (nI n) := by
  obtain ⟨g1, g2, g3, g4, g5, g6⟩ := GE
  have n16 := gs_sn_lt g2 g3 hn
  have k2 := g1 n
  have eK : ∀ b, b < 3 → (a_endKind (nI n).toNatClampNeg = nI b ↔ ek n = b) := fun b hb => by
    rw [gx_cl n16, g4]
    exact nI_eq (by omega) (by omega)
  have eX : a_endX (nI n).toNatClampNeg = nI (ex n) := by rw [gx_cl n16, g5]
  have eY : a_endY (nI n).toNatClampNeg = nI (ey n) := by rw [gx_cl n16, g6]
  have eV : a_endVariable (nI n).toNatClampNeg = nI (ev n) := by rw [gx_cl n16, hev]
  unfold gs_gon at hl h
  refine ⟨gx_in n16, br_c (fun z => ?_) (fun z => ⟨gx_in n16, ?_⟩)⟩
  · rw [if_pos ((eK 0 (by omega)).mp z)] at hl h
    exact gx_addTask (w := 128) rfl ht (by simp only [List.length_append, List.length_cons] at hl; omega) h
  · have z0 : ¬ ek n = 0 := fun w => z ((eK 0 (by omega)).mpr w)
    rw [if_neg z0] at hl h
    have hEx : gs_E ek ex ey n (ex n) := by
      by_cases k1 : ek n = 1
      · exact Or.inl ⟨k1, rfl⟩
      · exact Or.inr ⟨by omega, Or.inl rfl⟩
    rw [eX]
    have one : ek n = 1 ∨ ex n = ey n → wX_addGoingOn_54 post (nI (gs_way ek ex ey n (ex n))) f_stale f_seen f_seenCount f_isStraight f_meetings f_codeCount (nI tk.length) f_hasRun f_inputLeft f_toldCount f_lastNode f_hasStopped a_actKind a_actVariable a_actOperand a_endKind a_endVariable a_endX a_endY a_path a_pathSide a_leaving a_numberOf a_nodeAt a_successors a_predecessors a_before a_behind a_loop a_liveAt a_knownAt a_code a_task a_variable a_latestTold := by
      intro q
      rw [if_pos q] at hl h
      exact gx_addTask rfl ht (by simp only [List.length_append, List.length_cons] at hl; omega) h
    refine gx_way g2 g3 CW hn (gs_sn_E g2 g3 hn hEx) ⟨gx_in n16, br_c (fun y => one (Or.inl ((eK 1 (by omega)).mp y))) (fun y => ⟨gx_in n16, gx_in n16, br_c (fun w => one (Or.inr ?_)) (fun w => ⟨gx_in n16, ?_⟩)⟩)⟩
    · rw [eY, nI_eq (by have := g2 n; omega) (by have := g3 n; omega)] at w
      exact w
    · have y1 : ¬ ek n = 1 := fun q => y ((eK 1 (by omega)).mpr q)
      have xy : ¬ ex n = ey n := fun q => w (by rw [eY, q])
      rw [if_neg (fun q => q.elim y1 xy)] at hl h
      have hEy : gs_E ek ex ey n (ey n) := Or.inr ⟨by omega, Or.inr rfl⟩
      rw [eY]
      simp only [List.length_append, List.length_cons, List.length_nil] at hl
      refine gx_way g2 g3 CW hn (gs_sn_E g2 g3 hn hEy) ?_
      refine gx_addTask (w := 80) rfl ht (by omega) (fun t1 h1 => ?_)
      refine gx_addTask (w := gs_way ek ex ey n (ey n)) rfl h1 (by simp only [List.length_cons]; omega) (fun t2 h2 => ?_)
      refine gx_addTask (w := 64) rfl h2 (by simp only [List.length_cons]; omega) (fun t3 h3 => ?_)
      refine gx_addTask (w := gs_way ek ex ey n (ex n)) rfl h3 (by simp only [List.length_cons]; omega) (fun t4 h4 => ?_)
      refine ⟨gx_in n16, gx_addTask (w := 48 + ev n) (by rw [eV]; exact nI_add 48 _) h4 (by simp only [List.length_cons]; omega) (fun t5 h5 => ?_)⟩
      exact h t5 h5
theorem gx_write {post : SX → Prop} (GE : gx_GE ek ex ey a_endKind a_endX a_endY) (hev : ∀ n, a_endVariable n = nI (ev n)) (hv : ∀ n, ev n < 4) (CW : gx_CW ek ex ey f_seenCount f_meetings a_numberOf a_nodeAt a_before a_loop)
    (h0 : f_isStraight = 0 → post (f_stale, f_seen, f_seenCount, f_isStraight, f_meetings, 0, 0, f_hasRun, f_inputLeft, f_toldCount, f_lastNode, f_hasStopped, a_actKind, a_actVariable, a_actOperand, a_endKind, a_endVariable, a_endX, a_endY, a_path, a_pathSide, a_leaving, a_numberOf, a_nodeAt, a_successors, a_predecessors, a_before, a_behind, a_loop, a_liveAt, a_knownAt, a_code, a_task, a_variable, a_latestTold)) (h1 : ¬ f_isStraight = 0 → ∀ tc c t, gs_st c (gs_cF ek ex ey ev).1 → post (f_stale, f_seen, f_seenCount, f_isStraight, f_meetings, nI (gs_cF ek ex ey ev).1.length, tc, f_hasRun, f_inputLeft, f_toldCount, f_lastNode, f_hasStopped, a_actKind, a_actVariable, a_actOperand, a_endKind, a_endVariable, a_endX, a_endY, a_path, a_pathSide, a_leaving, a_numberOf, a_nodeAt, a_successors, a_predecessors, a_before, a_behind, a_loop, a_liveAt, a_knownAt, c, t, a_variable, a_latestTold)) : wpX_writeCode post (f_stale, f_seen, f_seenCount, f_isStraight, f_meetings, f_codeCount, f_taskCount, f_hasRun, f_inputLeft, f_toldCount, f_lastNode, f_hasStopped, a_actKind, a_actVariable, a_actOperand, a_endKind, a_endVariable, a_endX, a_endY, a_path, a_pathSide, a_leaving, a_numberOf, a_nodeAt, a_successors, a_predecessors, a_before, a_behind, a_loop, a_liveAt, a_knownAt, a_code, a_task, a_variable, a_latestTold) := by
  have hk := GE.1
  have hx := GE.2.1
  have hy := GE.2.2.1
  refine br_c h0 (fun z => ?_)
  have h1 := h1 z
  refine gx_addTask (tk := []) (w := 256) rfl trivial (by decide) (fun t0 ht0 => ?_)
  refine pk_loop (fun m i (s : Int32 × Int32 × (Nat → Int32) × (Nat → Int32)) => wX_writeCode_27 post m (nI i) f_stale f_seen f_seenCount f_isStraight f_meetings s.1 s.2.1 f_hasRun f_inputLeft f_toldCount f_lastNode f_hasStopped a_actKind a_actVariable a_actOperand a_endKind a_endVariable a_endX a_endY a_path a_pathSide a_leaving a_numberOf a_nodeAt a_successors a_predecessors a_before a_behind a_loop a_liveAt a_knownAt s.2.2.1 s.2.2.2 a_variable a_latestTold) (fun i s => s.1 = nI (gs_ci ek ex ey ev i).1.length ∧ s.2.1 = nI (gs_ci ek ex ey ev i).2.length ∧ gs_st s.2.2.1 (gs_ci ek ex ey ev i).1 ∧ gs_st s.2.2.2 (gs_ci ek ex ey ev i).2) 176 0 (0, nI [256].length, a_code, t0) (by omega) (by rw [gs_ci_0]; exact ⟨rfl, rfl, trivial, ht0⟩) ?_ ?_
  · rintro m s hI
    have hI2 : s.1 = nI (gs_cF ek ex ey ev).1.length ∧ gs_st s.2.2.1 (gs_cF ek ex ey ev).1 := by
      rw [← gs_ci_F]
      exact ⟨hI.1, hI.2.2.1⟩
    obtain ⟨s1, s2, c, t⟩ := s
    have e1 : s1 = nI (gs_cF ek ex ey ev).1.length := hI2.1
    subst e1
    exact br_t (by decide) (h1 s2 c t hI2.2)
  · rintro m i ⟨s1, s2, c, t⟩ hi ⟨i1, i2, i3, i4⟩ ih
    dsimp only at i1 i2 i3 i4
    have st := gs_ci_s ek ex ey ev i
    obtain ⟨b, cs⟩ := gs_ci_CS (ev := ev) hk hx hy hv i
    obtain ⟨b2, cs2⟩ := gs_ci_CS (ev := ev) hk hx hy hv (i + 1)
    have fin := gs_ci_end (ev := ev) hk hx hy hv (i := i)
    rw [st] at cs2 ih
    generalize gs_ci ek ex ey ev i = S at i1 i2 i3 i4 st cs cs2 fin ih
    obtain ⟨wd, tk⟩ := S
    dsimp only at i1 i2 i3 i4 fin
    subst i1 i2
    refine br_f (nI_ge (b := 176) hi (by decide)) ?_
    cases tk with
    | nil =>
      refine br_t (show nI 0 ≤ (0 : Int32) by decide) ?_
      have f := fin rfl
      rw [← f] at h1
      exact h1 _ c t i3
    | cons q r =>
      have len := gs_CS_len cs
      have len2 := gs_CS_len cs2
      simp only [List.length_cons] at len
      have e1 : nI (q :: r).length - 1 = nI r.length := by rw [List.length_cons]; exact nI_pred _
      refine br_f (nI_nle (by simp) (by simp only [List.length_cons]; omega)) (nm_r e1 ⟨vp_in_nI (by omega) (by decide), nm_r (e' := nI q) (by rw [nI_clamp (by omega)]; exact i4.1) ?_⟩)
      obtain ⟨Wr, ci, _⟩ := cs
      have q272 : q < 272 := by
        rcases ci.1 q List.mem_cons_self with w | w
        · omega
        · have := gs_sn_lt hx hy w.2
          omega
      refine pk_lt q 256 (fun w => ?_) (fun w => ?_)
      · have cs1 : gs_cs ek ex ey ev (wd, q :: r) = (q :: wd, r) := if_pos w
        rw [cs1] at ih
        exact gx_addWord rfl i3 (by omega) (fun c' hc' => nm_r (nI_1 i) (ih (_, _, c', t) ⟨rfl, rfl, hc', i4.2⟩))
      · have cs1 : gs_cs ek ex ey ev (wd, q :: r) = gs_op ek ex ey ev (q - 256) (wd, r) := if_neg (by omega)
        rw [cs1] at ih len2
        have hsn : gs_sn ek ex ey (q - 256) = true := by
          rcases ci.1 q List.mem_cons_self with w' | w'
          · omega
          · exact w'.2
        have e2 : nI q - 256 = nI (q - 256) := pk_sub (b := 256) w
        rw [e2]
        have l2 : (gs_gon ek ex ey ev (q - 256) ++ (gs_ob ek ex ey (q - 256) (gs_lv ek ex ey).length (gs_o1 ek ex ey (q - 256) (wd, r))).2).length ≤ 158 := len2.2
        have l3 := l2
        rw [List.length_append] at l3
        refine gx_open (ev := ev) hx hy CW (by omega) i3 i4.2 (by omega) (by omega) (fun c' t' hc' ht' => ?_)
        refine gx_goon GE hev CW hsn ht' (by omega) (fun t2 ht2 => ?_)
        exact nm_r (nI_1 i) (ih (_, _, c', t2) ⟨rfl, rfl, hc', ht2⟩)
end
