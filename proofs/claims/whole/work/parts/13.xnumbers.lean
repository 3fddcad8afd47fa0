/-! X: the numbers -/
def gs_st2 (a b : Nat → Int32) : List (Nat × Nat) → Prop
  | [] => True
  | e :: t => a t.length = nI e.1 ∧ b t.length = nI e.2 ∧ gs_st2 a b t
theorem gs_st2_a {a b : Nat → Int32} {k : Nat} {v : Int32} : ∀ (l : List (Nat × Nat)), l.length ≤ k → gs_st2 a b l → gs_st2 (upd a k v) b l
  | [], _, _ => trivial
  | e :: t, hk, h => by
    simp only [List.length_cons] at hk
    exact ⟨(pk_un (by omega)).trans h.1, h.2.1, gs_st2_a t (by omega) h.2.2⟩
theorem gs_st2_b {a b : Nat → Int32} {k : Nat} {v : Int32} : ∀ (l : List (Nat × Nat)), l.length ≤ k → gs_st2 a b l → gs_st2 a (upd b k v) l
  | [], _, _ => trivial
  | e :: t, hk, h => by
    simp only [List.length_cons] at hk
    exact ⟨h.1, (pk_un (by omega)).trans h.2.1, gs_st2_b t (by omega) h.2.2⟩
theorem gx_ne1 {t : Nat} (h : t < 16) : ¬ nI t = -1 := by
  intro z
  have := nI_pos (n := t) (by omega)
  rw [z] at this
  exact this (by decide)
section
variable {f_stale f_seen f_seenCount f_isStraight f_meetings f_codeCount f_taskCount f_hasRun f_toldCount f_lastNode f_hasStopped : Int32} {f_inputLeft : Int64} {a_actKind a_actVariable a_actOperand a_endKind a_endVariable a_endX a_endY a_path a_pathSide a_leaving a_numberOf a_nodeAt a_successors a_predecessors a_before a_behind a_loop a_liveAt a_knownAt a_code a_task a_variable a_latestTold : Nat → Int32} {ek ex ey : Nat → Nat}
theorem gs_Inv_len {stk : List (Nat × Nat)} {sn : Nat → Bool} {lv : List Nat} (h : gs_Inv ek ex ey stk sn lv) : stk.length ≤ 16 ∧ lv.length ≤ 16 := by
  constructor
  · have := gs_nd_len (stk.map Prod.fst) sn h.2.2.1 (fun n hn => by
      obtain ⟨e, he, rfl⟩ := List.mem_map.mp hn
      exact ⟨(h.1 e he).1, (h.1 e he).2.2⟩)
    rw [List.length_map] at this
    exact Nat.le_trans this (gs_cn_le _ 16)
  · exact Nat.le_trans (gs_nd_len lv sn h.2.2.2.1 h.2.1) (gs_cn_le _ 16)
/-- what X's going through holds of the pure one -/
def gx_DS (S : List (Nat × Nat) × (Nat → Bool) × List Nat) (s : Int32 × Int32 × Int32 × (Nat → Int32) × (Nat → Int32) × (Nat → Int32)) : Prop :=
  s.1 = nI S.1.length ∧ gs_Mk s.2.1 (fun i => S.2.1 i = true) ∧ s.2.2.1 = nI S.2.2.length ∧ gs_st2 s.2.2.2.1 s.2.2.2.2.1 S.1 ∧ gs_st s.2.2.2.2.2 S.2.2
/-- the numbers as they shall be -/
def gx_NA (ek ex ey : Nat → Nat) (nodeAt : Nat → Int32) : Prop := ∀ k, k < (gs_lv ek ex ey).length → nodeAt k = nI (gs_at (gs_lv ek ex ey) k)
theorem gx_num_173 {post : SX → Prop} (hx : ∀ n, ex n < 16) (hy : ∀ n, ey n < 16) (hc : f_seenCount = nI (gs_lv ek ex ey).length) (hl : gs_st a_leaving (gs_lv ek ex ey))
    (h : ∀ nu na, gx_NU ek ex ey nu → gx_NA ek ex ey na → post (f_stale, f_seen, f_seenCount, f_isStraight, f_meetings, f_codeCount, f_taskCount, f_hasRun, f_inputLeft, f_toldCount, f_lastNode, f_hasStopped, a_actKind, a_actVariable, a_actOperand, a_endKind, a_endVariable, a_endX, a_endY, a_path, a_pathSide, a_leaving, nu, na, a_successors, a_predecessors, a_before, a_behind, a_loop, a_liveAt, a_knownAt, a_code, a_task, a_variable, a_latestTold)) : ∃ m, wX_numberNodes_173 post f_stale f_seen f_seenCount f_isStraight f_meetings f_codeCount f_taskCount f_hasRun f_inputLeft f_toldCount f_lastNode f_hasStopped m 0 a_actKind a_actVariable a_actOperand a_endKind a_endVariable a_endX a_endY a_path a_pathSide a_leaving a_numberOf a_nodeAt a_successors a_predecessors a_before a_behind a_loop a_liveAt a_knownAt a_code a_task a_variable a_latestTold := by
  have L := gs_lv_len (ek := ek) hx hy
  have nd := gs_lv_nd (ek := ek) hx hy
  refine pk_loop (fun m i (s : (Nat → Int32) × (Nat → Int32)) => wX_numberNodes_173 post f_stale f_seen f_seenCount f_isStraight f_meetings f_codeCount f_taskCount f_hasRun f_inputLeft f_toldCount f_lastNode f_hasStopped m (nI i) a_actKind a_actVariable a_actOperand a_endKind a_endVariable a_endX a_endY a_path a_pathSide a_leaving s.1 s.2 a_successors a_predecessors a_before a_behind a_loop a_liveAt a_knownAt a_code a_task a_variable a_latestTold) (fun i s => ∀ j, j < i → s.1 (gs_at (gs_lv ek ex ey) j) = nI j ∧ s.2 j = nI (gs_at (gs_lv ek ex ey) j)) (gs_lv ek ex ey).length 0 (a_numberOf, a_nodeAt) (by omega) (fun j hj => absurd hj (Nat.not_lt_zero j)) ?_ ?_
  · rintro m s hI
    refine br_t ?_ (h _ _ (fun n hn => ?_) (fun k hk => (hI k hk).2))
    · rw [hc]
      exact nI_le (Nat.le_refl _) (by omega)
    · have hm := (gs_sn_lv hx hy).mp hn
      have := (hI _ (gs_ix_lt _ n hm)).1
      rw [gs_at_ix _ n hm] at this
      exact this
  · rintro m i s hi hI ih
    have e : (f_seenCount - 1) - nI i = nI ((gs_lv ek ex ey).length - 1 - i) := by
      rw [hc, show (1 : Int32) = nI 1 from rfl, pk_sub (by omega), pk_sub (by omega)]
    have em : gs_at (gs_lv ek ex ey) i < 16 := gs_sn_lt hx hy ((gs_sn_lv hx hy).mpr (gs_at_mem _ i hi))
    refine br_f ?_ ⟨?_, nm_r (e' := nI (gs_at (gs_lv ek ex ey) i)) ?_ ⟨gx_in em, nm_r (e' := upd s.1 (gs_at (gs_lv ek ex ey) i) (nI i)) (by rw [gx_cl em]) ⟨gx_in (by omega), nm_r (e' := upd s.2 i (nI (gs_at (gs_lv ek ex ey) i))) (by rw [gx_cl (by omega)]) (nm_r (nI_1 i) (ih (_, _) (fun j hj => ?_)))⟩⟩⟩
    · rw [hc]
      exact nI_ge hi (by omega)
    · rw [e]
      exact gx_in (by omega)
    · rw [e, gx_cl (by omega)]
      exact gs_st_at _ i hl hi
    · by_cases q : j = i
      · subst q
        exact ⟨pk_us, pk_us⟩
      · have hj2 := hI j (by omega)
        refine ⟨(pk_un (fun z => q ?_)).trans hj2.1, (pk_un q).trans hj2.2⟩
        have a1 := gs_ix_at _ j nd (show j < (gs_lv ek ex ey).length by omega)
        have a2 := gs_ix_at _ i nd hi
        rw [← a1, ← a2, z]
theorem gx_numbers {post : SX → Prop} (GE : gx_GE ek ex ey a_endKind a_endX a_endY)
    (h : ∀ m pa si le nu na, gs_Mk m (fun i => gs_sn ek ex ey i = true) → gx_NU ek ex ey nu → gx_NA ek ex ey na → post (f_stale, m, nI (gs_lv ek ex ey).length, f_isStraight, f_meetings, f_codeCount, f_taskCount, f_hasRun, f_inputLeft, f_toldCount, f_lastNode, f_hasStopped, a_actKind, a_actVariable, a_actOperand, a_endKind, a_endVariable, a_endX, a_endY, pa, si, le, nu, na, a_successors, a_predecessors, a_before, a_behind, a_loop, a_liveAt, a_knownAt, a_code, a_task, a_variable, a_latestTold)) : wpX_numberNodes post (f_stale, f_seen, f_seenCount, f_isStraight, f_meetings, f_codeCount, f_taskCount, f_hasRun, f_inputLeft, f_toldCount, f_lastNode, f_hasStopped, a_actKind, a_actVariable, a_actOperand, a_endKind, a_endVariable, a_endX, a_endY, a_path, a_pathSide, a_leaving, a_numberOf, a_nodeAt, a_successors, a_predecessors, a_before, a_behind, a_loop, a_liveAt, a_knownAt, a_code, a_task, a_variable, a_latestTold) := by
  have hx := GE.2.1
  have hy := GE.2.2.1
  have K : ∀ (m : Nat) (s : Int32 × Int32 × Int32 × (Nat → Int32) × (Nat → Int32) × (Nat → Int32)), gx_DS (gs_F ek ex ey) s → ∃ n173 : Nat, wX_numberNodes_173 post f_stale s.2.1 s.2.2.1 f_isStraight f_meetings f_codeCount f_taskCount f_hasRun f_inputLeft f_toldCount f_lastNode f_hasStopped n173 0 a_actKind a_actVariable a_actOperand a_endKind a_endVariable a_endX a_endY s.2.2.2.1 s.2.2.2.2.1 s.2.2.2.2.2 a_numberOf a_nodeAt a_successors a_predecessors a_before a_behind a_loop a_liveAt a_knownAt a_code a_task a_variable a_latestTold := by
    intro m s hS
    refine gx_num_173 hx hy hS.2.2.1 hS.2.2.2.2 (fun nu na h1 h2 => ?_)
    rw [hS.2.2.1]
    exact h _ _ _ _ _ _ hS.2.1 h1 h2
  refine nm_e (nm_e ?_)
  refine pk_loop (fun m i (s : Int32 × Int32 × Int32 × (Nat → Int32) × (Nat → Int32) × (Nat → Int32)) => wX_numberNodes_28 post f_stale f_isStraight f_meetings f_codeCount f_taskCount f_hasRun f_inputLeft f_toldCount f_lastNode f_hasStopped m s.1 (nI i) s.2.1 s.2.2.1 a_actKind a_actVariable a_actOperand a_endKind a_endVariable a_endX a_endY s.2.2.2.1 s.2.2.2.2.1 s.2.2.2.2.2 a_numberOf a_nodeAt a_successors a_predecessors a_before a_behind a_loop a_liveAt a_knownAt a_code a_task a_variable a_latestTold) (fun i s => gx_DS (gs_it (gs_ds ek ex ey) i gs_d0) s) 48 0 (1, 1, 0, upd a_path 0 0, upd a_pathSide 0 0, a_leaving) (by omega) ?_ ?_ ?_
  · refine ⟨rfl, gs_Mk_iff gx_one (fun i _ => (decide_eq_true_iff (p := i = 0)).symm), rfl, ⟨rfl, rfl, trivial⟩, trivial⟩
  · rintro m s hI
    rw [← gs_F_eq] at hI
    exact br_t (by decide) (K m s hI)
  · rintro m i s hi hI ih
    have inv := gs_itinv (ek := ek) hx hy i
    have fin := gs_end (ek := ek) hx hy (i := i)
    have stp := gs_it_s (gs_ds ek ex ey) i gs_d0
    refine br_f (nI_ge (b := 48) hi (by decide)) ?_
    generalize gs_it (gs_ds ek ex ey) i gs_d0 = S at hI inv fin stp
    obtain ⟨stk, sn, lv⟩ := S
    obtain ⟨x1, fs, fc, pa, si, le⟩ := s
    obtain ⟨i1, i2, i3, i4, i5⟩ := hI
    dsimp only at i1 i2 i3 i4 i5 inv fin
    have len := gs_Inv_len inv
    cases stk with
    | nil =>
      refine br_t ?_ (K m (x1, fs, fc, pa, si, le) ?_)
      · dsimp only
        rw [i1]
        decide
      · rw [← fin rfl]
        exact ⟨i1, i2, i3, i4, i5⟩
    | cons e t =>
      obtain ⟨n, k⟩ := e
      simp only [List.length_cons] at len
      have tl : t.length < 16 := by omega
      have hn := (inv.1 (n, k) List.mem_cons_self)
      have hn16 : n < 16 := hn.1
      have hk2 : k ≤ 2 := hn.2.1
      have i1' : x1 = nI (t.length + 1) := i1
      have e1 : x1 - 1 = nI t.length := by rw [i1']; exact nI_pred _
      refine br_f ?_ ⟨?_, nm_r (e' := nI n) ?_ ⟨?_, nm_r (e' := nI k) ?_ ?_⟩⟩
      · dsimp only
        rw [i1']
        exact nI_nle (by omega) (by omega)
      · dsimp only
        rw [e1]
        exact gx_in tl
      · dsimp only
        rw [e1, gx_cl tl]
        exact i4.1
      · dsimp only
        rw [e1]
        exact gx_in tl
      · dsimp only
        rw [e1, gx_cl tl]
        exact i4.2.1
      · rcases gs_ds_cases (ek := ek) (ex := ex) (ey := ey) (n := n) sn hk2 with z | ⟨z, hs⟩ | ⟨z, s, hs, hns⟩
        · subst z
          have inv2 := gs_Inv_pop inv
          have len2 := (gs_Inv_len inv2).2
          simp only [List.length_cons] at len2
          rw [gs_ds_pop] at stp
          refine br_t rfl ⟨?_, nm_r (e' := upd le lv.length (nI n)) ?_ (nm_r (e' := nI (lv.length + 1)) ?_ (nm_r (e' := nI t.length) ?_ (nm_r (nI_1 i) (ih (nI t.length, fs, nI (lv.length + 1), pa, si, upd le lv.length (nI n)) ?_))))⟩
          · dsimp only
            rw [i3]
            exact gx_in (by omega)
          · dsimp only
            rw [i3, gx_cl (by omega)]
          · dsimp only
            rw [i3]
            exact nI_1 _
          · dsimp only
            rw [i1']
            exact pk_m1 _
          · rw [stp]
            exact ⟨rfl, i2, rfl, i4.2.2, gs_st_push i5⟩
        · rw [gs_ds_step z hs] at stp
          have fin2 : gx_DS (gs_it (gs_ds ek ex ey) (i + 1) gs_d0) (x1, fs, fc, pa, upd si t.length (nI (k + 1)), le) := by
            rw [stp]
            exact ⟨i1, i2, i3, ⟨i4.1, pk_us, gs_st2_b t (Nat.le_refl _) i4.2.2⟩, i5⟩
          refine br_f ?_ ⟨?_, nm_r (e' := upd si t.length (nI (k + 1))) ?_ (gx_succ GE hn16 z (fun s h16 q => ?_) (fun q => ?_))⟩
          · exact fun q => absurd ((nI_eq (b := 2) (by omega) (by decide)).mp q) (by omega)
          · dsimp only
            rw [e1]
            exact gx_in tl
          · dsimp only
            rw [e1, gx_cl tl, nI_1]
          · refine br_f (gx_ne1 h16) (gx_hm i2 h16 (fun _ => nm_r (nI_1 i) (ih _ fin2)) (fun w => absurd (hs s q) w))
          · exact br_t rfl (nm_r (nI_1 i) (ih _ fin2))
        · rw [gs_ds_push z hs hns] at stp
          have inv2 := gs_Inv_push hx hy inv z hs hns
          have len2 := (gs_Inv_len inv2).1
          simp only [List.length_cons] at len2
          have tl2 : t.length + 1 < 16 := by omega
          refine br_f ?_ ⟨?_, nm_r (e' := upd si t.length (nI (k + 1))) ?_ (gx_succ GE hn16 z (fun s' h16 q => ?_) (fun q => ?_))⟩
          · exact fun q => absurd ((nI_eq (b := 2) (by omega) (by decide)).mp q) (by omega)
          · dsimp only
            rw [e1]
            exact gx_in tl
          · dsimp only
            rw [e1, gx_cl tl, nI_1]
          · have ss : s = s' := Option.some.inj (hs.symm.trans q)
            subst ss
            refine br_f (gx_ne1 h16) (gx_hm i2 h16 (fun w => absurd w hns) (fun _ => ?_))
            refine br_f ?_ (nm_e ⟨?_, nm_r (e' := upd pa (t.length + 1) (nI s)) ?_ ⟨?_, nm_r (e' := upd (upd si t.length (nI (k + 1))) (t.length + 1) 0) ?_ (nm_r (e' := nI (t.length + 2)) ?_ (nm_r (nI_1 i) (ih (nI (t.length + 2), fs ||| ((1 : Int32) <<< (nI s &&& 31)), fc, upd pa (t.length + 1) (nI s), upd (upd si t.length (nI (k + 1))) (t.length + 1) 0, le) ?_)))⟩⟩)
            · dsimp only
              rw [i1']
              exact gx_16 tl2
            · dsimp only
              rw [i1']
              exact gx_in tl2
            · dsimp only
              rw [i1', gx_cl tl2]
            · dsimp only
              rw [i1']
              exact gx_in tl2
            · dsimp only
              rw [i1', gx_cl tl2]
            · dsimp only
              rw [i1']
              exact nI_1 _
            · rw [stp]
              refine ⟨rfl, gs_Mk_iff (gs_Mk_set i2 h16) (fun j _ => ?_), i3, ?_, i5⟩
              · rw [Bool.or_eq_true, decide_eq_true_iff]
              · have a1 := gs_st2_b (v := nI (k + 1)) t (Nat.le_refl _) i4.2.2
                have a2 : gs_st2 pa (upd si t.length (nI (k + 1))) ((n, k + 1) :: t) := ⟨i4.1, pk_us, a1⟩
                exact ⟨pk_us, pk_us, gs_st2_b _ (Nat.le_refl _) (gs_st2_a _ (Nat.le_refl _) a2)⟩
          · rw [hs] at q
            exact nomatch q
end
