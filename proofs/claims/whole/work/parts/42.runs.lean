/-! run and ran, both sides -/
theorem gs_upd_self {a : Nat → Int32} {k : Nat} {x : Int32} (h : a k = x) : upd a k x = a := by
  funext j
  by_cases e : j = k
  · rw [e, pk_us, h]
  · exact pk_un e
def gs_VB (a : Nat → Int32) : Prop := ∀ i, i < 4 → ∃ b, b < 16 ∧ a i = nI b
theorem gs_VB_upd {a : Nat → Int32} {k b : Nat} (h : gs_VB a) (hb : b < 16) : gs_VB (upd a k (nI b)) := by
  intro i hi
  by_cases e : i = k
  · rw [e]
    exact ⟨b, hb, pk_us⟩
  · rw [pk_un e]
    exact h i hi
def gs_zk (a : Nat → Int32) : Nat → Nat → Int32
  | 0 => a
  | i + 1 => upd (gs_zk a i) i 0
theorem gs_zk_VB (a : Nat → Int32) : gs_VB (gs_zk a 4) := by
  intro i hi
  refine ⟨0, by omega, ?_⟩
  have hc : i = 0 ∨ i = 1 ∨ i = 2 ∨ i = 3 := by omega
  rcases hc with rfl | rfl | rfl | rfl <;> rfl
theorem gs_in15 (x : Int64) : ∃ b, b < 16 ∧ (x &&& 15).toInt32 = nI b := by
  obtain ⟨m, hm, rfl⟩ : ∃ m, m < 2 ^ 64 ∧ x = lN m := ⟨x.toBitVec.toNat, x.toBitVec.isLt, Int64.toBitVec_inj.mp (by show _ = BitVec.ofNat 64 _; simp)⟩
  refine ⟨m % 16, by omega, ?_⟩
  have e : lN m &&& 15 = lN (m % 16) := by
    apply Int64.toBitVec_inj.mp
    apply BitVec.eq_of_toNat_eq
    show (BitVec.ofNat 64 m &&& 15#64).toNat = (BitVec.ofNat 64 (m % 16)).toNat
    rw [BitVec.toNat_and, BitVec.toNat_ofNat, BitVec.toNat_ofNat, BitVec.toNat_ofNat, show 15 % 2 ^ 64 = 2 ^ 4 - 1 from rfl, Nat.and_two_pow_sub_one_eq_mod]
    omega
  rw [e, lN_i]
abbrev gs_RS : Type := (Nat → Int32) × (Nat → Int32) × Nat × Int64 × Nat × Bool × Int32
section
variable (ak av ac ek ev ex ey : Nat → Nat)
/-- what the act at n makes: variables, told, how many, the input -/
def gs_ra (n : Nat) (va lt : Nat → Int32) (tc : Nat) (inp : Int64) : (Nat → Int32) × (Nat → Int32) × Nat × Int64 :=
  if ak n = 1 then (upd va (av n) (nI (ac n)), lt, tc, inp)
  else if ak n = 2 then (upd va (av n) (nI (((va (av n)).toNatClampNeg + ac n) % 16)), lt, tc, inp)
  else if ak n = 3 then (upd va (av n) (va (ac n)), lt, tc, inp)
  else if ak n = 4 then (va, upd lt (tc % 8) (va (av n)), tc + 1, inp)
  else if ak n = 5 then (upd va (av n) ((inp &&& 15).toInt32), lt, tc, (inp.toUInt64 >>> ((4 : Int32).toInt64.toUInt64 &&& Int64.toUInt64 63)).toInt64)
  else (va, lt, tc, inp)
def gs_rn (n : Nat) (va : Nat → Int32) : Nat := if ek n = 0 then n else if ek n = 1 then ex n else if va (ev n) = 0 then ex n else ey n
def gs_r1 (S : gs_RS) : gs_RS :=
  ((gs_ra ak av ac S.2.2.2.2.1 S.1 S.2.1 S.2.2.1 S.2.2.2.1).1, (gs_ra ak av ac S.2.2.2.2.1 S.1 S.2.1 S.2.2.1 S.2.2.2.1).2.1, (gs_ra ak av ac S.2.2.2.2.1 S.1 S.2.1 S.2.2.1 S.2.2.2.1).2.2.1, (gs_ra ak av ac S.2.2.2.2.1 S.1 S.2.1 S.2.2.1 S.2.2.2.1).2.2.2,
    gs_rn ek ev ex ey S.2.2.2.2.1 (gs_ra ak av ac S.2.2.2.2.1 S.1 S.2.1 S.2.2.1 S.2.2.2.1).1, decide (ek S.2.2.2.2.1 = 0), nI S.2.2.2.2.1)
def gs_r0 (va lt : Nat → Int32) (inp : Int64) : gs_RS := (gs_zk va 4, lt, 0, inp, 0, false, -1)
/-- the run made i steps and came to S -/
def gs_RA (va lt : Nat → Int32) (inp : Int64) (L i : Nat) (S : gs_RS) : Prop :=
  S = gs_it (gs_r1 ak av ac ek ev ex ey) i (gs_r0 va lt inp) ∧ i ≤ L ∧ (∀ j, j < i → (gs_it (gs_r1 ak av ac ek ev ex ey) j (gs_r0 va lt inp)).2.2.2.2.2.1 = false) ∧ (i = L ∨ S.2.2.2.2.2.1 = true)
def gs_RI (i : Nat) (S : gs_RS) : Prop := gs_VB S.1 ∧ S.2.2.1 ≤ i ∧ S.2.2.2.2.1 < 16
variable {ak av ac ek ev ex ey}
theorem gs_RA_uniq {va lt : Nat → Int32} {inp : Int64} {L i j : Nat} {S T : gs_RS} (h : gs_RA ak av ac ek ev ex ey va lt inp L i S) (h' : gs_RA ak av ac ek ev ex ey va lt inp L j T) : i = j ∧ S = T := by
  obtain ⟨a1, a2, a3, a4⟩ := h
  obtain ⟨b1, b2, b3, b4⟩ := h'
  have e : i = j := by
    rcases Nat.lt_trichotomy i j with z | z | z
    · rcases a4 with q | q
      · omega
      · have := b3 i z
        rw [← a1, q] at this
        exact nomatch this
    · exact z
    · rcases b4 with q | q
      · omega
      · have := a3 j z
        rw [← b1, q] at this
        exact nomatch this
  subst e
  exact ⟨rfl, a1.trans b1.symm⟩
theorem gs_RI_s (hav : ∀ n, av n < 4) (hac : ∀ n, ac n < 16) (hc3 : ∀ n, ak n = 3 → ac n < 4) (hx : ∀ n, ex n < 16) (hy : ∀ n, ey n < 16) {i : Nat} {S : gs_RS} (h : gs_RI i S) : gs_RI (i + 1) (gs_r1 ak av ac ek ev ex ey S) := by
  obtain ⟨va, lt, tc, inp, n, st, la⟩ := S
  obtain ⟨h1, h2, h3⟩ := h
  dsimp only at h1 h2 h3
  have a16 := hac n
  have key : gs_VB (gs_ra ak av ac n va lt tc inp).1 ∧ (gs_ra ak av ac n va lt tc inp).2.2.1 ≤ i + 1 := by
    unfold gs_ra
    split
    · exact ⟨gs_VB_upd h1 a16, by dsimp only; omega⟩
    · split
      · exact ⟨gs_VB_upd h1 (by omega), by dsimp only; omega⟩
      · split
        · rename_i c
          obtain ⟨b, hb, e⟩ := h1 (ac n) (hc3 n c)
          dsimp only
          rw [e]
          exact ⟨gs_VB_upd h1 hb, by omega⟩
        · split
          · exact ⟨h1, by dsimp only; omega⟩
          · split
            · obtain ⟨b, hb, e⟩ := gs_in15 inp
              dsimp only
              rw [e]
              exact ⟨gs_VB_upd h1 hb, by omega⟩
            · exact ⟨h1, by dsimp only; omega⟩
  refine ⟨key.1, key.2, ?_⟩
  show gs_rn ek ev ex ey n (gs_ra ak av ac n va lt tc inp).1 < 16
  unfold gs_rn
  split
  · exact h3
  · split
    · exact hx n
    · split
      · exact hx n
      · exact hy n
end
/-- what ran answers of what the runs leave -/
noncomputable def gs_ranA (R : Int32 × Int32 × Int32 × Int32 × (Nat → Int32) × (Nat → Int32)) (p : Int32) : Int32 :=
  if R.1 = 0 then -1 else if p = nI 0 then R.2.2.2.2.1 0 + 16 * R.2.2.2.2.1 1 + 256 * R.2.2.2.2.1 2 + 4096 * R.2.2.2.2.1 3
  else if p = nI 1 then R.2.1 else if p = nI 10 then R.2.2.1 else if p = nI 11 then (if R.2.2.2.1 = 0 then 0 else 1)
  else @ite Int32 (∃ j, j < 8 ∧ p = nI (2 + j)) (Classical.propDecidable _) (if (p - 2).toNatClampNeg < R.2.1.toNatClampNeg then R.2.2.2.2.2 ((R.2.1.toNatClampNeg - 1 - (p - 2).toNatClampNeg) % 8) else -1) (-1)
section
variable {f_stale f_seen f_seenCount f_isStraight f_meetings f_codeCount f_taskCount f_hasRun f_toldCount f_lastNode f_hasStopped : Int32} {f_inputLeft : Int64} {a_actKind a_actVariable a_actOperand a_endKind a_endVariable a_endX a_endY a_path a_pathSide a_leaving a_numberOf a_nodeAt a_successors a_predecessors a_before a_behind a_loop a_liveAt a_knownAt a_code a_task a_variable a_latestTold : Nat → Int32} {ek ex ey ak av ac ev : Nat → Nat}
theorem gx_runE : gx_run (f_stale, f_seen, f_seenCount, f_isStraight, f_meetings, f_codeCount, f_taskCount, f_hasRun, f_inputLeft, f_toldCount, f_lastNode, f_hasStopped, a_actKind, a_actVariable, a_actOperand, a_endKind, a_endVariable, a_endX, a_endY, a_path, a_pathSide, a_leaving, a_numberOf, a_nodeAt, a_successors, a_predecessors, a_before, a_behind, a_loop, a_liveAt, a_knownAt, a_code, a_task, a_variable, a_latestTold) = (f_hasRun, f_toldCount, f_lastNode, f_hasStopped, a_variable, a_latestTold) := rfl
theorem gx_madeV {post : Int32 → Prop} {n b : Nat} (GA : gx_GA ak av ac ev a_actKind a_actVariable a_actOperand a_endVariable) (hn : n < 16) (hb : b < 16) (hv : a_variable (av n) = nI b) (h0 : ak n = 0 → post (nI b)) (h1 : ak n = 1 → post (nI (ac n))) (h2 : ak n = 2 → post (nI ((b + ac n) % 16))) (h3 : ak n = 3 → post (a_variable (ac n))) (hne : ak n ≠ 4 ∧ ak n ≠ 5) : wpX_made__variable post (f_stale, f_seen, f_seenCount, f_isStraight, f_meetings, f_codeCount, f_taskCount, f_hasRun, f_inputLeft, f_toldCount, f_lastNode, f_hasStopped, a_actKind, a_actVariable, a_actOperand, a_endKind, a_endVariable, a_endX, a_endY, a_path, a_pathSide, a_leaving, a_numberOf, a_nodeAt, a_successors, a_predecessors, a_before, a_behind, a_loop, a_liveAt, a_knownAt, a_code, a_task, a_variable, a_latestTold) 0 (nI n) (nI (av n)) := by
  obtain ⟨g1, g2, g3, g4, g5, g6, g7, g8, g9⟩ := GA
  have av4 := g2 n
  have ac16 := g3 n
  have ak5 := g1 n
  unfold wpX_made__variable
  simp only [Int32.zero_add]
  refine ⟨vp_in_nI av4 (by decide), nm_r (e' := nI b) (by rw [nI_clamp (by omega)]; exact hv) ⟨gx_in hn, ?_⟩⟩
  simp only [gx_cl hn, g6, g7, g8]
  refine br_t trivial ⟨gx_in hn, nm_e ?_⟩
  have hc : ak n = 0 ∨ ak n = 1 ∨ ak n = 2 ∨ ak n = 3 := by omega
  rcases hc with c | c | c | c <;> rw [c]
  · exact br_t (by decide) (h0 c)
  · exact br_f (by decide) (br_f (by decide) (br_t rfl ⟨gx_in hn, h1 c⟩))
  · refine br_f (by decide) (br_f (by decide) (br_f (by decide) (br_t rfl (br_f (fun w => ?_) ⟨gx_in hn, by decide, ?_⟩))))
    · have := (nI_eq (b := 16) (by omega) (by decide)).mp w
      omega
    · rw [nI_add, show (16 : Int32) = nI 16 from rfl, pk_rem (by omega) (by decide) (by decide)]
      exact h2 c
  · have c4 := g4 n c
    refine br_f (by decide) (br_f (by decide) (br_f (by decide) (br_f (by decide) (br_t rfl ⟨gx_in hn, vp_in_nI c4 (by decide), ?_⟩))))
    rw [nI_clamp (by omega)]
    exact h3 c
theorem gx_doAct {post : SX → Prop} {n tc : Nat} (GA : gx_GA ak av ac ev a_actKind a_actVariable a_actOperand a_endVariable) (hn : n < 16) (hV : gs_VB a_variable) (ht : tc ≤ 1000)
    (h : post (f_stale, f_seen, f_seenCount, f_isStraight, f_meetings, f_codeCount, f_taskCount, f_hasRun, (gs_ra ak av ac n a_variable a_latestTold tc f_inputLeft).2.2.2, nI (gs_ra ak av ac n a_variable a_latestTold tc f_inputLeft).2.2.1, f_lastNode, f_hasStopped, a_actKind, a_actVariable, a_actOperand, a_endKind, a_endVariable, a_endX, a_endY, a_path, a_pathSide, a_leaving, a_numberOf, a_nodeAt, a_successors, a_predecessors, a_before, a_behind, a_loop, a_liveAt, a_knownAt, a_code, a_task, (gs_ra ak av ac n a_variable a_latestTold tc f_inputLeft).1, (gs_ra ak av ac n a_variable a_latestTold tc f_inputLeft).2.1)) : wpX_doAct post (f_stale, f_seen, f_seenCount, f_isStraight, f_meetings, f_codeCount, f_taskCount, f_hasRun, f_inputLeft, nI tc, f_lastNode, f_hasStopped, a_actKind, a_actVariable, a_actOperand, a_endKind, a_endVariable, a_endX, a_endY, a_path, a_pathSide, a_leaving, a_numberOf, a_nodeAt, a_successors, a_predecessors, a_before, a_behind, a_loop, a_liveAt, a_knownAt, a_code, a_task, a_variable, a_latestTold) (nI n) := by
  have GA' := GA
  obtain ⟨g1, g2, g3, g4, g5, g6, g7, g8, g9⟩ := GA
  have av4 := g2 n
  have ak5 := g1 n
  obtain ⟨b, hb, hvb⟩ := hV (av n) av4
  have cb : (a_variable (av n)).toNatClampNeg = b := by rw [hvb]; exact nI_clamp (by omega)
  refine ⟨gx_in hn, nm_r (e' := nI (av n)) (by rw [gx_cl hn, g7]) ⟨gx_in hn, ?_⟩⟩
  rw [gx_cl hn, g6]
  unfold gs_ra at h
  refine pk_eq (ak n) 4 (fun c => ?_) (fun c4 => ⟨gx_in hn, pk_eq (ak n) 5 (fun c => ?_) (fun c5 => ?_)⟩)
  · rw [if_neg (by omega), if_neg (by omega), if_neg (by omega), if_pos c] at h
    have e : nI tc - nI tc / 8 * 8 = nI (tc % 8) := by
      rw [show (8 : Int32) = nI 8 from rfl, pk_rem (by omega) (by decide) (by decide)]
    rw [e]
    refine ⟨by decide, vp_in_nI av4 (by decide), vp_in_nI (by omega) (by decide), nm_r (e' := upd a_latestTold (tc % 8) (a_variable (av n))) (by rw [nI_clamp (by omega), nI_clamp (by omega)]) (nm_r (nI_1 _) h)⟩
  · rw [if_neg (by omega), if_neg (by omega), if_neg (by omega), if_neg (by omega), if_pos c] at h
    exact ⟨vp_in_nI av4 (by decide), nm_r (e' := upd a_variable (av n) ((f_inputLeft &&& 15).toInt32)) (by rw [nI_clamp (by omega)]) (nm_e h)⟩
  · have put : ∀ x, post (f_stale, f_seen, f_seenCount, f_isStraight, f_meetings, f_codeCount, f_taskCount, f_hasRun, f_inputLeft, nI tc, f_lastNode, f_hasStopped, a_actKind, a_actVariable, a_actOperand, a_endKind, a_endVariable, a_endX, a_endY, a_path, a_pathSide, a_leaving, a_numberOf, a_nodeAt, a_successors, a_predecessors, a_before, a_behind, a_loop, a_liveAt, a_knownAt, a_code, a_task, upd a_variable (av n) x, a_latestTold) → vp_in (nI (av n)) 4 ∧ ∀ y, y = upd a_variable (nI (av n)).toNatClampNeg x → post (f_stale, f_seen, f_seenCount, f_isStraight, f_meetings, f_codeCount, f_taskCount, f_hasRun, f_inputLeft, nI tc, f_lastNode, f_hasStopped, a_actKind, a_actVariable, a_actOperand, a_endKind, a_endVariable, a_endX, a_endY, a_path, a_pathSide, a_leaving, a_numberOf, a_nodeAt, a_successors, a_predecessors, a_before, a_behind, a_loop, a_liveAt, a_knownAt, a_code, a_task, y, a_latestTold) := fun x q => ⟨vp_in_nI av4 (by decide), fun y hy => by rw [hy, nI_clamp (by omega)]; exact q⟩
    refine gx_madeV (b := b) GA' hn hb hvb (fun c => ?_) (fun c => ?_) (fun c => ?_) (fun c => ?_) ⟨c4, c5⟩
    · rw [if_neg (by omega), if_neg (by omega), if_neg (by omega), if_neg (by omega), if_neg (by omega)] at h
      refine put _ ?_
      rw [gs_upd_self hvb]
      exact h
    · rw [if_pos c] at h
      exact put _ h
    · rw [if_neg (by omega), if_pos c, cb] at h
      exact put _ h
    · rw [if_neg (by omega), if_neg (by omega), if_pos c] at h
      exact put _ h
theorem gx_nextInRun {post : Int32 → Prop} {n : Nat} (GE : gx_GE ek ex ey a_endKind a_endX a_endY) (hev : ∀ n, a_endVariable n = nI (ev n)) (hv4 : ∀ n, ev n < 4) (hn : n < 16) (h : post (if decide (ek n = 0) = true then -1 else nI (gs_rn ek ev ex ey n a_variable))) : wpX_nextInRun post (f_stale, f_seen, f_seenCount, f_isStraight, f_meetings, f_codeCount, f_taskCount, f_hasRun, f_inputLeft, f_toldCount, f_lastNode, f_hasStopped, a_actKind, a_actVariable, a_actOperand, a_endKind, a_endVariable, a_endX, a_endY, a_path, a_pathSide, a_leaving, a_numberOf, a_nodeAt, a_successors, a_predecessors, a_before, a_behind, a_loop, a_liveAt, a_knownAt, a_code, a_task, a_variable, a_latestTold) (nI n) := by
  have GE' := GE
  obtain ⟨g1, g2, g3, g4, g5, g6⟩ := GE
  have k2 := g1 n
  have v4 := hv4 n
  have fin : ∀ k, k < 2 → (ek n = 2 → (k = 0 ↔ a_variable (ev n) = 0)) → (ek n = 1 → k = 0) → wpX_successor post (f_stale, f_seen, f_seenCount, f_isStraight, f_meetings, f_codeCount, f_taskCount, f_hasRun, f_inputLeft, f_toldCount, f_lastNode, f_hasStopped, a_actKind, a_actVariable, a_actOperand, a_endKind, a_endVariable, a_endX, a_endY, a_path, a_pathSide, a_leaving, a_numberOf, a_nodeAt, a_successors, a_predecessors, a_before, a_behind, a_loop, a_liveAt, a_knownAt, a_code, a_task, a_variable, a_latestTold) (nI n) (nI k) := by
    intro k hk q2 q1
    refine gx_succ GE' hn hk (fun s s16 hs => ?_) (fun hs => ?_)
    · unfold gs_sc at hs
      unfold gs_rn at h
      by_cases e2 : ek n = 2
      · rw [if_pos e2] at hs
        rw [if_neg (fun z => by have := decide_eq_true_iff.mp z; omega), if_neg (by omega), if_neg (by omega)] at h
        by_cases k0 : k = 0
        · rw [if_pos k0] at hs
          rw [if_pos ((q2 e2).mp k0), Option.some.inj hs] at h
          exact h
        · rw [if_neg k0] at hs
          rw [if_neg (fun z => k0 ((q2 e2).mpr z)), Option.some.inj hs] at h
          exact h
      · rw [if_neg e2] at hs
        by_cases e1 : ek n = 1 ∧ k = 0
        · rw [if_pos e1] at hs
          rw [if_neg (fun z => by have := decide_eq_true_iff.mp z; omega), if_neg (by omega), if_pos e1.1, Option.some.inj hs] at h
          exact h
        · rw [if_neg e1] at hs
          exact nomatch hs
    · unfold gs_sc at hs
      by_cases e2 : ek n = 2
      · rw [if_pos e2] at hs
        split at hs <;> exact nomatch hs
      · rw [if_neg e2] at hs
        by_cases e1 : ek n = 1
        · rw [if_pos ⟨e1, q1 e1⟩] at hs
          exact nomatch hs
        · rw [if_pos (decide_eq_true (by omega))] at h
          exact h
  refine ⟨gx_in hn, ?_⟩
  rw [gx_cl hn, g4, hev]
  refine pk_eq (ek n) 2 (fun z => ⟨gx_in hn, vp_in_nI v4 (by decide), ?_⟩) (fun z => br_t rfl (fin 0 (by omega) (fun q => absurd q z) (fun _ => rfl)))
  rw [nI_clamp (by omega)]
  refine br_c (fun y => br_t rfl (fin 0 (by omega) (fun _ => ⟨fun _ => y, fun _ => rfl⟩) (fun _ => rfl))) (fun y => br_f (by decide) (fin 1 (by omega) (fun _ => ⟨fun q => by omega, fun q => absurd q y⟩) (fun q => by omega)))
theorem gs_it_inv2 {α : Type} (f : α → α) (I : Nat → α → Prop) (h : ∀ i x, I i x → I (i + 1) (f x)) (x : α) (h0 : I 0 x) : ∀ i, I i (gs_it f i x)
  | 0 => h0
  | i + 1 => by
    rw [gs_it_s]
    exact h i _ (gs_it_inv2 f I h x h0 i)
theorem gx_run62 {post : Int32 → SX → Prop} {i : Nat} {S : gs_RS} (h : ∀ u, gx_RX ak av ac ek ev ex ey u → gx_run u = (1, nI S.2.2.1, S.2.2.2.2.2.2, (if S.2.2.2.2.2.1 = true then 1 else 0), S.1, S.2.1) → post (nI i) u) (R : gx_RX ak av ac ek ev ex ey (f_stale, f_seen, f_seenCount, f_isStraight, f_meetings, f_codeCount, f_taskCount, f_hasRun, f_inputLeft, f_toldCount, f_lastNode, f_hasStopped, a_actKind, a_actVariable, a_actOperand, a_endKind, a_endVariable, a_endX, a_endY, a_path, a_pathSide, a_leaving, a_numberOf, a_nodeAt, a_successors, a_predecessors, a_before, a_behind, a_loop, a_liveAt, a_knownAt, a_code, a_task, a_variable, a_latestTold)) (hn : S.2.2.2.2.1 < 16) : wX_run_62 post (nI i) (if S.2.2.2.2.2.1 = true then -1 else nI S.2.2.2.2.1) f_stale f_seen f_seenCount f_isStraight f_meetings f_codeCount f_taskCount 1 S.2.2.2.1 (nI S.2.2.1) S.2.2.2.2.2.2 f_hasStopped a_actKind a_actVariable a_actOperand a_endKind a_endVariable a_endX a_endY a_path a_pathSide a_leaving a_numberOf a_nodeAt a_successors a_predecessors a_before a_behind a_loop a_liveAt a_knownAt a_code a_task S.1 S.2.1 := by
  obtain ⟨GE, GA, V⟩ := R
  cases hs : S.2.2.2.2.2.1 with
  | true =>
    rw [hs] at h
    exact br_t rfl (h _ ⟨GE, GA, V⟩ rfl)
  | false =>
    rw [hs] at h
    exact br_f (gx_ne1 hn) (h _ ⟨GE, GA, V⟩ rfl)
theorem gx_m_run {post : Int32 → SX → Prop} {p0 : Int64} {p1 : Int32} (R : gx_RX ak av ac ek ev ex ey (f_stale, f_seen, f_seenCount, f_isStraight, f_meetings, f_codeCount, f_taskCount, f_hasRun, f_inputLeft, f_toldCount, f_lastNode, f_hasStopped, a_actKind, a_actVariable, a_actOperand, a_endKind, a_endVariable, a_endX, a_endY, a_path, a_pathSide, a_leaving, a_numberOf, a_nodeAt, a_successors, a_predecessors, a_before, a_behind, a_loop, a_liveAt, a_knownAt, a_code, a_task, a_variable, a_latestTold)) (hno : (∀ L, L ≤ 1000 → p1 ≠ nI L) → post (-1) (f_stale, f_seen, f_seenCount, f_isStraight, f_meetings, f_codeCount, f_taskCount, f_hasRun, f_inputLeft, f_toldCount, f_lastNode, f_hasStopped, a_actKind, a_actVariable, a_actOperand, a_endKind, a_endVariable, a_endX, a_endY, a_path, a_pathSide, a_leaving, a_numberOf, a_nodeAt, a_successors, a_predecessors, a_before, a_behind, a_loop, a_liveAt, a_knownAt, a_code, a_task, a_variable, a_latestTold))
    (hok : ∀ L i S u, L ≤ 1000 → p1 = nI L → gs_RA ak av ac ek ev ex ey a_variable a_latestTold p0 L i S → gx_RX ak av ac ek ev ex ey u → gx_run u = (1, nI S.2.2.1, S.2.2.2.2.2.2, (if S.2.2.2.2.2.1 = true then 1 else 0), S.1, S.2.1) → post (nI i) u) : wpX_run post (f_stale, f_seen, f_seenCount, f_isStraight, f_meetings, f_codeCount, f_taskCount, f_hasRun, f_inputLeft, f_toldCount, f_lastNode, f_hasStopped, a_actKind, a_actVariable, a_actOperand, a_endKind, a_endVariable, a_endX, a_endY, a_path, a_pathSide, a_leaving, a_numberOf, a_nodeAt, a_successors, a_predecessors, a_before, a_behind, a_loop, a_liveAt, a_knownAt, a_code, a_task, a_variable, a_latestTold) p0 p1 := by
  have R0 := R
  obtain ⟨GE, GA, V⟩ := R
  refine br_c (fun z => hno (fun L hL e => ?_)) (fun z => ?_)
  · subst e
    exact nI_pos (by omega) z
  · obtain ⟨L, hL, rfl⟩ := nI_of z
    refine pk_le L 1000 (fun w => ?_) (fun w => hno (fun M hM e => ?_))
    · have hok := hok L
      refine pk_loop (fun m i (s : Nat → Int32) => wX_startRun_12 _ f_stale f_seen f_seenCount f_isStraight f_meetings f_codeCount f_taskCount 1 p0 f_toldCount f_lastNode f_hasStopped m (nI i) a_actKind a_actVariable a_actOperand a_endKind a_endVariable a_endX a_endY a_path a_pathSide a_leaving a_numberOf a_nodeAt a_successors a_predecessors a_before a_behind a_loop a_liveAt a_knownAt a_code a_task s a_latestTold) (fun i s => s = gs_zk a_variable i) 4 0 a_variable (by omega) rfl ?_ ?_
      · rintro m s rfl
        refine br_t (by decide) ?_
        have inv := gs_it_inv2 (gs_r1 ak av ac ek ev ex ey) gs_RI (fun i S h => gs_RI_s GA.2.1 GA.2.2.1 GA.2.2.2.1 GE.2.1 GE.2.2.1 h) (gs_r0 a_variable a_latestTold p0) ⟨gs_zk_VB _, Nat.le_refl 0, by show 0 < 16; omega⟩
        refine pk_loop (fun m i (S : gs_RS) => wX_run_24 post (nI L) m (nI i) (if S.2.2.2.2.2.1 = true then -1 else nI S.2.2.2.2.1) f_stale f_seen f_seenCount f_isStraight f_meetings f_codeCount f_taskCount 1 S.2.2.2.1 (nI S.2.2.1) S.2.2.2.2.2.2 f_hasStopped a_actKind a_actVariable a_actOperand a_endKind a_endVariable a_endX a_endY a_path a_pathSide a_leaving a_numberOf a_nodeAt a_successors a_predecessors a_before a_behind a_loop a_liveAt a_knownAt a_code a_task S.1 S.2.1) (fun i S => S = gs_it (gs_r1 ak av ac ek ev ex ey) i (gs_r0 a_variable a_latestTold p0) ∧ ∀ j, j < i → (gs_it (gs_r1 ak av ac ek ev ex ey) j (gs_r0 a_variable a_latestTold p0)).2.2.2.2.2.1 = false) L 0 (gs_r0 a_variable a_latestTold p0) (by omega) ⟨rfl, fun j hj => absurd hj (Nat.not_lt_zero j)⟩ ?_ ?_
        · rintro m S ⟨q1, q2⟩
          refine br_t (nI_le (Nat.le_refl _) (by omega)) ?_
          have ra : gs_RA ak av ac ek ev ex ey a_variable a_latestTold p0 L L S := ⟨q1, Nat.le_refl _, q2, Or.inl rfl⟩
          exact gx_run62 (fun u hu => hok L S u w rfl ra hu) R0 (by have := inv L; rw [← q1] at this; exact this.2.2)
        · rintro m i S hi ⟨q1, q2⟩ ih
          have iv := inv i
          have st := gs_it_s (gs_r1 ak av ac ek ev ex ey) i (gs_r0 a_variable a_latestTold p0)
          rw [← q1] at iv st
          refine br_f (nI_ge hi (by omega)) ?_
          cases hs : S.2.2.2.2.2.1 with
          | true =>
            have ra : gs_RA ak av ac ek ev ex ey a_variable a_latestTold p0 L i S := ⟨q1, by omega, q2, Or.inr hs⟩
            refine br_t rfl ?_
            have g := gx_run62 (post := post) (S := S) (i := i) (fun u hu => hok i S u w rfl ra hu) R0 iv.2.2
            rw [hs] at g
            exact g
          | false =>
            have tc : S.2.2.1 ≤ 1000 := by have := iv.2.1; omega
            refine br_f (gx_ne1 iv.2.2) (gx_doAct GA iv.2.2 iv.1 tc (gx_nextInRun GE GA.2.2.2.2.2.2.2.2 GA.2.2.2.2.1 iv.2.2 (nm_r (nI_1 i) ?_)))
            refine ih (gs_r1 ak av ac ek ev ex ey S) ⟨st.symm, fun j hj => ?_⟩
            by_cases e : j = i
            · subst e
              rw [← q1]
              exact hs
            · exact q2 j (by omega)
      · rintro m i s hi rfl ih
        exact br_f (nI_ge (b := 4) hi (by decide)) ⟨vp_in_nI hi (by decide), nm_r (e' := upd (gs_zk a_variable i) i 0) (by rw [nI_clamp (by omega)]) (nm_r (nI_1 i) (ih _ rfl))⟩
    · have := (nI_eq hL (by omega)).mp e
      omega
theorem gx_m_ran {post : Int32 → Prop} {p : Int32} (h : post (gs_ranA (gx_run (f_stale, f_seen, f_seenCount, f_isStraight, f_meetings, f_codeCount, f_taskCount, f_hasRun, f_inputLeft, f_toldCount, f_lastNode, f_hasStopped, a_actKind, a_actVariable, a_actOperand, a_endKind, a_endVariable, a_endX, a_endY, a_path, a_pathSide, a_leaving, a_numberOf, a_nodeAt, a_successors, a_predecessors, a_before, a_behind, a_loop, a_liveAt, a_knownAt, a_code, a_task, a_variable, a_latestTold)) p)) (hc : ∃ c, c ≤ 1000 ∧ f_toldCount = nI c) : wpX_ran post (f_stale, f_seen, f_seenCount, f_isStraight, f_meetings, f_codeCount, f_taskCount, f_hasRun, f_inputLeft, f_toldCount, f_lastNode, f_hasStopped, a_actKind, a_actVariable, a_actOperand, a_endKind, a_endVariable, a_endX, a_endY, a_path, a_pathSide, a_leaving, a_numberOf, a_nodeAt, a_successors, a_predecessors, a_before, a_behind, a_loop, a_liveAt, a_knownAt, a_code, a_task, a_variable, a_latestTold) p := by
  obtain ⟨c, hc, rfl⟩ := hc
  rw [gx_runE] at h
  unfold gs_ranA at h
  dsimp only at h
  have s28 : p ≠ nI 2 ∧ p ≠ nI 3 ∧ p ≠ nI 4 ∧ p ≠ nI 5 ∧ p ≠ nI 6 ∧ p ≠ nI 7 ∧ p ≠ nI 8 ∧ p ≠ nI 9 → ¬ f_hasRun = 0 → wX_ran_28 post p f_stale f_seen f_seenCount f_isStraight f_meetings f_codeCount f_taskCount f_hasRun f_inputLeft (nI c) f_lastNode f_hasStopped a_actKind a_actVariable a_actOperand a_endKind a_endVariable a_endX a_endY a_path a_pathSide a_leaving a_numberOf a_nodeAt a_successors a_predecessors a_before a_behind a_loop a_liveAt a_knownAt a_code a_task a_variable a_latestTold := by
    intro hp z
    rw [if_neg z] at h
    refine br_c (fun (y : p = nI 0) => ?_) (fun (y0 : ¬ p = nI 0) => br_c (fun (y : p = nI 1) => ?_) (fun (y1 : ¬ p = nI 1) => br_c (fun (y : p = nI 10) => ?_) (fun (y10 : ¬ p = nI 10) => br_c (fun (y : p = nI 11) => ?_) (fun (y11 : ¬ p = nI 11) => ?_))))
    · rw [if_pos y] at h
      exact h
    · rw [if_neg y0, if_pos y] at h
      exact h
    · rw [if_neg y0, if_neg y1, if_pos y] at h
      exact h
    · rw [if_neg y0, if_neg y1, if_neg y10, if_pos y] at h
      exact br_c (fun q => by rw [if_pos q] at h; exact h) (fun q => by rw [if_neg q] at h; exact h)
    · rw [if_neg y0, if_neg y1, if_neg y10, if_neg y11, if_neg] at h
      · exact h
      · rintro ⟨j, hj, e⟩
        have : j = 0 ∨ j = 1 ∨ j = 2 ∨ j = 3 ∨ j = 4 ∨ j = 5 ∨ j = 6 ∨ j = 7 := by omega
        rcases this with rfl | rfl | rfl | rfl | rfl | rfl | rfl | rfl
        · exact hp.1 e
        · exact hp.2.1 e
        · exact hp.2.2.1 e
        · exact hp.2.2.2.1 e
        · exact hp.2.2.2.2.1 e
        · exact hp.2.2.2.2.2.1 e
        · exact hp.2.2.2.2.2.2.1 e
        · exact hp.2.2.2.2.2.2.2 e
  refine br_c (fun z => by rw [if_pos z] at h; exact h) (fun z => ?_)
  refine br_c (fun y => s28 ?_ z) (fun y => br_c (fun w => s28 ?_ z) (fun w => ?_))
  · refine ⟨?_, ?_, ?_, ?_, ?_, ?_, ?_, ?_⟩ <;> (intro e; rw [e] at y; exact absurd y (by decide))
  · refine ⟨?_, ?_, ?_, ?_, ?_, ?_, ?_, ?_⟩ <;> (intro e; rw [e] at w; exact absurd w (by decide))
  · obtain ⟨j, hj, rfl⟩ := nI_of (x := p) (fun q => y (Int32.lt_trans q (by decide)))
    have j2 : 2 ≤ j := by
      apply Classical.byContradiction
      intro q
      exact y (nI_lt (b := 2) (by omega) (by decide))
    have j10 : j < 10 := by
      apply Classical.byContradiction
      intro q
      exact w (nI_le (a := 10) (by omega) hj)
    have ne : ∀ k, k < 20 → k ≠ j → ¬ nI j = nI k := fun k hk hne q => hne ((nI_eq hj (by omega)).mp q).symm
    rw [if_neg z, if_neg (ne 0 (by omega) (by omega)), if_neg (ne 1 (by omega) (by omega)), if_neg (ne 10 (by omega) (by omega)), if_neg (ne 11 (by omega) (by omega)), if_pos ⟨j - 2, by omega, by rw [show 2 + (j - 2) = j by omega]⟩] at h
    have e2 : nI j - 2 = nI (j - 2) := pk_sub (b := 2) j2
    rw [e2] at h
    rw [e2]
    have ec : (nI c).toNatClampNeg = c := nI_clamp (by omega)
    have ej : (nI (j - 2)).toNatClampNeg = j - 2 := nI_clamp (by omega)
    rw [ec, ej] at h
    refine pk_le c (j - 2) (fun q => ?_) (fun q => ?_)
    · rw [if_neg (by omega)] at h
      exact h
    · rw [if_pos q] at h
      have e : ((nI c - 1) - nI (j - 2)) - ((nI c - 1) - nI (j - 2)) / 8 * 8 = nI ((c - 1 - (j - 2)) % 8) := by
        rw [show (1 : Int32) = nI 1 from rfl, pk_sub (by omega), pk_sub (by omega), show (8 : Int32) = nI 8 from rfl, pk_rem (by omega) (by decide) (by decide)]
      rw [e]
      refine ⟨by decide, vp_in_nI (by omega) (by decide), ?_⟩
      rw [nI_clamp (by omega)]
      exact h
end
section
variable {f_fresh f_many f_tells f_last f_runs f_stopped : Int32} {a_actKind a_actV a_actC a_endKind a_endV a_endX a_endY a_number a_before a_behind a_reached a_todo a_words a_coming a_values a_told a_variables : Nat → Int32} {ek ex ey ak av ac ev : Nat → Nat}
theorem gy_m_ran {post : Int32 → Prop} {p : Int32} (h : post (gs_ranA (gy_run (f_fresh, f_many, f_tells, f_last, f_runs, f_stopped, a_actKind, a_actV, a_actC, a_endKind, a_endV, a_endX, a_endY, a_number, a_before, a_behind, a_reached, a_todo, a_words, a_coming, a_values, a_told, a_variables)) p)) (hc : ∃ c, c ≤ 1000 ∧ f_tells = nI c) : wpY_ran post (f_fresh, f_many, f_tells, f_last, f_runs, f_stopped, a_actKind, a_actV, a_actC, a_endKind, a_endV, a_endX, a_endY, a_number, a_before, a_behind, a_reached, a_todo, a_words, a_coming, a_values, a_told, a_variables) p := by
  obtain ⟨c, hc, rfl⟩ := hc
  rw [gy_runE] at h
  unfold gs_ranA at h
  dsimp only at h
  refine br_c (fun z => by rw [if_pos z] at h; exact h) (fun z => ?_)
  rw [if_neg z] at h
  refine gy_in (m := 11) rfl (by decide) (fun j hj e => ?_) (fun q => ?_)
  · subst e
    refine pk_eq j 0 (fun y => ?_) (fun y0 => pk_eq j 1 (fun y => ?_) (fun y1 => pk_eq j 10 (fun y => ?_) (fun y10 => pk_eq j 11 (fun y => ?_) (fun y11 => ?_))))
    · rw [if_pos (by rw [y])] at h
      exact h
    · rw [if_neg (by rw [y]; decide), if_pos (by rw [y])] at h
      exact h
    · rw [if_neg (by rw [y]; decide), if_neg (by rw [y]; decide), if_pos (by rw [y])] at h
      exact h
    · rw [if_neg (by rw [y]; decide), if_neg (by rw [y]; decide), if_neg (by rw [y]; decide), if_pos (by rw [y])] at h
      exact br_c (fun q => by rw [if_pos q] at h; exact h) (fun q => by rw [if_neg q] at h; exact h)
    · have ne : ∀ k, k < 20 → k ≠ j → ¬ nI j = nI k := fun k hk hne q => hne ((nI_eq (by omega) (by omega)).mp q).symm
      rw [if_neg (ne 0 (by omega) (by omega)), if_neg (ne 1 (by omega) (by omega)), if_neg (ne 10 (by omega) (by omega)), if_neg (ne 11 (by omega) (by omega)), if_pos ⟨j - 2, by omega, by rw [show 2 + (j - 2) = j by omega]⟩] at h
      have e2 : nI j - 2 = nI (j - 2) := pk_sub (b := 2) (by omega)
      rw [e2] at h
      rw [e2]
      have ec : (nI c).toNatClampNeg = c := nI_clamp (by omega)
      have ej : (nI (j - 2)).toNatClampNeg = j - 2 := nI_clamp (by omega)
      rw [ec, ej] at h
      refine pk_lt (j - 2) c (fun q => ?_) (fun q => ?_)
      · rw [if_pos q] at h
        have e : ((nI c - 1) - nI (j - 2)) - ((nI c - 1) - nI (j - 2)) / 8 * 8 = nI ((c - 1 - (j - 2)) % 8) := by
          rw [show (1 : Int32) = nI 1 from rfl, pk_sub (by omega), pk_sub (by omega), show (8 : Int32) = nI 8 from rfl, pk_rem (by omega) (by decide) (by decide)]
        rw [e]
        refine ⟨by decide, vp_in_nI (by omega) (by decide), ?_⟩
        rw [nI_clamp (by omega)]
        exact h
      · rw [if_neg (by omega)] at h
        exact h
  · have ne : ∀ k, k ≤ 11 → ¬ p = nI k := fun k hk => q k hk
    rw [if_neg (ne 0 (by omega)), if_neg (ne 1 (by omega)), if_neg (ne 10 (by omega)), if_neg (ne 11 (by omega)), if_neg] at h
    · exact h
    · rintro ⟨j, hj, e⟩
      exact ne (2 + j) (by omega) e
theorem gy_nextv {post : Int32 → SY → Prop} {J65 : Int64 → Int32 → Int32 → Int32 → Int32 → Int32 → (Nat → Int32) → (Nat → Int32) → (Nat → Int32) → (Nat → Int32) → (Nat → Int32) → (Nat → Int32) → (Nat → Int32) → (Nat → Int32) → (Nat → Int32) → (Nat → Int32) → (Nat → Int32) → (Nat → Int32) → (Nat → Int32) → (Nat → Int32) → (Nat → Int32) → (Nat → Int32) → (Nat → Int32) → Prop} {x3 x7 : Int32} {inp : Int64} {n : Nat} (GE : gy_GE ek ev ex ey a_endKind a_endV a_endX a_endY) (hn : n < 16) (h : J65 inp (nI (gs_rn ek ev ex ey n a_variables)) x7 f_tells f_last (if decide (ek n = 0) = true then 1 else 0) a_actKind a_actV a_actC a_endKind a_endV a_endX a_endY a_number a_before a_behind a_reached a_todo a_words a_coming a_values a_told a_variables) (h0 : f_stopped = 0) : wY_run_255 post J65 x3 inp (nI n) x7 f_fresh f_many f_tells f_last f_runs f_stopped a_actKind a_actV a_actC a_endKind a_endV a_endX a_endY a_number a_before a_behind a_reached a_todo a_words a_coming a_values a_told a_variables := by
  obtain ⟨g1, g2, g3, g4, g5, g6, g7, g8⟩ := GE
  have k2 := g1 n
  have v4 := g4 n
  subst h0
  refine ⟨gx_in hn, ?_⟩
  rw [gx_cl hn, g5]
  unfold gs_rn at h
  refine pk_eq (ek n) 0 (fun z => ?_) (fun z => ⟨gx_in hn, pk_eq (ek n) 1 (fun y => ⟨gx_in hn, nm_r (e' := nI (ex n)) (g6 n z) ?_⟩) (fun y => ⟨gx_in hn, ?_⟩)⟩)
  · rw [if_pos z, if_pos (decide_eq_true z)] at h
    exact h
  · rw [if_neg z, if_pos y, if_neg (fun q => z (decide_eq_true_iff.mp q))] at h
    exact h
  · have e2 : ek n = 2 := by omega
    rw [if_neg z, if_neg y, if_neg (fun q => z (decide_eq_true_iff.mp q))] at h
    rw [g8 n e2]
    refine ⟨vp_in_nI v4 (by decide), ?_⟩
    rw [nI_clamp (by omega)]
    refine br_c (fun w => ⟨gx_in hn, nm_r (e' := nI (ex n)) (g6 n z) ?_⟩) (fun w => ⟨gx_in hn, nm_r (e' := nI (ey n)) (g7 n e2) ?_⟩)
    · rw [if_pos w] at h
      exact h
    · rw [if_neg w] at h
      exact h
theorem gy_m_run {post : Int32 → SY → Prop} {p0 : Int64} {p1 : Int32} (R : gy_RY ak av ac ek ev ex ey (f_fresh, f_many, f_tells, f_last, f_runs, f_stopped, a_actKind, a_actV, a_actC, a_endKind, a_endV, a_endX, a_endY, a_number, a_before, a_behind, a_reached, a_todo, a_words, a_coming, a_values, a_told, a_variables)) (hno : (∀ L, L ≤ 1000 → p1 ≠ nI L) → post (-1) (f_fresh, f_many, f_tells, f_last, f_runs, f_stopped, a_actKind, a_actV, a_actC, a_endKind, a_endV, a_endX, a_endY, a_number, a_before, a_behind, a_reached, a_todo, a_words, a_coming, a_values, a_told, a_variables))
    (hok : ∀ L i S u, L ≤ 1000 → p1 = nI L → gs_RA ak av ac ek ev ex ey a_variables a_told p0 L i S → gy_RY ak av ac ek ev ex ey u → gy_run u = (1, nI S.2.2.1, S.2.2.2.2.2.2, (if S.2.2.2.2.2.1 = true then 1 else 0), S.1, S.2.1) → post (nI i) u) : wpY_run post (f_fresh, f_many, f_tells, f_last, f_runs, f_stopped, a_actKind, a_actV, a_actC, a_endKind, a_endV, a_endX, a_endY, a_number, a_before, a_behind, a_reached, a_todo, a_words, a_coming, a_values, a_told, a_variables) p0 p1 := by
  obtain ⟨GE, GA, V⟩ := R
  have GA' := GA
  obtain ⟨g1, g2, g3, g4, g5, g6, g7⟩ := GA
  refine gy_in (m := 1000) rfl (by decide) (fun L hL e => ?_) hno
  subst e
  have hok := hok L
  refine pk_loop (fun m i (s : Nat → Int32) => wY_run_25 post (nI L) p0 0 0 f_fresh f_many f_tells f_last f_runs f_stopped m (nI i) a_actKind a_actV a_actC a_endKind a_endV a_endX a_endY a_number a_before a_behind a_reached a_todo a_words a_coming a_values a_told s) (fun i s => s = gs_zk a_variables i) 4 0 a_variables (by omega) rfl ?_ ?_
  · rintro m s rfl
    refine br_t (by decide) ?_
    have inv := gs_it_inv2 (gs_r1 ak av ac ek ev ex ey) gs_RI (fun i S h => gs_RI_s g2 g3 g4 GE.2.1 GE.2.2.1 h) (gs_r0 a_variables a_told p0) ⟨gs_zk_VB _, Nat.le_refl 0, by show 0 < 16; omega⟩
    refine pk_loop (fun m i (S : gs_RS) => wY_run_65 post (nI L) f_fresh f_many 1 m S.2.2.2.1 (nI S.2.2.2.2.1) (nI i) (nI S.2.2.1) S.2.2.2.2.2.2 (if S.2.2.2.2.2.1 = true then 1 else 0) a_actKind a_actV a_actC a_endKind a_endV a_endX a_endY a_number a_before a_behind a_reached a_todo a_words a_coming a_values S.2.1 S.1) (fun i S => S = gs_it (gs_r1 ak av ac ek ev ex ey) i (gs_r0 a_variables a_told p0) ∧ ∀ j, j < i → (gs_it (gs_r1 ak av ac ek ev ex ey) j (gs_r0 a_variables a_told p0)).2.2.2.2.2.1 = false) L 0 (gs_r0 a_variables a_told p0) (by omega) ⟨rfl, fun j hj => absurd hj (Nat.not_lt_zero j)⟩ ?_ ?_
    · rintro m S ⟨q1, q2⟩
      have ra : gs_RA ak av ac ek ev ex ey a_variables a_told p0 L L S := ⟨q1, Nat.le_refl _, q2, Or.inl rfl⟩
      exact br_t (nI_le (Nat.le_refl _) (by omega)) (hok L S _ hL rfl ra ⟨GE, GA', V⟩ rfl)
    · rintro m i S hi ⟨q1, q2⟩ ih
      have iv := inv i
      have st := gs_it_s (gs_r1 ak av ac ek ev ex ey) i (gs_r0 a_variables a_told p0)
      rw [← q1] at iv st
      refine br_f (nI_ge hi (by omega)) ?_
      cases hs : S.2.2.2.2.2.1 with
      | true =>
        have ra : gs_RA ak av ac ek ev ex ey a_variables a_told p0 L i S := ⟨q1, by omega, q2, Or.inr hs⟩
        have fin := hok i S (f_fresh, f_many, nI S.2.2.1, S.2.2.2.2.2.2, 1, 1, a_actKind, a_actV, a_actC, a_endKind, a_endV, a_endX, a_endY, a_number, a_before, a_behind, a_reached, a_todo, a_words, a_coming, a_values, S.2.1, S.1) (by omega) rfl ra ⟨GE, GA', V⟩ (by rw [hs]; rfl)
        exact br_f (by decide) fin
      | false =>
        have tc : S.2.2.1 ≤ 1000 := by have := iv.2.1; omega
        obtain ⟨va, lt, tcn, inp, n, sp, la⟩ := S
        dsimp only at iv hs tc
        obtain ⟨iv1, iv2, iv3⟩ := iv
        dsimp only at iv1 iv2 iv3
        subst hs
        have av4 := g2 n
        have ak5 := g1 n
        have ac16 := g3 n
        obtain ⟨b, hb, hvb⟩ := iv1 (av n) av4
        have cb : (va (av n)).toNatClampNeg = b := by rw [hvb]; exact nI_clamp (by omega)
        have nxt : wY_run_65 post (nI L) f_fresh f_many 1 m (gs_ra ak av ac n va lt tcn inp).2.2.2 (nI (gs_rn ek ev ex ey n (gs_ra ak av ac n va lt tcn inp).1)) (nI (i + 1)) (nI (gs_ra ak av ac n va lt tcn inp).2.2.1) (nI n) (if decide (ek n = 0) = true then 1 else 0) a_actKind a_actV a_actC a_endKind a_endV a_endX a_endY a_number a_before a_behind a_reached a_todo a_words a_coming a_values ((gs_ra ak av ac n va lt tcn inp).2.1) ((gs_ra ak av ac n va lt tcn inp).1) := by
          refine ih (gs_r1 ak av ac ek ev ex ey (va, lt, tcn, inp, n, false, la)) ⟨st.symm, fun j hj => ?_⟩
          by_cases e : j = i
          · subst e
            rw [← q1]
          · exact q2 j (by omega)
        refine br_t rfl (nm_r (nI_1 i) ⟨gx_in iv3, nm_e ⟨gx_in iv3, nm_r (e' := nI (ak n)) (by rw [gx_cl iv3, g5]) ?_⟩⟩)
        unfold gs_ra at nxt
        rw [gx_cl iv3]
        have hc : ak n = 0 ∨ ak n = 1 ∨ ak n = 2 ∨ ak n = 3 ∨ ak n = 4 ∨ ak n = 5 := by omega
        rcases hc with c | c | c | c | c | c <;> rw [c] at nxt ⊢
        · exact br_t (by decide) (gy_nextv GE iv3 nxt rfl)
        · refine br_f (by decide) (br_f (by decide) (br_t rfl ⟨gx_in iv3, ?_⟩))
          rw [g6 n (by omega), g7 n (Or.inl c)]
          exact ⟨vp_in_nI av4 (by decide), nm_r (e' := upd va (av n) (nI (ac n))) (by rw [nI_clamp (by omega)]) (gy_nextv GE iv3 nxt rfl)⟩
        · refine br_f (by decide) (br_f (by decide) (br_f (by decide) (br_t rfl ?_)))
          rw [g6 n (by omega), g7 n (Or.inr (Or.inl c))]
          refine ⟨vp_in_nI av4 (by decide), gx_in iv3, vp_in_nI av4 (by decide), nm_r (e' := upd va (av n) (nI ((b + ac n) % 16))) (by dsimp only; rw [nI_clamp (by omega), hvb, nI_add, pk_andN (by omega) 4 (by decide)]) ?_⟩
          rw [cb] at nxt
          exact gy_nextv GE iv3 nxt rfl
        · have c4 := g4 n c
          refine br_f (by decide) (br_f (by decide) (br_f (by decide) (br_f (by decide) (br_t rfl ⟨gx_in iv3, ?_⟩))))
          rw [g6 n (by omega), g7 n (Or.inr (Or.inr c))]
          exact ⟨vp_in_nI c4 (by decide), vp_in_nI av4 (by decide), nm_r (e' := upd va (av n) (va (ac n))) (by dsimp only; rw [nI_clamp (by omega), nI_clamp (by omega)]) (gy_nextv GE iv3 nxt rfl)⟩
        · refine br_f (by decide) (br_f (by decide) (br_f (by decide) (br_f (by decide) (br_f (by decide) (br_t rfl ?_)))))
          rw [g6 n (by omega)]
          have e : nI tcn - nI tcn / 8 * 8 = nI (tcn % 8) := by
            rw [show (8 : Int32) = nI 8 from rfl, pk_rem (by omega) (by decide) (by decide)]
          dsimp only
          rw [e]
          exact nm_r (nI_1 _) ⟨by decide, vp_in_nI av4 (by decide), vp_in_nI (by omega) (by decide), nm_r (e' := upd lt (tcn % 8) (va (av n))) (by rw [nI_clamp (by omega), nI_clamp (by omega)]) (gy_nextv GE iv3 nxt rfl)⟩
        · refine br_f (by decide) (br_f (by decide) (br_f (by decide) (br_f (by decide) (br_f (by decide) (br_f (by decide) (br_t rfl ?_))))))
          rw [g6 n (by omega)]
          exact ⟨vp_in_nI av4 (by decide), nm_r (e' := upd va (av n) ((inp &&& 15).toInt32)) (by rw [nI_clamp (by omega)]) (nm_e (gy_nextv GE iv3 nxt rfl))⟩
  · rintro m i s hi rfl ih
    exact br_f (nI_ge (b := 4) hi (by decide)) ⟨vp_in_nI hi (by decide), nm_r (e' := upd (gs_zk a_variables i) i 0) (by rw [nI_clamp (by omega)]) (nm_r (nI_1 i) (ih _ rfl))⟩
end
