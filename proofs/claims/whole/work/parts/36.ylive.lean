/-! Y: merges and live -/
section
variable {f_fresh f_many f_tells f_last f_runs f_stopped : Int32} {a_actKind a_actV a_actC a_endKind a_endV a_endX a_endY a_number a_before a_behind a_reached a_todo a_words a_coming a_values a_told a_variables : Nat → Int32} {ek ex ey ak av ac ev : Nat → Nat}
theorem gy_merges_104 {post : Int32 → SY → Prop} {J94 : Int32 → Int32 → Prop} {x2 : Int32} {P : Nat → Prop} (GE : gy_GE ek ev ex ey a_endKind a_endV a_endX a_endY) (V : gy_VY ek ex ey a_number a_before a_behind) (hM : gs_Mk x2 P)
    (h : ∀ r, gs_Mk r (fun k => P k ∨ ∃ n, n < 16 ∧ P n ∧ gs_edge ek ex ey n k) → (r = x2 → J94 r 0) ∧ (¬ r = x2 → J94 r 1)) : ∃ m, wY_merges_104 post J94 x2 f_fresh f_many f_tells f_last f_runs f_stopped a_actKind a_actV a_actC a_endKind a_endV a_endX a_endY a_number a_before a_behind a_reached a_todo a_words a_coming a_values a_told a_variables m x2 0 := by
  refine pk_loop (fun m i r => wY_merges_104 post J94 x2 f_fresh f_many f_tells f_last f_runs f_stopped a_actKind a_actV a_actC a_endKind a_endV a_endX a_endY a_number a_before a_behind a_reached a_todo a_words a_coming a_values a_told a_variables m r (nI i)) (fun i r => gs_Mk r (fun k => P k ∨ ∃ n, n < i ∧ P n ∧ gs_edge ek ex ey n k)) 16 0 x2 (by omega) (gs_Mk_iff hM (fun k _ => ⟨Or.inl, fun z => z.elim id (fun ⟨n, z, _⟩ => absurd z (Nat.not_lt_zero n))⟩)) ?_ ?_
  · rintro m r hI
    exact br_t gx_x16 (h r hI)
  · rintro m i r hi hI ih
    refine br_f (gx_16 hi) ?_
    rcases gy_bit hM hi with ⟨z1, z2⟩ | ⟨z1, z2⟩
    · refine br_t z2 (gy_edge GE V hi (fun e he => nm_e (nm_r (nI_1 i) (ih _ (gs_Mk_iff (gs_Mk_or hI he) (fun k _ => ?_))))))
      constructor
      · rintro ((q | ⟨n, q1, q2⟩) | q)
        · exact Or.inl q
        · exact Or.inr ⟨n, by omega, q2⟩
        · exact Or.inr ⟨i, by omega, z1, q⟩
      · rintro (q | ⟨n, q1, q2, q3⟩)
        · exact Or.inl (Or.inl q)
        · by_cases e' : n = i
          · subst e'
            exact Or.inr q3
          · exact Or.inl (Or.inr ⟨n, by omega, q2, q3⟩)
    · refine br_f (by rw [z2]; decide) (nm_r (nI_1 i) (ih _ (gs_Mk_iff hI (fun k _ => ?_))))
      constructor
      · rintro (q | ⟨n, q1, q2⟩)
        · exact Or.inl q
        · exact Or.inr ⟨n, by omega, q2⟩
      · rintro (q | ⟨n, q1, q2, q3⟩)
        · exact Or.inl q
        · by_cases e' : n = i
          · subst e'
            exact absurd q2 z1
          · exact Or.inr ⟨n, by omega, q2, q3⟩
theorem gy_merges_94 {post : Int32 → SY → Prop} {x2 : Int32} {v : Nat} (GE : gy_GE ek ev ex ey a_endKind a_endV a_endX a_endY) (V : gy_VY ek ex ey a_number a_before a_behind) (hM : gs_Mk x2 (fun k => ∃ n, (n = 0 ∨ gs_chg ak av ek ex ey v n) ∧ gs_edge ek ex ey n k)) (h : ∀ r, gs_Mk r (gs_mg ak av ek ex ey v) → post r (f_fresh, f_many, f_tells, f_last, f_runs, f_stopped, a_actKind, a_actV, a_actC, a_endKind, a_endV, a_endX, a_endY, a_number, a_before, a_behind, a_reached, a_todo, a_words, a_coming, a_values, a_told, a_variables)) : ∃ m, wY_merges_94 post f_fresh f_many f_tells f_last f_runs f_stopped a_actKind a_actV a_actC a_endKind a_endV a_endX a_endY a_number a_before a_behind a_reached a_todo a_words a_coming a_values a_told a_variables m x2 1 := by
  have hx := GE.2.1
  have hy := GE.2.2.1
  have e16 : ∀ n k, gs_edge ek ex ey n k → n < 16 ∧ k < 16 := fun n k ⟨_, p, _, _, q1, q2⟩ => ⟨gs_sn_lt hx hy (gs_bf_sn hx hy q2), gs_E_lt ek ex ey hx hy q1⟩
  refine loop_m (fun m (s : Int32 × Int32) => wY_merges_94 post f_fresh f_many f_tells f_last f_runs f_stopped a_actKind a_actV a_actC a_endKind a_endV a_endX a_endY a_number a_before a_behind a_reached a_todo a_words a_coming a_values a_told a_variables m s.1 s.2) (fun s => (∀ k, bt s.1 k = true → k < 16 ∧ gs_mg ak av ek ex ey v k) ∧ (∀ k n, (n = 0 ∨ gs_chg ak av ek ex ey v n) → gs_edge ek ex ey n k → bt s.1 k = true) ∧ (s.2 = 0 → ∀ j k, bt s.1 j = true → gs_edge ek ex ey j k → bt s.1 k = true)) (fun s => 2 * (16 - gs_cn (bt s.1) 16) + (if s.2 = 0 then 0 else 1)) ?_ (x2, 1) ?_
  · rintro m ⟨s, f⟩ ⟨i1, i2, i3⟩ ih
    dsimp only at i1 i2 i3 ih
    refine br_c (fun z => h s (fun k => ?_)) (fun z => ?_)
    · constructor
      · exact i1 k
      · rintro ⟨_, q⟩
        refine gs_cl_i q (fun k => bt s k = true) ?_ ?_
        · rintro j ⟨n, w1, w2⟩
          exact i2 j n w1 w2
        · rintro j k _ w e
          exact i3 z j k w e
    · have hs : gs_Mk s (fun k => bt s k = true) := fun k => ⟨fun q => ⟨(i1 k q).1, q⟩, fun q => q.2⟩
      refine gy_merges_104 GE V hs (fun r hr => ?_)
      have c1 : ∀ k, bt r k = true → k < 16 ∧ gs_mg ak av ek ex ey v k := by
        intro k q
        obtain ⟨w1, w2 | ⟨n, w2, w3, w4⟩⟩ := (hr k).mp q
        · exact i1 k w2
        · exact ⟨w1, gs_cl_s (i1 n w3).2 w4⟩
      have up : ∀ k, bt s k = true → bt r k = true := fun k q => (hr k).mpr ⟨(i1 k q).1, Or.inl q⟩
      have z : ¬ f = 0 := z
      constructor
      · intro e
        have e : r = s := e
        have cl : ∀ j k, bt s j = true → gs_edge ek ex ey j k → bt s k = true := fun j k q w => by
          rw [← e]
          exact (hr k).mpr ⟨(e16 j k w).2, Or.inr ⟨j, (e16 j k w).1, q, w⟩⟩
        refine ih (r, 0) ⟨c1, fun k n q w => up k (i2 k n q w), fun _ => ?_⟩ ?_
        · dsimp only
          rw [e]
          exact cl
        · dsimp only
          rw [e, if_neg z, if_pos rfl]
          omega
      · intro e
        refine ih (r, 1) ⟨c1, fun k n q w => up k (i2 k n q w), fun q => absurd (show (1 : Int32) = 0 from q) (by decide)⟩ ?_
        have e : ¬ r = s := e
        have lt := gs_cn_lt (P := bt s) (Q := bt r) 16 (fun i _ q => up i q) (by
          apply Classical.byContradiction
          intro q
          apply e
          apply b_ext
          intro i _
          apply Bool.eq_iff_iff.mpr
          refine ⟨fun w => ?_, up i⟩
          apply Classical.byContradiction
          exact fun y => q ⟨i, (c1 i w).1, w, y⟩)
        have le := gs_cn_le (bt r) 16
        dsimp only
        rw [if_neg z, if_neg (by decide)]
        omega
  · refine ⟨fun k q => ?_, fun k n q w => ?_, fun q => absurd (show (1 : Int32) = 0 from q) (by decide)⟩
    · have := (hM k).mp q
      exact ⟨this.1, gs_cl_b this.2⟩
    · exact (hM k).mpr ⟨(e16 n k w).2, n, q, w⟩
theorem gy_m_merges {post : Int32 → SY → Prop} {p : Int32} (R : gy_RY ak av ac ek ev ex ey (f_fresh, f_many, f_tells, f_last, f_runs, f_stopped, a_actKind, a_actV, a_actC, a_endKind, a_endV, a_endX, a_endY, a_number, a_before, a_behind, a_reached, a_todo, a_words, a_coming, a_values, a_told, a_variables)) (h : ∀ r v, gs_Amg ak av ek ex ey p r → gy_RY ak av ac ek ev ex ey v → gy_run v = gy_run (f_fresh, f_many, f_tells, f_last, f_runs, f_stopped, a_actKind, a_actV, a_actC, a_endKind, a_endV, a_endX, a_endY, a_number, a_before, a_behind, a_reached, a_todo, a_words, a_coming, a_values, a_told, a_variables) → post r v) : wpY_merges post (f_fresh, f_many, f_tells, f_last, f_runs, f_stopped, a_actKind, a_actV, a_actC, a_endKind, a_endV, a_endX, a_endY, a_number, a_before, a_behind, a_reached, a_todo, a_words, a_coming, a_values, a_told, a_variables) p := by
  have R' := R
  obtain ⟨GE, GA, _⟩ := R
  have hx := GE.2.1
  have hy := GE.2.2.1
  unfold wpY_merges
  refine gy_in (m := 3) rfl (by decide) (fun v hv e => ?_) (fun q => h _ _ (Or.inr ⟨fun v hv => q v (by omega), rfl⟩) R' rfl)
  subst e
  refine gy_know GE R'.2.2 (fun f_fresh a_number a_before a_behind a_reached a_todo a_words hf V => ?_)
  have RN : gy_RY ak av ac ek ev ex ey (f_fresh, f_many, f_tells, f_last, f_runs, f_stopped, a_actKind, a_actV, a_actC, a_endKind, a_endV, a_endX, a_endY, a_number, a_before, a_behind, a_reached, a_todo, a_words, a_coming, a_values, a_told, a_variables) := ⟨GE, GA, fun _ => V⟩
  refine gy_edge (t := 0) GE V (by omega) (fun e0 he0 => ?_)
  refine pk_loop (fun m i r => wY_merges_23 post (nI v) f_fresh f_many f_tells f_last f_runs f_stopped a_actKind a_actV a_actC a_endKind a_endV a_endX a_endY a_number a_before a_behind a_reached a_todo a_words a_coming a_values a_told a_variables m r (nI i)) (fun i r => gs_Mk r (fun k => ∃ n, (n = 0 ∨ (n < i ∧ gs_chg ak av ek ex ey v n)) ∧ gs_edge ek ex ey n k)) 16 0 e0 (by omega) (gs_Mk_iff he0 (fun k _ => ⟨fun z => ⟨0, Or.inl rfl, z⟩, fun ⟨n, z1, z2⟩ => by
    rcases z1 with z1 | z1
    · exact z1 ▸ z2
    · exact absurd z1.1 (Nat.not_lt_zero n)⟩)) ?_ ?_
  · rintro m r hI
    refine br_t gx_x16 (gy_merges_94 (ak := ak) (av := av) (v := v) GE V (gs_Mk_iff hI (fun k _ => ?_)) (fun r hr => h _ _ (Or.inl ⟨v, by omega, rfl, hr⟩) RN rfl))
    constructor
    · rintro ⟨n, z1, z2⟩
      exact ⟨n, z1.imp id (fun z => z.2), z2⟩
    · rintro ⟨n, z1, z2⟩
      exact ⟨n, z1.imp id (fun z => ⟨gs_sn_lt hx hy z.1, z⟩), z2⟩
  · rintro m i r hi hI ih
    obtain ⟨g1, g2, g3, g4, g5, g6, g7⟩ := GA
    have ka := g1 i
    have va := g2 i
    have keep : ¬ gs_chg ak av ek ex ey v i → wY_merges_23 post (nI v) f_fresh f_many f_tells f_last f_runs f_stopped a_actKind a_actV a_actC a_endKind a_endV a_endX a_endY a_number a_before a_behind a_reached a_todo a_words a_coming a_values a_told a_variables m r (nI (i + 1)) := fun q => ih r (gs_Mk_iff hI (fun k _ => by
      constructor
      · rintro ⟨n, z1, z2⟩
        exact ⟨n, z1.imp id (fun z => ⟨by omega, z.2⟩), z2⟩
      · rintro ⟨n, z1 | ⟨z1, z3⟩, z2⟩
        · exact ⟨n, Or.inl z1, z2⟩
        · by_cases e : n = i
          · exact absurd (e ▸ z3) q
          · exact ⟨n, Or.inr ⟨by omega, z3⟩, z2⟩))
    have no : ¬ gs_chg ak av ek ex ey v i → wY_merges_62 post (wY_merges_23 post (nI v) f_fresh f_many f_tells f_last f_runs f_stopped a_actKind a_actV a_actC a_endKind a_endV a_endX a_endY a_number a_before a_behind a_reached a_todo a_words a_coming a_values a_told a_variables m) (nI v) r (nI i) f_fresh f_many f_tells f_last f_runs f_stopped a_actKind a_actV a_actC a_endKind a_endV a_endX a_endY a_number a_before a_behind a_reached a_todo a_words a_coming a_values a_told a_variables := by
      intro q
      unfold wY_merges_62 wY_merges_63
      exact gy_sn hx hy V.1 hi (fun _ => br_t rfl (nm_r (nI_1 i) (keep q))) (fun _ => nm_r (nI_1 i) (keep q))
    refine br_f (gx_16 hi) ⟨gx_in hi, ?_⟩
    rw [gx_cl hi, g5]
    refine pk_le (ak i) 0 (fun z => no (fun q => by have := q.2.1; omega)) (fun z => ⟨gx_in hi, pk_eq (ak i) 4 (fun y => no (fun q => by have := q.2.1; omega)) (fun y => ⟨gx_in hi, ?_⟩)⟩)
    rw [g6 i (by omega)]
    refine pk_eq (av i) v (fun w => ?_) (fun w => no (fun q => w q.2.2))
    unfold wY_merges_63
    refine gy_sn hx hy V.1 hi (fun s => br_f (by decide) (gy_edge GE V hi (fun e he => nm_e (nm_r (nI_1 i) (ih _ (gs_Mk_iff (gs_Mk_or hI he) (fun k _ => ?_))))))) (fun s => nm_r (nI_1 i) (keep (fun q => s q.1)))
    constructor
    · rintro (⟨n, z1, z2⟩ | z2)
      · exact ⟨n, z1.imp id (fun z => ⟨by omega, z.2⟩), z2⟩
      · exact ⟨i, Or.inr ⟨by omega, s, by omega, w⟩, z2⟩
    · rintro ⟨n, z1 | ⟨z1, z3⟩, z2⟩
      · exact Or.inl ⟨n, Or.inl z1, z2⟩
      · by_cases e' : n = i
        · subst e'
          exact Or.inr z2
        · exact Or.inl ⟨n, Or.inr ⟨by omega, z3⟩, z2⟩
theorem gy_looks {A B : Prop} {n v : Nat} (GA : gy_GA ak av ac a_actKind a_actV a_actC) (hn : n < 16) (hv : v < 4) (ht : gs_look ak av ac n v → B) (hf : ¬ gs_look ak av ac n v → A) : wpY_looks (fun r => (r = 0 → A) ∧ (¬ r = 0 → B)) (f_fresh, f_many, f_tells, f_last, f_runs, f_stopped, a_actKind, a_actV, a_actC, a_endKind, a_endV, a_endX, a_endY, a_number, a_before, a_behind, a_reached, a_todo, a_words, a_coming, a_values, a_told, a_variables) (nI n) (nI v) := by
  obtain ⟨g1, g2, g3, g4, g5, g6, g7⟩ := GA
  have ka := g1 n
  have va := g2 n
  have s2 : ¬ ((ak n = 2 ∨ ak n = 4) ∧ av n = v) → wY_looks_27 (fun r => (r = 0 → A) ∧ (¬ r = 0 → B)) (nI n) (nI v) (nI (ak n)) f_fresh f_many f_tells f_last f_runs f_stopped a_actKind a_actV a_actC a_endKind a_endV a_endX a_endY a_number a_before a_behind a_reached a_todo a_words a_coming a_values a_told a_variables := by
    intro q
    refine pk_eq (ak n) 3 (fun z => ⟨gx_in hn, ?_⟩) (fun z => br_t rfl (hf (fun w => w.elim q (fun w => z w.1))))
    rw [gx_cl hn, g7 n (Or.inr (Or.inr z))]
    have := g4 n z
    exact pk_eq (ac n) v (fun y => br_f (by decide) (ht (Or.inr ⟨z, y⟩))) (fun y => br_t rfl (hf (fun w => w.elim q (fun w => y w.2))))
  have s1 : (ak n = 2 ∨ ak n = 4) → wY_looks_17 (fun r => (r = 0 → A) ∧ (¬ r = 0 → B)) (nI n) (nI v) (nI (ak n)) f_fresh f_many f_tells f_last f_runs f_stopped a_actKind a_actV a_actC a_endKind a_endV a_endX a_endY a_number a_before a_behind a_reached a_todo a_words a_coming a_values a_told a_variables := by
    intro q
    refine ⟨gx_in hn, ?_⟩
    rw [gx_cl hn, g6 n (by omega)]
    exact pk_eq (av n) v (fun y => br_f (by decide) (ht (Or.inl ⟨q, y⟩))) (fun y => s2 (fun w => y w.2))
  refine ⟨gx_in hn, nm_r (e' := nI (ak n)) (by rw [gx_cl hn, g5]) (pk_eq (ak n) 2 (fun z => s1 (Or.inl z)) (fun z => pk_eq (ak n) 4 (fun y => s1 (Or.inr y)) (fun y => s2 (fun w => by have := w.1; omega))))⟩
theorem gy_replaces {A B : Prop} {n v : Nat} (GA : gy_GA ak av ac a_actKind a_actV a_actC) (hn : n < 16) (hv : v < 4) (ht : gs_rep ak av n v → B) (hf : ¬ gs_rep ak av n v → A) : wpY_replaces (fun r => (r = 0 → A) ∧ (¬ r = 0 → B)) (f_fresh, f_many, f_tells, f_last, f_runs, f_stopped, a_actKind, a_actV, a_actC, a_endKind, a_endV, a_endX, a_endY, a_number, a_before, a_behind, a_reached, a_todo, a_words, a_coming, a_values, a_told, a_variables) (nI n) (nI v) := by
  obtain ⟨g1, g2, g3, g4, g5, g6, g7⟩ := GA
  have ka := g1 n
  have va := g2 n
  have s1 : (ak n = 1 ∨ ak n = 3 ∨ ak n = 5) → wY_replaces_22 (fun r => (r = 0 → A) ∧ (¬ r = 0 → B)) (nI n) (nI v) f_fresh f_many f_tells f_last f_runs f_stopped a_actKind a_actV a_actC a_endKind a_endV a_endX a_endY a_number a_before a_behind a_reached a_todo a_words a_coming a_values a_told a_variables := by
    intro q
    refine ⟨gx_in hn, ?_⟩
    rw [gx_cl hn, g6 n (by omega)]
    exact pk_eq (av n) v (fun y => br_f (by decide) (ht ⟨q, y⟩)) (fun y => br_t rfl (hf (fun w => y w.2)))
  refine ⟨gx_in hn, nm_r (e' := nI (ak n)) (by rw [gx_cl hn, g5]) (pk_eq (ak n) 1 (fun z => s1 (Or.inl z)) (fun z => pk_eq (ak n) 3 (fun y => s1 (Or.inr (Or.inl y))) (fun y => pk_eq (ak n) 5 (fun x => s1 (Or.inr (Or.inr x))) (fun x => br_t rfl (hf (fun w => by have := w.1; omega))))))⟩
theorem gy_isLive_115 {post : Int32 → SY → Prop} {J40 : Int32 → (Nat → Int32) → (Nat → Int32) → (Nat → Int32) → (Nat → Int32) → (Nat → Int32) → (Nat → Int32) → (Nat → Int32) → (Nat → Int32) → (Nat → Int32) → (Nat → Int32) → (Nat → Int32) → (Nat → Int32) → (Nat → Int32) → (Nat → Int32) → (Nat → Int32) → (Nat → Int32) → (Nat → Int32) → Prop} {x2 : Int32} {E : Nat → Nat → Prop} {C H : Nat → Prop} {a n : Nat} {st : List Nat} {rb td : Nat → Int32} (GE : gy_GE ek ev ex ey a_endKind a_endV a_endX a_endY) (hn : n < 16) (hE : ∀ k, E n k ↔ gs_E ek ex ey n k) (hC : ∀ k, gs_E ek ex ey n k → C k) (h0 : gy_RI E C a st rb (fun m => m = n)) (hH : ∀ m, m < 16 → rb m = 1 → m ∉ st → ¬ H m) (hst : gs_st td st)
    (h : ∀ st' rb' td', gy_RI E C a st' rb' (fun _ => False) → (∀ m, m < 16 → rb' m = 1 → m ∉ st' → ¬ H m) → gs_st td' st' → gy_mu st' rb' ≤ gy_mu st rb → J40 (nI st'.length) a_actKind a_actV a_actC a_endKind a_endV a_endX a_endY a_number a_before a_behind rb' td' a_words a_coming a_values a_told a_variables) : ∃ m, wY_isLive_115 post J40 x2 (nI n) (nI (gs_af ek ex ey n)) f_fresh f_many f_tells f_last f_runs f_stopped m (nI st.length) 0 a_actKind a_actV a_actC a_endKind a_endV a_endX a_endY a_number a_before a_behind rb td a_words a_coming a_values a_told a_variables := by
  have hx := GE.2.1
  have hy := GE.2.2.1
  have af2 := gs_af_le ek ex ey n
  refine pk_loop (fun m i (s : List Nat × (Nat → Int32) × (Nat → Int32)) => wY_isLive_115 post J40 x2 (nI n) (nI (gs_af ek ex ey n)) f_fresh f_many f_tells f_last f_runs f_stopped m (nI s.1.length) (nI i) a_actKind a_actV a_actC a_endKind a_endV a_endX a_endY a_number a_before a_behind s.2.1 s.2.2 a_words a_coming a_values a_told a_variables) (fun i s => gy_RI E C a s.1 s.2.1 (fun m => m = n) ∧ (∀ m, m < 16 → s.2.1 m = 1 → m ∉ s.1 → ¬ H m) ∧ gs_st s.2.2 s.1 ∧ gy_mu s.1 s.2.1 ≤ gy_mu st rb ∧ ∀ k, k < i → s.2.1 (gs_ns ex ey n k) = 1) (gs_af ek ex ey n) 0 (st, rb, td) (by omega) ⟨h0, hH, hst, Nat.le_refl _, fun k hk => absurd hk (Nat.not_lt_zero k)⟩ ?_ ?_
  · rintro m ⟨st1, rb1, td1⟩ ⟨⟨r1, r2, r3, r4, r5, r6⟩, qh, q2, q3, q4⟩
    refine br_t (nI_le (Nat.le_refl _) (by omega)) (h _ _ _ ⟨r1, r2, r3, fun p hp z1 z2 z3 k hk e => ?_, r5, r6⟩ qh q2 q3)
    by_cases e1 : p = n
    · subst e1
      obtain ⟨k', k1, k2⟩ := (gs_E_af ek ex ey GE.1).mp ((hE k).mp e)
      subst k2
      exact q4 k' k1
    · exact r4 p hp z1 z2 e1 k hk e
  · rintro m i ⟨st1, rb1, td1⟩ hi ⟨q1, qh, q2, q3, q4⟩ ih
    dsimp only at q1 qh q2 q3 q4
    have s16 := gs_ns_lt hx hy n i
    have hEE : gs_E ek ex ey n (gs_ns ex ey n i) := (gs_E_af ek ex ey GE.1).mpr ⟨i, hi, rfl⟩
    refine br_f (nI_ge hi (by omega)) (gy_succ GE hn hi ⟨gx_in s16, ?_⟩)
    dsimp only
    rw [gx_cl s16]
    refine br_c (fun y => ?_) (fun y => ?_)
    · have pu := gy_RI_push q1 s16 y (hC _ hEE)
      have cl := pu.1.2.2.2.2.2
      have le := gs_cn_le (fun p => decide (upd rb1 (gs_ns ex ey n i) 1 p = 1)) 16
      simp only [List.length_cons] at cl
      refine ⟨gx_in s16, nm_r (e' := upd rb1 (gs_ns ex ey n i) 1) rfl (nm_r (nI_1 _) ⟨vp_in_nI (by omega) (by decide), nm_r (e' := upd td1 st1.length (nI (gs_ns ex ey n i))) (by rw [nI_clamp (by omega)]) (nm_r (nI_1 i) (ih (gs_ns ex ey n i :: st1, upd rb1 (gs_ns ex ey n i) 1, upd td1 st1.length (nI (gs_ns ex ey n i))) ⟨pu.1, fun p hp w1 w2 => ?_, gs_st_push q2, by have := pu.2; dsimp only; omega, fun k hk => ?_⟩))⟩)⟩
      · have pn : p ≠ gs_ns ex ey n i := fun z => w2 (List.mem_cons.mpr (Or.inl z))
        have w1 := (pk_un pn).symm.trans w1
        exact qh p hp w1 (fun z => w2 (List.mem_cons_of_mem _ z))
      · by_cases e : gs_ns ex ey n k = gs_ns ex ey n i
        · dsimp only
          rw [e]
          exact pk_us
        · have : k ≠ i := fun z => e (by rw [z])
          exact (pk_un e).trans (q4 k (by omega))
    · refine nm_r (nI_1 i) (ih (st1, rb1, td1) ⟨q1, qh, q2, q3, fun k hk => ?_⟩)
      by_cases e : k = i
      · subst e
        exact (q1.1 _ s16).resolve_left y
      · exact q4 k (by omega)
theorem gy_isLive {post : Int32 → SY → Prop} {a v : Nat} (GE : gy_GE ek ev ex ey a_endKind a_endV a_endX a_endY) (GA : gy_GA ak av ac a_actKind a_actV a_actC) (ha : a < 16) (hv : v < 4)
    (h : ∀ r re td, (r = 1 ∧ gs_liv ak av ac ek ev ex ey v a) ∨ (r = 0 ∧ ¬ gs_liv ak av ac ek ev ex ey v a) → post r (f_fresh, f_many, f_tells, f_last, f_runs, f_stopped, a_actKind, a_actV, a_actC, a_endKind, a_endV, a_endX, a_endY, a_number, a_before, a_behind, re, td, a_words, a_coming, a_values, a_told, a_variables)) : wpY_isLive post (f_fresh, f_many, f_tells, f_last, f_runs, f_stopped, a_actKind, a_actV, a_actC, a_endKind, a_endV, a_endX, a_endY, a_number, a_before, a_behind, a_reached, a_todo, a_words, a_coming, a_values, a_told, a_variables) (nI a) (nI v) := by
  have hx := GE.2.1
  have hy := GE.2.2.1
  refine pk_loop (fun m i (s : Nat → Int32) => wY_isLive_2 post (nI a) (nI v) f_fresh f_many f_tells f_last f_runs f_stopped m (nI i) a_actKind a_actV a_actC a_endKind a_endV a_endX a_endY a_number a_before a_behind s a_todo a_words a_coming a_values a_told a_variables) (fun i s => ∀ j, j < i → s j = 0) 16 0 a_reached (by omega) (fun j hj => absurd hj (Nat.not_lt_zero j)) ?_ ?_
  · rintro m s0 hI0
    refine br_t gx_x16 (nm_r (e' := nI 1) rfl (nm_e ⟨gx_in ha, nm_r (e' := upd s0 a 1) (by rw [gx_cl ha]; rfl) ?_⟩))
    have c1 := gs_cn_pos (P := fun n => decide (upd s0 a 1 n = 1)) (i := a) 16 ha (by rw [pk_us]; rfl)
    refine loop_m (fun m (s : List Nat × (Nat → Int32) × (Nat → Int32)) => wY_isLive_40 post (nI v) f_fresh f_many f_tells f_last f_runs f_stopped m (nI s.1.length) a_actKind a_actV a_actC a_endKind a_endV a_endX a_endY a_number a_before a_behind s.2.1 s.2.2 a_words a_coming a_values a_told a_variables) (fun s => gy_RI (fun j k => gs_E ek ex ey j k ∧ ¬ gs_rep ak av j v) (gs_cl (fun x => x = a) (fun j k => gs_E ek ex ey j k ∧ ¬ gs_rep ak av j v)) a s.1 s.2.1 (fun _ => False) ∧ (∀ m, m < 16 → s.2.1 m = 1 → m ∉ s.1 → ¬ gs_hit ak av ac ek ev m v) ∧ gs_st s.2.2 s.1) (fun s => gy_mu s.1 s.2.1) ?_ ([a], upd s0 a 1, upd a_todo 0 (nI a)) ?_
    · rintro m ⟨st, rb, td⟩ ⟨q1, qh, q2⟩ ih
      dsimp only at q1 qh q2
      cases st with
      | nil =>
        refine br_t (show nI 0 ≤ (0 : Int32) by decide) (h 0 rb td (Or.inr ⟨rfl, ?_⟩))
        rintro ⟨p, w1, w2⟩
        obtain ⟨r1, r2, r3, r4, r5, r6⟩ := q1
        have cls := gs_cl_i w1 (fun n => n < 16 ∧ rb n = 1) ?_ ?_
        · exact qh p cls.1 cls.2 (fun z => nomatch z) w2
        · rintro j rfl
          exact ⟨ha, r5⟩
        · rintro j k _ ⟨s1, s2⟩ e
          have k16 := gs_E_lt ek ex ey hx hy e.1
          exact ⟨k16, r4 j s1 s2 (fun z => nomatch z) id k k16 e⟩
      | cons n st =>
        have len := q1.2.2.2.2.2
        have le := gs_cn_le (fun p => decide (rb p = 1)) 16
        simp only [List.length_cons] at len
        have hn := q1.2.1 n List.mem_cons_self
        have hcl := q1.2.2.1 n hn.1 hn.2
        have pp := gy_RI_pop q1
        have nohit : ¬ gs_hit ak av ac ek ev n v → ∀ m, m < 16 → rb m = 1 → m ∉ st → ¬ gs_hit ak av ac ek ev m v := by
          intro w m hm w1 w2
          by_cases e : m = n
          · exact e ▸ w
          · exact qh m hm w1 (fun z => (List.mem_cons.mp z).elim e w2)
        have yes : gs_hit ak av ac ek ev n v → post 1 (f_fresh, f_many, f_tells, f_last, f_runs, f_stopped, a_actKind, a_actV, a_actC, a_endKind, a_endV, a_endX, a_endY, a_number, a_before, a_behind, rb, td, a_words, a_coming, a_values, a_told, a_variables) := fun w => h 1 rb td (Or.inl ⟨rfl, n, hcl, w⟩)
        refine br_f (nI_nle (by simp) (by simp only [List.length_cons]; omega)) (nm_r (e' := nI st.length) (pk_m1 _) ⟨vp_in_nI (by omega) (by decide), nm_r (e' := nI n) (by rw [nI_clamp (by omega)]; exact q2.1) (gy_looks GA hn.1 hv (fun w => yes (Or.inl w)) (fun w1 => gy_replaces GA hn.1 hv (fun w2 => ?_) (fun w2 => ?_)))⟩)
        · refine ih (st, rb, td) ⟨⟨pp.1.1, pp.1.2.1, pp.1.2.2.1, fun m hm y1 y2 _ k hk e => ?_, pp.1.2.2.2.2.1, pp.1.2.2.2.2.2⟩, nohit (fun z => z.elim w1 (fun z => z.1 w2)), q2.2⟩ pp.2
          by_cases e1 : m = n
          · subst e1
            exact absurd w2 e.2
          · exact pp.1.2.2.2.1 m hm y1 y2 e1 k hk e
        · have k2 := GE.1 n
          have go : ¬ (ek n = 2 ∧ ev n = v) → wY_isLive_104 post (wY_isLive_40 post (nI v) f_fresh f_many f_tells f_last f_runs f_stopped m) (nI v) (nI st.length) (nI n) f_fresh f_many f_tells f_last f_runs f_stopped a_actKind a_actV a_actC a_endKind a_endV a_endX a_endY a_number a_before a_behind rb td a_words a_coming a_values a_told a_variables := by
            intro w3
            refine gy_after GE hn.1 (gy_isLive_115 (H := fun m => gs_hit ak av ac ek ev m v) GE hn.1 (fun k => ⟨fun z => z.1, fun z => ⟨z, w2⟩⟩) (fun k z => gs_cl_s hcl ⟨z, w2⟩) pp.1 (nohit (fun z => z.elim w1 (fun z => w3 z.2))) q2.2 (fun st' rb' td' z1 z2 z3 z4 => ih (st', rb', td') ⟨z1, z2, z3⟩ ?_))
            have := pp.2
            have z4 : gy_mu st' rb' ≤ gy_mu st rb := z4
            dsimp only
            omega
          refine ⟨gx_in hn.1, ?_⟩
          rw [gx_cl hn.1, GE.2.2.2.2.1]
          refine pk_eq (ek n) 2 (fun y => ⟨gx_in hn.1, ?_⟩) (fun y => go (fun z => y z.1))
          have := GE.2.2.2.1 n
          rw [GE.2.2.2.2.2.2.2 n y]
          exact pk_eq (ev n) v (fun x => yes (Or.inr ⟨w2, y, x⟩)) (fun x => go (fun z => x z.2))
    · refine ⟨⟨fun n hn => ?_, fun n hn => ?_, fun n hn q => ?_, fun n hn q x => ?_, pk_us, c1⟩, fun n hn q x => ?_, ⟨rfl, trivial⟩⟩
      · by_cases e : n = a
        · subst e
          exact Or.inr pk_us
        · exact Or.inl ((pk_un e).trans (hI0 n hn))
      · rcases List.mem_cons.mp hn with rfl | hn
        · exact ⟨ha, pk_us⟩
        · cases hn
      · by_cases e : n = a
        · exact gs_cl_b e
        · have := (pk_un e).symm.trans q
          rw [hI0 n hn] at this
          exact absurd this (by decide)
      · by_cases e : n = a
        · subst e
          exact absurd List.mem_cons_self x
        · have := (pk_un e).symm.trans q
          rw [hI0 n hn] at this
          exact absurd this (by decide)
      · by_cases e : n = a
        · subst e
          exact absurd List.mem_cons_self x
        · have := (pk_un e).symm.trans q
          rw [hI0 n hn] at this
          exact absurd this (by decide)
  · rintro m i s hi hI ih
    refine br_f (gx_16 hi) ⟨gx_in hi, nm_r (e' := upd s i 0) (by rw [gx_cl hi]; rfl) (nm_r (nI_1 i) (ih _ (fun j hj => ?_)))⟩
    by_cases e : j = i
    · subst e
      exact pk_us
    · exact (pk_un e).trans (hI j (by omega))
theorem gs_liv_4 (GA : gy_GA ak av ac a_actKind a_actV a_actC) (hev : ∀ n, ev n < 4) {v n : Nat} (h : gs_liv ak av ac ek ev ex ey v n) : v < 4 := by
  obtain ⟨m, _, (⟨_, h⟩ | ⟨h1, h⟩) | ⟨_, _, h⟩⟩ := h
  · have := GA.2.1 m
    omega
  · have := GA.2.2.2.1 m h1
    omega
  · have := hev m
    omega
theorem gy_m_live {post : Int32 → SY → Prop} {p : Int32} (R : gy_RY ak av ac ek ev ex ey (f_fresh, f_many, f_tells, f_last, f_runs, f_stopped, a_actKind, a_actV, a_actC, a_endKind, a_endV, a_endX, a_endY, a_number, a_before, a_behind, a_reached, a_todo, a_words, a_coming, a_values, a_told, a_variables)) (h : ∀ r v, gs_Q ek ex ey (fun n r => gs_Mk r (fun v => gs_liv ak av ac ek ev ex ey v n)) p r → gy_RY ak av ac ek ev ex ey v → gy_run v = gy_run (f_fresh, f_many, f_tells, f_last, f_runs, f_stopped, a_actKind, a_actV, a_actC, a_endKind, a_endV, a_endX, a_endY, a_number, a_before, a_behind, a_reached, a_todo, a_words, a_coming, a_values, a_told, a_variables) → post r v) : wpY_live post (f_fresh, f_many, f_tells, f_last, f_runs, f_stopped, a_actKind, a_actV, a_actC, a_endKind, a_endV, a_endX, a_endY, a_number, a_before, a_behind, a_reached, a_todo, a_words, a_coming, a_values, a_told, a_variables) p := by
  have R' := R
  obtain ⟨GE, GA, _⟩ := R
  have hx := GE.2.1
  have hy := GE.2.2.1
  unfold wpY_live
  refine gy_know GE R'.2.2 (fun f_fresh a_number a_before a_behind a_reached a_todo a_words hf V => ?_)
  have RN : gy_RY ak av ac ek ev ex ey (f_fresh, f_many, f_tells, f_last, f_runs, f_stopped, a_actKind, a_actV, a_actC, a_endKind, a_endV, a_endX, a_endY, a_number, a_before, a_behind, a_reached, a_todo, a_words, a_coming, a_values, a_told, a_variables) := ⟨GE, GA, fun _ => V⟩
  refine gy_seen hx hy V.1 (fun n hn e => ?_) (fun q => h _ _ (Or.inr ⟨q, rfl⟩) RN rfl)
  subst e
  have n16 := gs_sn_lt hx hy hn
  refine pk_loop (fun m i (s : Int32 × (Nat → Int32) × (Nat → Int32)) => wY_live_18 post (nI n) m s.1 (nI i) f_fresh f_many f_tells f_last f_runs f_stopped a_actKind a_actV a_actC a_endKind a_endV a_endX a_endY a_number a_before a_behind s.2.1 s.2.2 a_words a_coming a_values a_told a_variables) (fun i s => gs_Mk s.1 (fun v => v < i ∧ gs_liv ak av ac ek ev ex ey v n)) 4 0 (0, a_reached, a_todo) (by omega) (gs_Mk_0 (fun i _ z => absurd z.1 (Nat.not_lt_zero i))) ?_ ?_
  · rintro m s hI
    exact br_t (by decide) (h _ _ (Or.inl ⟨n, hn, rfl, gs_Mk_iff hI (fun v _ => ⟨fun z => z.2, fun z => ⟨gs_liv_4 GA GE.2.2.2.1 z, z⟩⟩)⟩) ⟨GE, GA, fun _ => V⟩ rfl)
  · rintro m i ⟨s, re, td⟩ hi hI ih
    dsimp only at hI
    refine br_f (nI_ge (b := 4) hi (by decide)) (gy_isLive GE GA n16 hi (fun r re td hr => ?_))
    rcases hr with ⟨z1, z2⟩ | ⟨z1, z2⟩
    · rw [z1]
      refine br_f (by decide) (nm_e (nm_r (nI_1 i) (ih (_, re, td) (gs_Mk_iff (gs_Mk_set hI (by omega)) (fun v _ => ?_)))))
      constructor
      · rintro (q | rfl)
        · exact ⟨by omega, q.2⟩
        · exact ⟨by omega, z2⟩
      · rintro ⟨q1, q2⟩
        by_cases e : v = i
        · exact Or.inr e
        · exact Or.inl ⟨by omega, q2⟩
    · rw [z1]
      refine br_t rfl (nm_r (nI_1 i) (ih (s, re, td) (gs_Mk_iff hI (fun v _ => ?_))))
      constructor
      · exact fun q => ⟨by omega, q.2⟩
      · rintro ⟨q1, q2⟩
        by_cases e : v = i
        · exact absurd (e ▸ q2) z2
        · exact ⟨by omega, q2⟩
end
