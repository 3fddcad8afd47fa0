/-! Y: edge, rulers, loops, and the questions -/
section
variable {f_fresh f_many f_tells f_last f_runs f_stopped : Int32} {a_actKind a_actV a_actC a_endKind a_endV a_endX a_endY a_number a_before a_behind a_reached a_todo a_words a_coming a_values a_told a_variables : Nat → Int32} {ek ex ey ak av ac ev : Nat → Nat}
theorem gy_edge {post : Int32 → Prop} {t : Nat} (GE : gy_GE ek ev ex ey a_endKind a_endV a_endX a_endY) (V : gy_VY ek ex ey a_number a_before a_behind) (ht : t < 16) (h : ∀ r, gs_Mk r (gs_edge ek ex ey t) → post r) : wpY_edge post (f_fresh, f_many, f_tells, f_last, f_runs, f_stopped, a_actKind, a_actV, a_actC, a_endKind, a_endV, a_endX, a_endY, a_number, a_before, a_behind, a_reached, a_todo, a_words, a_coming, a_values, a_told, a_variables) (nI t) := by
  have hx := GE.2.1
  have hy := GE.2.2.1
  refine pk_loop (fun m i r => wY_edge_4 post (nI t) f_fresh f_many f_tells f_last f_runs f_stopped a_actKind a_actV a_actC a_endKind a_endV a_endX a_endY a_number a_before a_behind a_reached a_todo a_words a_coming a_values a_told a_variables m r (nI i)) (fun i r => gs_Mk r (fun n => n < i ∧ gs_edge ek ex ey t n)) 16 0 0 (by omega) (gs_Mk_0 (fun i _ z => absurd z.1 (Nat.not_lt_zero i))) ?_ ?_
  · rintro m r hI
    exact br_t gx_x16 (h r (gs_Mk_iff hI (fun n hn => ⟨fun z => z.2, fun z => ⟨hn, z⟩⟩)))
  · rintro m i r hi hI ih
    have inner : (i = t ∨ ¬ gs_bf ek ex ey t i) → ∃ n30, wY_edge_30 post (wY_edge_4 post (nI t) f_fresh f_many f_tells f_last f_runs f_stopped a_actKind a_actV a_actC a_endKind a_endV a_endX a_endY a_number a_before a_behind a_reached a_todo a_words a_coming a_values a_told a_variables m) (nI t) (nI i) f_fresh f_many f_tells f_last f_runs f_stopped a_actKind a_actV a_actC a_endKind a_endV a_endX a_endY a_number a_before a_behind a_reached a_todo a_words a_coming a_values a_told a_variables n30 r 0 := by
      intro hq
      refine pk_loop (fun m' j r => wY_edge_30 post (wY_edge_4 post (nI t) f_fresh f_many f_tells f_last f_runs f_stopped a_actKind a_actV a_actC a_endKind a_endV a_endX a_endY a_number a_before a_behind a_reached a_todo a_words a_coming a_values a_told a_variables m) (nI t) (nI i) f_fresh f_many f_tells f_last f_runs f_stopped a_actKind a_actV a_actC a_endKind a_endV a_endX a_endY a_number a_before a_behind a_reached a_todo a_words a_coming a_values a_told a_variables m' r (nI j)) (fun j r => gs_Mk r (fun n => (n < i ∧ gs_edge ek ex ey t n) ∨ (n = i ∧ ∃ p, p < j ∧ gs_sn ek ex ey p = true ∧ gs_E ek ex ey p n ∧ gs_bf ek ex ey t p))) 16 0 r (by omega) (gs_Mk_iff hI (fun n _ => ⟨Or.inl, fun z => z.elim id (fun ⟨_, p, z, _⟩ => absurd z (Nat.not_lt_zero p))⟩)) ?_ ?_
      · rintro m' r hJ
        refine br_t gx_x16 (nm_r (nI_1 i) (ih r (gs_Mk_iff hJ (fun n _ => ?_))))
        constructor
        · rintro (z | ⟨rfl, z⟩)
          · exact ⟨by omega, z.2⟩
          · exact ⟨by omega, hq, z⟩
        · rintro ⟨z1, z2⟩
          by_cases e : n = i
          · exact Or.inr ⟨e, z2.2⟩
          · exact Or.inl ⟨by omega, z2⟩
      · rintro m' j r hj hJ ihj
        have keep : ¬ (gs_sn ek ex ey j = true ∧ gs_E ek ex ey j i ∧ gs_bf ek ex ey t j) → wY_edge_30 post (wY_edge_4 post (nI t) f_fresh f_many f_tells f_last f_runs f_stopped a_actKind a_actV a_actC a_endKind a_endV a_endX a_endY a_number a_before a_behind a_reached a_todo a_words a_coming a_values a_told a_variables m) (nI t) (nI i) f_fresh f_many f_tells f_last f_runs f_stopped a_actKind a_actV a_actC a_endKind a_endV a_endX a_endY a_number a_before a_behind a_reached a_todo a_words a_coming a_values a_told a_variables m' r (nI (j + 1)) := fun q => ihj r (gs_Mk_iff hJ (fun n _ => by
          constructor
          · rintro (z | ⟨z1, p, z3, z4⟩)
            · exact Or.inl z
            · exact Or.inr ⟨z1, p, by omega, z4⟩
          · rintro (z | ⟨z1, p, z3, z4⟩)
            · exact Or.inl z
            · by_cases e : p = j
              · subst e
                subst z1
                exact absurd z4 q
              · exact Or.inr ⟨z1, p, by omega, z4⟩))
        refine br_f (gx_16 hj) (gy_sn hx hy V.1 hj (fun q1 => gy_leads GE hj hi (fun q2 => gy_isBefore ht hj V.2.1 (fun q3 => ?_) (fun q3 => nm_r (nI_1 j) (keep (fun z => q3 z.2.2)))) (fun q2 => nm_r (nI_1 j) (keep (fun z => q2 z.2.1)))) (fun q1 => nm_r (nI_1 j) (keep (fun z => q1 z.1))))
        refine nm_e (nm_r (nI_1 j) (ihj _ (gs_Mk_iff (gs_Mk_set hJ hi) (fun n _ => ?_))))
        constructor
        · rintro ((z | ⟨z1, p, z3, z4⟩) | rfl)
          · exact Or.inl z
          · exact Or.inr ⟨z1, p, by omega, z4⟩
          · exact Or.inr ⟨rfl, j, by omega, q1, q2, q3⟩
        · rintro (z | ⟨z1, _⟩)
          · exact Or.inl (Or.inl z)
          · exact Or.inr z1
    refine br_f (gx_16 hi) (gy_isBefore ht hi V.2.1 (fun q => pk_eq t i (fun e => inner (Or.inl e.symm)) (fun e => nm_r (nI_1 i) (ih r (gs_Mk_iff hI (fun n _ => ⟨fun z => ⟨by omega, z.2⟩, fun z => ⟨?_, z.2⟩⟩))))) (fun q => inner (Or.inr q)))
    by_cases w : n = i
    · subst w
      rcases z.2.1 with y | y
      · exact absurd y.symm e
      · exact absurd q y
    · omega
theorem gy_rulers {post : Int32 → Prop} {t : Nat} (GE : gy_GE ek ev ex ey a_endKind a_endV a_endX a_endY) (V : gy_VY ek ex ey a_number a_before a_behind) (ht : t < 16) (h : ∀ r, gs_Mk r (gs_rul ek ex ey t) → post r) : wpY_rulers post (f_fresh, f_many, f_tells, f_last, f_runs, f_stopped, a_actKind, a_actV, a_actC, a_endKind, a_endV, a_endX, a_endY, a_number, a_before, a_behind, a_reached, a_todo, a_words, a_coming, a_values, a_told, a_variables) (nI t) := by
  have hx := GE.2.1
  have hy := GE.2.2.1
  refine pk_loop (fun m i r => wY_rulers_4 post (nI t) f_fresh f_many f_tells f_last f_runs f_stopped a_actKind a_actV a_actC a_endKind a_endV a_endX a_endY a_number a_before a_behind a_reached a_todo a_words a_coming a_values a_told a_variables m r (nI i)) (fun i r => gs_Mk r (fun n => n < i ∧ gs_rul ek ex ey t n)) 16 0 0 (by omega) (gs_Mk_0 (fun i _ z => absurd z.1 (Nat.not_lt_zero i))) ?_ ?_
  · rintro m r hI
    exact br_t gx_x16 (h r (gs_Mk_iff hI (fun n hn => ⟨fun z => z.2, fun z => ⟨hn, z⟩⟩)))
  · rintro m i r hi hI ih
    have skip : ¬ gs_rul ek ex ey t i → wY_rulers_4 post (nI t) f_fresh f_many f_tells f_last f_runs f_stopped a_actKind a_actV a_actC a_endKind a_endV a_endX a_endY a_number a_before a_behind a_reached a_todo a_words a_coming a_values a_told a_variables m r (nI (i + 1)) := fun q => ih r (gs_Mk_iff hI (fun n _ => ⟨fun z => ⟨by omega, z.2⟩, fun z => ⟨by
      by_cases w : n = i
      · exact absurd (w ▸ z.2) q
      · omega, z.2⟩⟩))
    have inner : gs_sn ek ex ey i = true → (i = t ∨ ¬ gs_bh ek ex ey t i) → ∃ n38, wY_rulers_38 post (wY_rulers_4 post (nI t) f_fresh f_many f_tells f_last f_runs f_stopped a_actKind a_actV a_actC a_endKind a_endV a_endX a_endY a_number a_before a_behind a_reached a_todo a_words a_coming a_values a_told a_variables m) (nI t) (nI i) f_fresh f_many f_tells f_last f_runs f_stopped a_actKind a_actV a_actC a_endKind a_endV a_endX a_endY a_number a_before a_behind a_reached a_todo a_words a_coming a_values a_told a_variables n38 r 0 := by
      intro hsn hq
      refine pk_loop (fun m' j r => wY_rulers_38 post (wY_rulers_4 post (nI t) f_fresh f_many f_tells f_last f_runs f_stopped a_actKind a_actV a_actC a_endKind a_endV a_endX a_endY a_number a_before a_behind a_reached a_todo a_words a_coming a_values a_told a_variables m) (nI t) (nI i) f_fresh f_many f_tells f_last f_runs f_stopped a_actKind a_actV a_actC a_endKind a_endV a_endX a_endY a_number a_before a_behind a_reached a_todo a_words a_coming a_values a_told a_variables m' r (nI j)) (fun j r => gs_Mk r (fun n => (n < i ∧ gs_rul ek ex ey t n) ∨ (n = i ∧ ∃ p, p < j ∧ gs_E ek ex ey n p ∧ gs_bh ek ex ey t p))) 16 0 r (by omega) (gs_Mk_iff hI (fun n _ => ⟨Or.inl, fun z => z.elim id (fun ⟨_, p, z, _⟩ => absurd z (Nat.not_lt_zero p))⟩)) ?_ ?_
      · rintro m' r hJ
        refine br_t gx_x16 (nm_r (nI_1 i) (ih r (gs_Mk_iff hJ (fun n _ => ?_))))
        constructor
        · rintro (z | ⟨rfl, p, z1, z2, z3⟩)
          · exact ⟨by omega, z.2⟩
          · exact ⟨by omega, hq, p, z1, hsn, z2, z3⟩
        · rintro ⟨z1, z2⟩
          by_cases e : n = i
          · obtain ⟨_, p, y1, y2, y3, y4⟩ := z2
            exact Or.inr ⟨e, p, y1, y3, y4⟩
          · exact Or.inl ⟨by omega, z2⟩
      · rintro m' j r hj hJ ihj
        have keep : ¬ (gs_E ek ex ey i j ∧ gs_bh ek ex ey t j) → wY_rulers_38 post (wY_rulers_4 post (nI t) f_fresh f_many f_tells f_last f_runs f_stopped a_actKind a_actV a_actC a_endKind a_endV a_endX a_endY a_number a_before a_behind a_reached a_todo a_words a_coming a_values a_told a_variables m) (nI t) (nI i) f_fresh f_many f_tells f_last f_runs f_stopped a_actKind a_actV a_actC a_endKind a_endV a_endX a_endY a_number a_before a_behind a_reached a_todo a_words a_coming a_values a_told a_variables m' r (nI (j + 1)) := fun q => ihj r (gs_Mk_iff hJ (fun n _ => by
          constructor
          · rintro (z | ⟨z1, p, z3, z4⟩)
            · exact Or.inl z
            · exact Or.inr ⟨z1, p, by omega, z4⟩
          · rintro (z | ⟨z1, p, z3, z4⟩)
            · exact Or.inl z
            · by_cases e : p = j
              · subst e
                subst z1
                exact absurd z4 q
              · exact Or.inr ⟨z1, p, by omega, z4⟩))
        refine br_f (gx_16 hj) (gy_leads GE hi hj (fun q2 => gy_isBehind ht hj V.2.2 (fun q3 => ?_) (fun q3 => nm_r (nI_1 j) (keep (fun z => q3 z.2)))) (fun q2 => nm_r (nI_1 j) (keep (fun z => q2 z.1))))
        refine nm_e (nm_r (nI_1 j) (ihj _ (gs_Mk_iff (gs_Mk_set hJ hi) (fun n _ => ?_))))
        constructor
        · rintro ((z | ⟨z1, p, z3, z4⟩) | rfl)
          · exact Or.inl z
          · exact Or.inr ⟨z1, p, by omega, z4⟩
          · exact Or.inr ⟨rfl, j, by omega, q2, q3⟩
        · rintro (z | ⟨z1, _⟩)
          · exact Or.inl (Or.inl z)
          · exact Or.inr z1
    refine br_f (gx_16 hi) (gy_sn hx hy V.1 hi (fun s => gy_isBehind ht hi V.2.2 (fun q => pk_eq i t (fun e => inner s (Or.inl e)) (fun e => nm_r (nI_1 i) (skip (fun z => z.1.elim e (fun y => y q))))) (fun q => inner s (Or.inr q))) (fun s => nm_r (nI_1 i) (skip (fun ⟨_, p, _, y, _⟩ => s y))))
/-- the loop of a node; reached and todo change -/
theorem gy_loop {post : Int32 → SY → Prop} {t : Nat} (GE : gy_GE ek ev ex ey a_endKind a_endV a_endX a_endY) (V : gy_VY ek ex ey a_number a_before a_behind) (ht : t < 16) (h : ∀ r re td, gs_Mk r (gs_lp ek ex ey t) → post r (f_fresh, f_many, f_tells, f_last, f_runs, f_stopped, a_actKind, a_actV, a_actC, a_endKind, a_endV, a_endX, a_endY, a_number, a_before, a_behind, re, td, a_words, a_coming, a_values, a_told, a_variables)) : wpY_loop post (f_fresh, f_many, f_tells, f_last, f_runs, f_stopped, a_actKind, a_actV, a_actC, a_endKind, a_endV, a_endX, a_endY, a_number, a_before, a_behind, a_reached, a_todo, a_words, a_coming, a_values, a_told, a_variables) (nI t) := by
  have hx := GE.2.1
  have hy := GE.2.2.1
  refine pk_loop (fun m i (s : Int32 × (Nat → Int32) × (Nat → Int32)) => wY_loop_4 post (nI t) m s.1 (nI i) f_fresh f_many f_tells f_last f_runs f_stopped a_actKind a_actV a_actC a_endKind a_endV a_endX a_endY a_number a_before a_behind s.2.1 s.2.2 a_words a_coming a_values a_told a_variables) (fun i s => gs_Mk s.1 (fun n => ∃ p, p < i ∧ gs_ret ek ex ey t p ∧ (n = t ∨ (gs_sn ek ex ey n = true ∧ gs_W ek ex ey (fun x => x = t) n p)))) 16 0 (0, a_reached, a_todo) (by omega) (gs_Mk_0 (fun i _ ⟨p, z, _⟩ => absurd z (Nat.not_lt_zero p))) ?_ ?_
  · rintro m s hI
    refine br_t gx_x16 (h _ _ _ (gs_Mk_iff hI (fun n _ => ?_)))
    constructor
    · exact fun ⟨p, _, z⟩ => ⟨p, z⟩
    · exact fun ⟨p, z⟩ => ⟨p, gs_sn_lt hx hy z.1.1, z⟩
  · rintro m i ⟨r, re, td⟩ hi hI ih
    dsimp only at hI
    have skip : ¬ gs_ret ek ex ey t i → wY_loop_4 post (nI t) m r (nI (i + 1)) f_fresh f_many f_tells f_last f_runs f_stopped a_actKind a_actV a_actC a_endKind a_endV a_endX a_endY a_number a_before a_behind re td a_words a_coming a_values a_told a_variables := fun q => ih (r, re, td) (gs_Mk_iff hI (fun n _ => by
      constructor
      · exact fun ⟨p, z1, z2⟩ => ⟨p, by omega, z2⟩
      · rintro ⟨p, z1, z2⟩
        by_cases e : p = i
        · exact absurd (e ▸ z2.1) q
        · exact ⟨p, by omega, z2⟩))
    refine br_f (gx_16 hi) (gy_sn hx hy V.1 hi (fun q1 => gy_leads GE hi ht (fun q2 => gy_isBefore ht hi V.2.1 (fun q3 => nm_e ?_) (fun q3 => nm_r (nI_1 i) (skip (fun z => q3 z.2.2)))) (fun q2 => nm_r (nI_1 i) (skip (fun z => q2 z.2.1)))) (fun q1 => nm_r (nI_1 i) (skip (fun z => q1 z.1))))
    have hret : gs_ret ek ex ey t i := ⟨q1, q2, q3⟩
    refine pk_loop (fun m' j (s : Int32 × (Nat → Int32) × (Nat → Int32)) => wY_loop_48 post (wY_loop_4 post (nI t) m) (nI t) (nI i) m' s.1 (nI j) f_fresh f_many f_tells f_last f_runs f_stopped a_actKind a_actV a_actC a_endKind a_endV a_endX a_endY a_number a_before a_behind s.2.1 s.2.2 a_words a_coming a_values a_told a_variables) (fun j s => gs_Mk s.1 (fun n => (∃ p, p < i ∧ gs_ret ek ex ey t p ∧ (n = t ∨ (gs_sn ek ex ey n = true ∧ gs_W ek ex ey (fun x => x = t) n p))) ∨ n = t ∨ (n < j ∧ gs_sn ek ex ey n = true ∧ gs_W ek ex ey (fun x => x = t) n i))) 16 0 (r ||| ((1 : Int32) <<< (nI t &&& 31)), re, td) (by omega) (gs_Mk_iff (gs_Mk_set hI ht) (fun n _ => ⟨fun z => z.elim Or.inl (fun z => Or.inr (Or.inl z)), fun z => z.elim Or.inl (fun z => z.elim Or.inr (fun z => absurd z.1 (Nat.not_lt_zero n)))⟩)) ?_ ?_
    · rintro m' s hJ
      refine br_t gx_x16 (nm_r (nI_1 i) (ih s (gs_Mk_iff hJ (fun n hn => ?_))))
      constructor
      · rintro (⟨p, z1, z2⟩ | z | ⟨_, z⟩)
        · exact ⟨p, by omega, z2⟩
        · exact ⟨i, by omega, hret, Or.inl z⟩
        · exact ⟨i, by omega, hret, Or.inr z⟩
      · rintro ⟨p, z1, z2, z3⟩
        by_cases e : p = i
        · subst e
          rcases z3 with z3 | z3
          · exact Or.inr (Or.inl z3)
          · exact Or.inr (Or.inr ⟨hn, z3⟩)
        · exact Or.inl ⟨p, by omega, z2, z3⟩
    · rintro m' j ⟨r, re, td⟩ hj hJ ihj
      dsimp only at hJ
      have keep : ∀ re td, ¬ (gs_sn ek ex ey j = true ∧ gs_W ek ex ey (fun x => x = t) j i) → wY_loop_48 post (wY_loop_4 post (nI t) m) (nI t) (nI i) m' r (nI (j + 1)) f_fresh f_many f_tells f_last f_runs f_stopped a_actKind a_actV a_actC a_endKind a_endV a_endX a_endY a_number a_before a_behind re td a_words a_coming a_values a_told a_variables := fun re td q => ihj (r, re, td) (gs_Mk_iff hJ (fun n _ => by
        constructor
        · rintro (z | z | ⟨z1, z2⟩)
          · exact Or.inl z
          · exact Or.inr (Or.inl z)
          · exact Or.inr (Or.inr ⟨by omega, z2⟩)
        · rintro (z | z | ⟨z1, z2⟩)
          · exact Or.inl z
          · exact Or.inr (Or.inl z)
          · by_cases e : n = j
            · exact absurd (e ▸ z2) q
            · exact Or.inr (Or.inr ⟨by omega, z2⟩)))
      refine br_f (gx_16 hj) (gy_sn hx hy V.1 hj (fun s => ?_) (fun s => nm_r (nI_1 j) (keep _ _ (fun z => s z.1))))
      refine gy_reach (W := fun x => x = t) GE (fun x hx' => nI_eq (by omega) (by omega)) hj (fun rb td' hr => ⟨gx_in hi, ?_⟩)
      rw [gx_cl hi]
      rcases hr i hi with ⟨z1, z2⟩ | ⟨z1, z2⟩
      · rw [z1]
        refine br_f (by decide) (nm_e (nm_r (nI_1 j) (ihj (_, rb, td') (gs_Mk_iff (gs_Mk_set hJ hj) (fun n _ => ?_)))))
        constructor
        · rintro ((z | z | ⟨z3, z4⟩) | rfl)
          · exact Or.inl z
          · exact Or.inr (Or.inl z)
          · exact Or.inr (Or.inr ⟨by omega, z4⟩)
          · exact Or.inr (Or.inr ⟨by omega, s, z2⟩)
        · rintro (z | z | ⟨z3, z4⟩)
          · exact Or.inl (Or.inl z)
          · exact Or.inl (Or.inr (Or.inl z))
          · by_cases e : n = j
            · exact Or.inr e
            · exact Or.inl (Or.inr (Or.inr ⟨by omega, z4⟩))
      · rw [z1]
        exact br_t rfl (nm_r (nI_1 j) (keep _ _ (fun z => z2 z.2)))
theorem gs_lp_sn (hx : ∀ n, ex n < 16) (hy : ∀ n, ey n < 16) {t n : Nat} (h : gs_lp ek ex ey t n) : gs_sn ek ex ey t = true := by
  obtain ⟨p, hp, _⟩ := h
  exact gs_sn_E hx hy hp.1 hp.2.1
theorem gy_depth_1 {post : Int32 → SY → Prop} {n : Nat} (GE : gy_GE ek ev ex ey a_endKind a_endV a_endX a_endY) (V : gy_VY ek ex ey a_number a_before a_behind) (n16 : n < 16) (done : ∀ re td r, r = nI (gs_cnt (fun h => gs_lp ek ex ey h n) 16) → post r (f_fresh, f_many, f_tells, f_last, f_runs, f_stopped, a_actKind, a_actV, a_actC, a_endKind, a_endV, a_endX, a_endY, a_number, a_before, a_behind, re, td, a_words, a_coming, a_values, a_told, a_variables)) : ∃ m, wY_depth_18 post (nI n) m 0 0 f_fresh f_many f_tells f_last f_runs f_stopped a_actKind a_actV a_actC a_endKind a_endV a_endX a_endY a_number a_before a_behind a_reached a_todo a_words a_coming a_values a_told a_variables := by
  have hx := GE.2.1
  have hy := GE.2.2.1
  refine pk_loop (fun m i (s : Int32 × (Nat → Int32) × (Nat → Int32)) => wY_depth_18 post (nI n) m s.1 (nI i) f_fresh f_many f_tells f_last f_runs f_stopped a_actKind a_actV a_actC a_endKind a_endV a_endX a_endY a_number a_before a_behind s.2.1 s.2.2 a_words a_coming a_values a_told a_variables) (fun i s => s.1 = nI (gs_cnt (fun h => gs_lp ek ex ey h n) i)) 16 0 (0, a_reached, a_todo) (by omega) rfl ?_ ?_
  · rintro m s hs
    exact br_t gx_x16 (done _ _ _ hs)
  · rintro m i ⟨r, re, td⟩ hi hr ih
    dsimp only at hr
    subst hr
    refine br_f (gx_16 hi) (gy_sn hx hy V.1 hi (fun s => gy_loop GE V hi (fun r re td hM => ?_)) (fun s => nm_r (nI_1 i) (ih (_, re, td) ?_)))
    · rcases gy_bit hM n16 with ⟨z1, z2⟩ | ⟨z1, z2⟩
      · rw [z2]
        refine nm_r (nI_1 _) (nm_r (nI_1 i) (ih (_, re, td) ?_))
        dsimp only
        rw [gs_cnt_t (P := fun h => gs_lp ek ex ey h n) z1]
        rfl
      · rw [z2]
        refine nm_r (e' := nI (gs_cnt (fun h => gs_lp ek ex ey h n) i)) (Int32.add_zero _) (nm_r (nI_1 i) (ih (_, re, td) ?_))
        dsimp only
        rw [gs_cnt_f (P := fun h => gs_lp ek ex ey h n) z1]
        rfl
    · dsimp only
      rw [gs_cnt_f (P := fun h => gs_lp ek ex ey h n) (fun z => s (gs_lp_sn hx hy z))]
theorem gy_head_1 {post : Int32 → SY → Prop} {n : Nat} (GE : gy_GE ek ev ex ey a_endKind a_endV a_endX a_endY) (V : gy_VY ek ex ey a_number a_before a_behind) (n16 : n < 16) (done : ∀ re td r, r = (gs_hf ek ex ey n 16).1 → post r (f_fresh, f_many, f_tells, f_last, f_runs, f_stopped, a_actKind, a_actV, a_actC, a_endKind, a_endV, a_endX, a_endY, a_number, a_before, a_behind, re, td, a_words, a_coming, a_values, a_told, a_variables)) : ∃ m, wY_head_22 post (nI n) m (-1) 17 0 f_fresh f_many f_tells f_last f_runs f_stopped a_actKind a_actV a_actC a_endKind a_endV a_endX a_endY a_number a_before a_behind a_reached a_todo a_words a_coming a_values a_told a_variables := by
  have hx := GE.2.1
  have hy := GE.2.2.1
  refine pk_loop (fun m i (s : Int32 × Int32 × (Nat → Int32) × (Nat → Int32)) => wY_head_22 post (nI n) m s.1 s.2.1 (nI i) f_fresh f_many f_tells f_last f_runs f_stopped a_actKind a_actV a_actC a_endKind a_endV a_endX a_endY a_number a_before a_behind s.2.2.1 s.2.2.2 a_words a_coming a_values a_told a_variables) (fun i s => s.1 = (gs_hf ek ex ey n i).1 ∧ s.2.1 = nI (gs_hf ek ex ey n i).2) 16 0 (-1, 17, a_reached, a_todo) (by omega) ⟨rfl, rfl⟩ ?_ ?_
  · rintro m s hs
    exact br_t gx_x16 (done _ _ _ hs.1)
  · rintro m i ⟨s1, s2, re, td⟩ hi ⟨h1, h2⟩ ih
    dsimp only at h1 h2
    subst h1 h2
    have l := gs_hf_le (ek := ek) (ex := ex) (ey := ey) n i
    have c := gs_cnt_le (gs_lp ek ex ey i) 16
    have size : ∀ r re td, gs_Mk r (gs_lp ek ex ey i) → ∃ n56, wY_head_56 post (wY_head_22 post (nI n) m) (nI n) (gs_hf ek ex ey n i).1 (nI (gs_hf ek ex ey n i).2) (nI i) r f_fresh f_many f_tells f_last f_runs f_stopped a_actKind a_actV a_actC a_endKind a_endV a_endX a_endY a_number a_before a_behind re td a_words a_coming a_values a_told a_variables n56 0 0 := by
      intro r re td hM
      refine pk_loop (fun m' j s => wY_head_56 post (wY_head_22 post (nI n) m) (nI n) (gs_hf ek ex ey n i).1 (nI (gs_hf ek ex ey n i).2) (nI i) r f_fresh f_many f_tells f_last f_runs f_stopped a_actKind a_actV a_actC a_endKind a_endV a_endX a_endY a_number a_before a_behind re td a_words a_coming a_values a_told a_variables m' s (nI j)) (fun j s => s = nI (gs_cnt (gs_lp ek ex ey i) j)) 16 0 0 (by omega) rfl ?_ ?_
      · rintro m' s rfl
        refine br_t gx_x16 ?_
        rcases gy_bit hM n16 with ⟨z1, z2⟩ | ⟨z1, z2⟩
        · rw [z2]
          refine br_f (by decide) (pk_lt (gs_cnt (gs_lp ek ex ey i) 16) (gs_hf ek ex ey n i).2 (fun w => nm_r (nI_1 i) (ih (nI i, nI (gs_cnt (gs_lp ek ex ey i) 16), re, td) ?_)) (fun w => nm_r (nI_1 i) (ih (_, _, re, td) ?_)))
          · have e : gs_hf ek ex ey n (i + 1) = (nI i, gs_cnt (gs_lp ek ex ey i) 16) := if_pos (gs_B_t.mpr ⟨z1, w⟩)
            rw [e]
            exact ⟨rfl, rfl⟩
          · have e : gs_hf ek ex ey n (i + 1) = gs_hf ek ex ey n i := if_neg (fun z => by have := (gs_B_t.mp z).2; omega)
            rw [e]
            exact ⟨rfl, rfl⟩
        · rw [z2]
          refine br_t rfl (nm_r (nI_1 i) (ih (_, _, re, td) ?_))
          have e : gs_hf ek ex ey n (i + 1) = gs_hf ek ex ey n i := if_neg (fun z => z1 (gs_B_t.mp z).1)
          rw [e]
          exact ⟨rfl, rfl⟩
      · rintro m' j s hj rfl ihj
        refine br_f (gx_16 hj) ?_
        rcases gy_bit hM hj with ⟨z1, z2⟩ | ⟨z1, z2⟩
        · rw [z2]
          exact nm_r (nI_1 _) (nm_r (nI_1 j) (ihj _ (by rw [gs_cnt_t z1])))
        · rw [z2]
          exact nm_r (e' := nI (gs_cnt (gs_lp ek ex ey i) j)) (Int32.add_zero _) (nm_r (nI_1 j) (ihj _ (by rw [gs_cnt_f z1])))
    refine br_f (gx_16 hi) (gy_sn hx hy V.1 hi (fun s => gy_loop GE V hi (fun r re td hM => size r re td hM)) (fun s => size 0 _ _ (gs_Mk_0 (fun q _ z => s (gs_lp_sn hx hy z)))))
theorem gy_nu_lt (hx : ∀ n, ex n < 16) (hy : ∀ n, ey n < 16) (hN : gy_NU ek ex ey a_number) {m n : Nat} (hm : gs_sn ek ex ey m = true) (hn : gs_sn ek ex ey n = true) : (a_number (nI m).toNatClampNeg < a_number (nI n).toNatClampNeg ↔ gs_nu ek ex ey m < gs_nu ek ex ey n) ∧ (a_number (nI m).toNatClampNeg ≤ a_number (nI n).toNatClampNeg ↔ gs_nu ek ex ey m ≤ gs_nu ek ex ey n) := by
  have l := gs_lv_len (ek := ek) hx hy
  have l1 := gs_nu_lt hx hy hm
  have l2 := gs_nu_lt hx hy hn
  have m16 := gs_sn_lt hx hy hm
  have n16 := gs_sn_lt hx hy hn
  have em : a_number m = nI (gs_nu ek ex ey m) := ((hN m m16).resolve_right (fun z => z.1 hm)).2
  have en : a_number n = nI (gs_nu ek ex ey n) := ((hN n n16).resolve_right (fun z => z.1 hn)).2
  rw [gx_cl m16, gx_cl n16, em, en]
  exact ⟨nI_ltI (by omega) (by omega), nI_leI (by omega) (by omega)⟩
theorem gy_m_straight {post : Int32 → SY → Prop} (R : gy_RY ak av ac ek ev ex ey (f_fresh, f_many, f_tells, f_last, f_runs, f_stopped, a_actKind, a_actV, a_actC, a_endKind, a_endV, a_endX, a_endY, a_number, a_before, a_behind, a_reached, a_todo, a_words, a_coming, a_values, a_told, a_variables)) (h : ∀ r f_fresh a_number a_before a_behind a_reached a_todo a_words, (r = 1 ∧ gs_strt ek ex ey) ∨ (r = 0 ∧ ¬ gs_strt ek ex ey) → ¬ f_fresh = 0 → gy_VY ek ex ey a_number a_before a_behind → post r (f_fresh, f_many, f_tells, f_last, f_runs, f_stopped, a_actKind, a_actV, a_actC, a_endKind, a_endV, a_endX, a_endY, a_number, a_before, a_behind, a_reached, a_todo, a_words, a_coming, a_values, a_told, a_variables)) : wpY_straight post (f_fresh, f_many, f_tells, f_last, f_runs, f_stopped, a_actKind, a_actV, a_actC, a_endKind, a_endV, a_endX, a_endY, a_number, a_before, a_behind, a_reached, a_todo, a_words, a_coming, a_values, a_told, a_variables) := by
  have R' := R
  obtain ⟨GE, GA, _⟩ := R
  have hx := GE.2.1
  have hy := GE.2.2.1
  unfold wpY_straight
  refine gy_know GE R'.2.2 (fun f_fresh a_number a_before a_behind a_reached a_todo a_words hf V => ?_)
  refine pk_loop (fun m i (_ : Unit) => wY_straight_6 post f_fresh f_many f_tells f_last f_runs f_stopped a_actKind a_actV a_actC a_endKind a_endV a_endX a_endY a_number a_before a_behind a_reached a_todo a_words a_coming a_values a_told a_variables m (nI i)) (fun i _ => ∀ n, n < i → ∀ s, s < 16 → gs_sn ek ex ey n = true → gs_E ek ex ey n s → gs_nu ek ex ey s ≤ gs_nu ek ex ey n → gs_bf ek ex ey s n) 16 0 () (by omega) (fun j hj => absurd hj (Nat.not_lt_zero j)) ?_ ?_
  · rintro m _ hI
    exact br_t gx_x16 (h 1 _ _ _ _ _ _ _ (Or.inl ⟨rfl, hI⟩) hf V)
  · rintro m i _ hi hI ih
    refine br_f (gx_16 hi) ?_
    refine pk_loop (fun m' j (_ : Unit) => wY_straight_14 post (wY_straight_6 post f_fresh f_many f_tells f_last f_runs f_stopped a_actKind a_actV a_actC a_endKind a_endV a_endX a_endY a_number a_before a_behind a_reached a_todo a_words a_coming a_values a_told a_variables m) (nI i) f_fresh f_many f_tells f_last f_runs f_stopped a_actKind a_actV a_actC a_endKind a_endV a_endX a_endY a_number a_before a_behind a_reached a_todo a_words a_coming a_values a_told a_variables m' (nI j)) (fun j _ => ∀ s, s < j → gs_sn ek ex ey i = true → gs_E ek ex ey i s → gs_nu ek ex ey s ≤ gs_nu ek ex ey i → gs_bf ek ex ey s i) 16 0 () (by omega) (fun j hj => absurd hj (Nat.not_lt_zero j)) ?_ ?_
    · rintro m' _ hJ
      refine br_t gx_x16 (nm_r (nI_1 i) (ih () (fun n hn => ?_)))
      by_cases e : n = i
      · subst e
        exact hJ
      · exact hI n (by omega)
    · rintro m' j _ hj hJ ihj
      have keep : (gs_sn ek ex ey i = true → gs_E ek ex ey i j → gs_nu ek ex ey j ≤ gs_nu ek ex ey i → gs_bf ek ex ey j i) → wY_straight_14 post (wY_straight_6 post f_fresh f_many f_tells f_last f_runs f_stopped a_actKind a_actV a_actC a_endKind a_endV a_endX a_endY a_number a_before a_behind a_reached a_todo a_words a_coming a_values a_told a_variables m) (nI i) f_fresh f_many f_tells f_last f_runs f_stopped a_actKind a_actV a_actC a_endKind a_endV a_endX a_endY a_number a_before a_behind a_reached a_todo a_words a_coming a_values a_told a_variables m' (nI (j + 1)) := fun q => ihj () (fun s hs => by
        by_cases e : s = j
        · subst e
          exact q
        · exact hJ s (by omega))
      refine br_f (gx_16 hj) (gy_sn hx hy V.1 hi (fun q1 => gy_leads GE hi hj (fun q2 => ⟨gx_in hj, gx_in hi, ?_⟩) (fun q2 => nm_r (nI_1 j) (keep (fun _ z => absurd z q2)))) (fun q1 => nm_r (nI_1 j) (keep (fun z => absurd z q1))))
      have hl := (gy_nu_lt hx hy V.1 q1 (gs_sn_E hx hy q1 q2)).1
      refine br_c (fun w => nm_r (nI_1 j) (keep (fun _ _ z => ?_))) (fun w => gy_isBefore hj hi V.2.1 (fun y => nm_r (nI_1 j) (keep (fun _ _ _ => y))) (fun y => h 0 _ _ _ _ _ _ _ (Or.inr ⟨rfl, fun z => y (z i hi j hj q1 q2 ?_)⟩) hf V))
      · have := hl.mp w
        omega
      · have : ¬ gs_nu ek ex ey i < gs_nu ek ex ey j := fun z => w (hl.mpr z)
        omega
theorem gy_m_number {post : Int32 → SY → Prop} {p : Int32} (R : gy_RY ak av ac ek ev ex ey (f_fresh, f_many, f_tells, f_last, f_runs, f_stopped, a_actKind, a_actV, a_actC, a_endKind, a_endV, a_endX, a_endY, a_number, a_before, a_behind, a_reached, a_todo, a_words, a_coming, a_values, a_told, a_variables)) (h : ∀ r v, gs_Q ek ex ey (fun n r => r = nI (gs_nu ek ex ey n)) p r → gy_RY ak av ac ek ev ex ey v → gy_run v = gy_run (f_fresh, f_many, f_tells, f_last, f_runs, f_stopped, a_actKind, a_actV, a_actC, a_endKind, a_endV, a_endX, a_endY, a_number, a_before, a_behind, a_reached, a_todo, a_words, a_coming, a_values, a_told, a_variables) → post r v) : wpY_number post (f_fresh, f_many, f_tells, f_last, f_runs, f_stopped, a_actKind, a_actV, a_actC, a_endKind, a_endV, a_endX, a_endY, a_number, a_before, a_behind, a_reached, a_todo, a_words, a_coming, a_values, a_told, a_variables) p := by
  have R' := R
  obtain ⟨GE, GA, _⟩ := R
  have hx := GE.2.1
  have hy := GE.2.2.1
  unfold wpY_number
  refine gy_know GE R'.2.2 (fun f_fresh a_number a_before a_behind a_reached a_todo a_words hf V => ?_)
  have RN : gy_RY ak av ac ek ev ex ey (f_fresh, f_many, f_tells, f_last, f_runs, f_stopped, a_actKind, a_actV, a_actC, a_endKind, a_endV, a_endX, a_endY, a_number, a_before, a_behind, a_reached, a_todo, a_words, a_coming, a_values, a_told, a_variables) := ⟨GE, GA, fun _ => V⟩
  refine gy_seen hx hy V.1 (fun n hn e => ?_) (fun q => h _ _ (Or.inr ⟨q, rfl⟩) RN rfl)
  subst e
  have n16 := gs_sn_lt hx hy hn
  refine ⟨gx_in n16, h _ _ (Or.inl ⟨n, hn, rfl, ?_⟩) RN rfl⟩
  rw [gx_cl n16]
  exact ((V.1 n n16).resolve_right (fun z => z.1 hn)).2
theorem gy_m_chief {post : Int32 → SY → Prop} {p : Int32} (R : gy_RY ak av ac ek ev ex ey (f_fresh, f_many, f_tells, f_last, f_runs, f_stopped, a_actKind, a_actV, a_actC, a_endKind, a_endV, a_endX, a_endY, a_number, a_before, a_behind, a_reached, a_todo, a_words, a_coming, a_values, a_told, a_variables)) (h : ∀ r v, gs_Q ek ex ey (fun n r => gs_Fst r (gs_near (gs_bf ek ex ey) n)) p r → gy_RY ak av ac ek ev ex ey v → gy_run v = gy_run (f_fresh, f_many, f_tells, f_last, f_runs, f_stopped, a_actKind, a_actV, a_actC, a_endKind, a_endV, a_endX, a_endY, a_number, a_before, a_behind, a_reached, a_todo, a_words, a_coming, a_values, a_told, a_variables) → post r v) : wpY_chief post (f_fresh, f_many, f_tells, f_last, f_runs, f_stopped, a_actKind, a_actV, a_actC, a_endKind, a_endV, a_endX, a_endY, a_number, a_before, a_behind, a_reached, a_todo, a_words, a_coming, a_values, a_told, a_variables) p := by
  have R' := R
  obtain ⟨GE, GA, _⟩ := R
  have hx := GE.2.1
  have hy := GE.2.2.1
  unfold wpY_chief
  refine gy_know GE R'.2.2 (fun f_fresh a_number a_before a_behind a_reached a_todo a_words hf V => ?_)
  have RN : gy_RY ak av ac ek ev ex ey (f_fresh, f_many, f_tells, f_last, f_runs, f_stopped, a_actKind, a_actV, a_actC, a_endKind, a_endV, a_endX, a_endY, a_number, a_before, a_behind, a_reached, a_todo, a_words, a_coming, a_values, a_told, a_variables) := ⟨GE, GA, fun _ => V⟩
  refine gy_seen hx hy V.1 (fun n hn e => ?_) (fun q => h _ _ (Or.inr ⟨q, rfl⟩) RN rfl)
  subst e
  have n16 := gs_sn_lt hx hy hn
  refine pk_le n 0 (fun z => h _ _ (Or.inl ⟨n, hn, rfl, Or.inr ⟨rfl, fun d _ q => ?_⟩⟩) RN rfl) (fun z => gy_nearBefore n16 V.2.1 (fun d n q => gs_bf_refl (gs_bf_sn hx hy q)) (fun r hr => h _ _ (Or.inl ⟨n, hn, rfl, hr⟩) RN rfl))
  have n0 : n = 0 := by omega
  subst n0
  exact q.1 (gs_bf_0 q.2.1)
theorem gy_m_tail {post : Int32 → SY → Prop} {p : Int32} (R : gy_RY ak av ac ek ev ex ey (f_fresh, f_many, f_tells, f_last, f_runs, f_stopped, a_actKind, a_actV, a_actC, a_endKind, a_endV, a_endX, a_endY, a_number, a_before, a_behind, a_reached, a_todo, a_words, a_coming, a_values, a_told, a_variables)) (h : ∀ r v, gs_Q ek ex ey (fun n r => gs_Fst r (gs_near (gs_bh ek ex ey) n)) p r → gy_RY ak av ac ek ev ex ey v → gy_run v = gy_run (f_fresh, f_many, f_tells, f_last, f_runs, f_stopped, a_actKind, a_actV, a_actC, a_endKind, a_endV, a_endX, a_endY, a_number, a_before, a_behind, a_reached, a_todo, a_words, a_coming, a_values, a_told, a_variables) → post r v) : wpY_tail post (f_fresh, f_many, f_tells, f_last, f_runs, f_stopped, a_actKind, a_actV, a_actC, a_endKind, a_endV, a_endX, a_endY, a_number, a_before, a_behind, a_reached, a_todo, a_words, a_coming, a_values, a_told, a_variables) p := by
  have R' := R
  obtain ⟨GE, GA, _⟩ := R
  have hx := GE.2.1
  have hy := GE.2.2.1
  unfold wpY_tail
  refine gy_know GE R'.2.2 (fun f_fresh a_number a_before a_behind a_reached a_todo a_words hf V => ?_)
  have RN : gy_RY ak av ac ek ev ex ey (f_fresh, f_many, f_tells, f_last, f_runs, f_stopped, a_actKind, a_actV, a_actC, a_endKind, a_endV, a_endX, a_endY, a_number, a_before, a_behind, a_reached, a_todo, a_words, a_coming, a_values, a_told, a_variables) := ⟨GE, GA, fun _ => V⟩
  refine gy_seen hx hy V.1 (fun n hn e => ?_) (fun q => h _ _ (Or.inr ⟨q, rfl⟩) RN rfl)
  subst e
  have n16 := gs_sn_lt hx hy hn
  exact gy_nearBehind n16 V.2.2 (fun d n q => gs_bh_sp hx hy q) (fun r hr => h _ _ (Or.inl ⟨n, hn, rfl, hr⟩) RN rfl)
theorem gy_m_depth {post : Int32 → SY → Prop} {p : Int32} (R : gy_RY ak av ac ek ev ex ey (f_fresh, f_many, f_tells, f_last, f_runs, f_stopped, a_actKind, a_actV, a_actC, a_endKind, a_endV, a_endX, a_endY, a_number, a_before, a_behind, a_reached, a_todo, a_words, a_coming, a_values, a_told, a_variables)) (h : ∀ r v, gs_Q ek ex ey (fun n r => r = nI (gs_cnt (fun h => gs_lp ek ex ey h n) 16)) p r → gy_RY ak av ac ek ev ex ey v → gy_run v = gy_run (f_fresh, f_many, f_tells, f_last, f_runs, f_stopped, a_actKind, a_actV, a_actC, a_endKind, a_endV, a_endX, a_endY, a_number, a_before, a_behind, a_reached, a_todo, a_words, a_coming, a_values, a_told, a_variables) → post r v) : wpY_depth post (f_fresh, f_many, f_tells, f_last, f_runs, f_stopped, a_actKind, a_actV, a_actC, a_endKind, a_endV, a_endX, a_endY, a_number, a_before, a_behind, a_reached, a_todo, a_words, a_coming, a_values, a_told, a_variables) p := by
  have R' := R
  obtain ⟨GE, GA, _⟩ := R
  have hx := GE.2.1
  have hy := GE.2.2.1
  unfold wpY_depth
  refine gy_know GE R'.2.2 (fun f_fresh a_number a_before a_behind a_reached a_todo a_words hf V => ?_)
  have RN : gy_RY ak av ac ek ev ex ey (f_fresh, f_many, f_tells, f_last, f_runs, f_stopped, a_actKind, a_actV, a_actC, a_endKind, a_endV, a_endX, a_endY, a_number, a_before, a_behind, a_reached, a_todo, a_words, a_coming, a_values, a_told, a_variables) := ⟨GE, GA, fun _ => V⟩
  refine gy_seen hx hy V.1 (fun n hn e => ?_) (fun q => h _ _ (Or.inr ⟨q, rfl⟩) RN rfl)
  subst e
  exact gy_depth_1 GE V (gs_sn_lt hx hy hn) (fun re td r hr => h _ _ (Or.inl ⟨n, hn, rfl, hr⟩) ⟨GE, GA, fun _ => V⟩ rfl)
theorem gy_m_head {post : Int32 → SY → Prop} {p : Int32} (R : gy_RY ak av ac ek ev ex ey (f_fresh, f_many, f_tells, f_last, f_runs, f_stopped, a_actKind, a_actV, a_actC, a_endKind, a_endV, a_endX, a_endY, a_number, a_before, a_behind, a_reached, a_todo, a_words, a_coming, a_values, a_told, a_variables)) (h : ∀ r v, gs_Q ek ex ey (fun n r => r = (gs_hf ek ex ey n 16).1) p r → gy_RY ak av ac ek ev ex ey v → gy_run v = gy_run (f_fresh, f_many, f_tells, f_last, f_runs, f_stopped, a_actKind, a_actV, a_actC, a_endKind, a_endV, a_endX, a_endY, a_number, a_before, a_behind, a_reached, a_todo, a_words, a_coming, a_values, a_told, a_variables) → post r v) : wpY_head post (f_fresh, f_many, f_tells, f_last, f_runs, f_stopped, a_actKind, a_actV, a_actC, a_endKind, a_endV, a_endX, a_endY, a_number, a_before, a_behind, a_reached, a_todo, a_words, a_coming, a_values, a_told, a_variables) p := by
  have R' := R
  obtain ⟨GE, GA, _⟩ := R
  have hx := GE.2.1
  have hy := GE.2.2.1
  unfold wpY_head
  refine gy_know GE R'.2.2 (fun f_fresh a_number a_before a_behind a_reached a_todo a_words hf V => ?_)
  have RN : gy_RY ak av ac ek ev ex ey (f_fresh, f_many, f_tells, f_last, f_runs, f_stopped, a_actKind, a_actV, a_actC, a_endKind, a_endV, a_endX, a_endY, a_number, a_before, a_behind, a_reached, a_todo, a_words, a_coming, a_values, a_told, a_variables) := ⟨GE, GA, fun _ => V⟩
  refine gy_seen hx hy V.1 (fun n hn e => ?_) (fun q => h _ _ (Or.inr ⟨q, rfl⟩) RN rfl)
  subst e
  exact gy_head_1 GE V (gs_sn_lt hx hy hn) (fun re td r hr => h _ _ (Or.inl ⟨n, hn, rfl, hr⟩) ⟨GE, GA, fun _ => V⟩ rfl)
theorem gy_m_set {post : Int32 → SY → Prop} {p w : Int32} (R : gy_RY ak av ac ek ev ex ey (f_fresh, f_many, f_tells, f_last, f_runs, f_stopped, a_actKind, a_actV, a_actC, a_endKind, a_endV, a_endX, a_endY, a_number, a_before, a_behind, a_reached, a_todo, a_words, a_coming, a_values, a_told, a_variables)) (h : ∀ r v, gs_Q ek ex ey (gs_Qset ek ex ey w) p r → gy_RY ak av ac ek ev ex ey v → gy_run v = gy_run (f_fresh, f_many, f_tells, f_last, f_runs, f_stopped, a_actKind, a_actV, a_actC, a_endKind, a_endV, a_endX, a_endY, a_number, a_before, a_behind, a_reached, a_todo, a_words, a_coming, a_values, a_told, a_variables) → post r v) : wpY_set post (f_fresh, f_many, f_tells, f_last, f_runs, f_stopped, a_actKind, a_actV, a_actC, a_endKind, a_endV, a_endX, a_endY, a_number, a_before, a_behind, a_reached, a_todo, a_words, a_coming, a_values, a_told, a_variables) p w := by
  have R' := R
  obtain ⟨GE, GA, _⟩ := R
  have hx := GE.2.1
  have hy := GE.2.2.1
  unfold wpY_set
  refine gy_know GE R'.2.2 (fun f_fresh a_number a_before a_behind a_reached a_todo a_words hf V => ?_)
  have RN : gy_RY ak av ac ek ev ex ey (f_fresh, f_many, f_tells, f_last, f_runs, f_stopped, a_actKind, a_actV, a_actC, a_endKind, a_endV, a_endX, a_endY, a_number, a_before, a_behind, a_reached, a_todo, a_words, a_coming, a_values, a_told, a_variables) := ⟨GE, GA, fun _ => V⟩
  refine gy_seen hx hy V.1 (fun n hn e => ?_) (fun q => h _ _ (Or.inr ⟨q, rfl⟩) RN rfl)
  subst e
  have n16 := gs_sn_lt hx hy hn
  refine gy_in (m := 2) rfl (by decide) (fun j hj e => ?_) (fun q => h _ _ (Or.inl ⟨n, hn, rfl, Or.inr (Or.inr (Or.inr ⟨⟨q 0 (by omega), q 1 (by omega), q 2 (by omega)⟩, rfl⟩))⟩) RN rfl)
  subst e
  refine br_c (fun q => gy_edge GE V n16 (fun r hr => h _ _ (Or.inl ⟨n, hn, rfl, Or.inl ⟨q, hr⟩⟩) RN rfl)) (fun q => br_c (fun q1 => gy_rulers GE V n16 (fun r hr => h _ _ (Or.inl ⟨n, hn, rfl, Or.inr (Or.inl ⟨q1, hr⟩)⟩) RN rfl)) (fun q1 => gy_loop GE V n16 (fun r re td hr => h _ _ (Or.inl ⟨n, hn, rfl, Or.inr (Or.inr (Or.inl ⟨?_, hr⟩))⟩) ⟨GE, GA, fun _ => V⟩ rfl)))
  have q0 : j ≠ 0 := fun z => q (by rw [z]; rfl)
  have q2 : j ≠ 1 := fun z => q1 (by rw [z]; rfl)
  have : j = 2 := by omega
  rw [this]
  rfl
end
