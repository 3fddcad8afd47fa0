/-! Y: the questions of the graph -/
theorem gs_has1 (m : Int32) {s : Nat} (hs : s < 32) (h : bt m s = true) : ((m >>> (nI s &&& 31)) &&& 1) = 1 := by
  apply b_ext
  intro i hi
  rw [b_and, gs_one, b_sshr s hs m hi]
  by_cases z : i = 0
  · subst z
    simp only [Nat.add_zero, hs, if_true, h, decide_true, Bool.and_true]
  · rw [decide_eq_false z, Bool.and_false]
theorem gy_bit {m : Int32} {P : Nat → Prop} {s : Nat} (hM : gs_Mk m P) (hs : s < 16) : (P s ∧ ((m >>> (nI s &&& 31)) &&& 1) = 1) ∨ (¬ P s ∧ ((m >>> (nI s &&& 31)) &&& 1) = 0) := by
  by_cases z : P s
  · exact Or.inl ⟨z, gs_has1 m (by omega) ((gs_Mk_t hM hs).mpr z)⟩
  · exact Or.inr ⟨z, (gs_Mk_has hM hs).mpr z⟩
section
variable (ak av ac ek ev ex ey : Nat → Nat)
def gy_RY (v : SY) : Prop := match v with
  | (f_fresh, f_many, f_tells, f_last, f_runs, f_stopped, a_actKind, a_actV, a_actC, a_endKind, a_endV, a_endX, a_endY, a_number, a_before, a_behind, a_reached, a_todo, a_words, a_coming, a_values, a_told, a_variables) => gy_GE ek ev ex ey a_endKind a_endV a_endX a_endY ∧ gy_GA ak av ac a_actKind a_actV a_actC ∧ (¬ f_fresh = 0 → gy_VY ek ex ey a_number a_before a_behind)
end
def gy_run (v : SY) : Int32 × Int32 × Int32 × Int32 × (Nat → Int32) × (Nat → Int32) := match v with
  | (f_fresh, f_many, f_tells, f_last, f_runs, f_stopped, a_actKind, a_actV, a_actC, a_endKind, a_endV, a_endX, a_endY, a_number, a_before, a_behind, a_reached, a_todo, a_words, a_coming, a_values, a_told, a_variables) => (f_runs, f_tells, f_last, f_stopped, a_variables, a_told)
section
variable {f_fresh f_many f_tells f_last f_runs f_stopped : Int32} {a_actKind a_actV a_actC a_endKind a_endV a_endX a_endY a_number a_before a_behind a_reached a_todo a_words a_coming a_values a_told a_variables : Nat → Int32} {ek ex ey ak av ac ev : Nat → Nat}
theorem gy_isBefore {A B : Prop} {d n : Nat} (hd : d < 16) (hn : n < 16) (hB : ∀ d, d < 16 → ∀ n, n < 16 → gy_M a_before (gs_bf ek ex ey) d n) (ht : gs_bf ek ex ey d n → B) (hf : ¬ gs_bf ek ex ey d n → A) : wpY_isBefore (fun r => (r = 0 → A) ∧ (¬ r = 0 → B)) (f_fresh, f_many, f_tells, f_last, f_runs, f_stopped, a_actKind, a_actV, a_actC, a_endKind, a_endV, a_endX, a_endY, a_number, a_before, a_behind, a_reached, a_todo, a_words, a_coming, a_values, a_told, a_variables) (nI d) (nI n) := by
  unfold wpY_isBefore
  rw [gy_ix, nI_clamp (by omega)]
  refine ⟨vp_in_nI (by omega) (by decide), ?_⟩
  rcases hB d hd n hn with ⟨z1, z2⟩ | ⟨z1, z2⟩
  · rw [z1]
    exact ⟨rfl, br_f (by decide) (ht z2)⟩
  · rw [z1]
    exact ⟨rfl, br_t rfl (hf z2)⟩
theorem gy_nearBefore {post : Int32 → Prop} {n : Nat} (hn : n < 16) (hB : ∀ d, d < 16 → ∀ n, n < 16 → gy_M a_before (gs_bf ek ex ey) d n) (hR : ∀ d n, gs_bf ek ex ey d n → gs_bf ek ex ey d d) (h : ∀ r, gs_Fst r (gs_near (gs_bf ek ex ey) n) → post r) : wpY_nearest post (f_fresh, f_many, f_tells, f_last, f_runs, f_stopped, a_actKind, a_actV, a_actC, a_endKind, a_endV, a_endX, a_endY, a_number, a_before, a_behind, a_reached, a_todo, a_words, a_coming, a_values, a_told, a_variables) (nI n) 0 := by
  refine pk_loop (fun m i (_ : Unit) => wY_nearest_2 post (nI n) 0 f_fresh f_many f_tells f_last f_runs f_stopped a_actKind a_actV a_actC a_endKind a_endV a_endX a_endY a_number a_before a_behind a_reached a_todo a_words a_coming a_values a_told a_variables m (nI i)) (fun i _ => ∀ d, d < i → ¬ gs_near (gs_bf ek ex ey) n d) 16 0 () (by omega) (fun j hj => absurd hj (Nat.not_lt_zero j)) ?_ ?_
  · rintro m _ hI
    exact br_t gx_x16 (h _ (Or.inr ⟨rfl, hI⟩))
  · rintro m i _ hi hI ih
    have up : ¬ gs_near (gs_bf ek ex ey) n i → wY_nearest_2 post (nI n) 0 f_fresh f_many f_tells f_last f_runs f_stopped a_actKind a_actV a_actC a_endKind a_endV a_endX a_endY a_number a_before a_behind a_reached a_todo a_words a_coming a_values a_told a_variables m (nI (i + 1)) := fun q => ih () (fun d hd => by
      by_cases e : d = i
      · exact e ▸ q
      · exact hI d (by omega))
    refine br_f (gx_16 hi) (pk_eq i n (fun e => nm_r (nI_1 i) (up (fun q => q.1 e))) (fun e => ?_))
    have body : wpY_isBefore (fun r => (r = 0 → (∀ x : Int32, x = nI i + 1 → wY_nearest_2 post (nI n) 0 f_fresh f_many f_tells f_last f_runs f_stopped a_actKind a_actV a_actC a_endKind a_endV a_endX a_endY a_number a_before a_behind a_reached a_todo a_words a_coming a_values a_told a_variables m x)) ∧ (¬ r = 0 → (∃ n47 : Nat, wY_nearest_47 post (wY_nearest_2 post (nI n) 0 f_fresh f_many f_tells f_last f_runs f_stopped a_actKind a_actV a_actC a_endKind a_endV a_endX a_endY a_number a_before a_behind a_reached a_todo a_words a_coming a_values a_told a_variables m) (nI n) 0 (nI i) f_fresh f_many f_tells f_last f_runs f_stopped a_actKind a_actV a_actC a_endKind a_endV a_endX a_endY a_number a_before a_behind a_reached a_todo a_words a_coming a_values a_told a_variables n47 1 0))) (f_fresh, f_many, f_tells, f_last, f_runs, f_stopped, a_actKind, a_actV, a_actC, a_endKind, a_endV, a_endX, a_endY, a_number, a_before, a_behind, a_reached, a_todo, a_words, a_coming, a_values, a_told, a_variables) (nI i) (nI n) := by
      refine gy_isBefore hi hn hB (fun q => ?_) (fun q => nm_r (nI_1 i) (up (fun w => q w.2.1)))
      refine pk_loop (fun m' j (s : Int32) => wY_nearest_47 post (wY_nearest_2 post (nI n) 0 f_fresh f_many f_tells f_last f_runs f_stopped a_actKind a_actV a_actC a_endKind a_endV a_endX a_endY a_number a_before a_behind a_reached a_todo a_words a_coming a_values a_told a_variables m) (nI n) 0 (nI i) f_fresh f_many f_tells f_last f_runs f_stopped a_actKind a_actV a_actC a_endKind a_endV a_endX a_endY a_number a_before a_behind a_reached a_todo a_words a_coming a_values a_told a_variables m' s (nI j)) (fun j s => (s = 1 ∧ ∀ e, e < j → e ≠ n → e ≠ i → gs_bf ek ex ey e n → gs_bf ek ex ey e i) ∨ (s = 0 ∧ ∃ e, e < 16 ∧ e ≠ n ∧ gs_bf ek ex ey e n ∧ ¬ gs_bf ek ex ey e i)) 16 0 1 (by omega) (Or.inl ⟨rfl, fun e he => absurd he (Nat.not_lt_zero e)⟩) ?_ ?_
      · rintro m' s hS
        refine br_t gx_x16 ?_
        rcases hS with ⟨z1, z2⟩ | ⟨z1, f, z2, z3, z4, z5⟩
        · rw [z1]
          refine br_f (by decide) (h _ (Or.inl ⟨i, hi, rfl, ⟨e, q, fun f hf hfn hC => ?_⟩, hI⟩))
          by_cases fe : f = i
          · subst fe
            exact hR f n hC
          · exact z2 f hf hfn fe hC
        · rw [z1]
          exact br_t rfl (nm_r (nI_1 i) (up (fun w => z5 (w.2.2 f z2 z3 z4))))
      · rintro m' j s hj hS ihj
        have keep : (j ≠ n → j ≠ i → gs_bf ek ex ey j n → gs_bf ek ex ey j i) → wY_nearest_47 post (wY_nearest_2 post (nI n) 0 f_fresh f_many f_tells f_last f_runs f_stopped a_actKind a_actV a_actC a_endKind a_endV a_endX a_endY a_number a_before a_behind a_reached a_todo a_words a_coming a_values a_told a_variables m) (nI n) 0 (nI i) f_fresh f_many f_tells f_last f_runs f_stopped a_actKind a_actV a_actC a_endKind a_endV a_endX a_endY a_number a_before a_behind a_reached a_todo a_words a_coming a_values a_told a_variables m' s (nI (j + 1)) := fun w => ihj s (hS.imp (fun z => ⟨z.1, fun f hf y1 y2 y3 => by
          by_cases fe : f = j
          · subst fe
            exact w y1 y2 y3
          · exact z.2 f (by omega) y1 y2 y3⟩) id)
        refine br_f (gx_16 hj) (pk_eq j n (fun w => nm_r (nI_1 j) (keep (fun y => absurd w y))) (fun w1 => pk_eq j i (fun w => nm_r (nI_1 j) (keep (fun _ y => absurd w y))) (fun w2 => ?_)))
        have inner : wpY_isBefore (fun r => (r = 0 → wY_nearest_125 post (wY_nearest_2 post (nI n) 0 f_fresh f_many f_tells f_last f_runs f_stopped a_actKind a_actV a_actC a_endKind a_endV a_endX a_endY a_number a_before a_behind a_reached a_todo a_words a_coming a_values a_told a_variables m) (wY_nearest_47 post (wY_nearest_2 post (nI n) 0 f_fresh f_many f_tells f_last f_runs f_stopped a_actKind a_actV a_actC a_endKind a_endV a_endX a_endY a_number a_before a_behind a_reached a_todo a_words a_coming a_values a_told a_variables m) (nI n) 0 (nI i) f_fresh f_many f_tells f_last f_runs f_stopped a_actKind a_actV a_actC a_endKind a_endV a_endX a_endY a_number a_before a_behind a_reached a_todo a_words a_coming a_values a_told a_variables m') (nI n) 0 (nI i) s (nI j) f_fresh f_many f_tells f_last f_runs f_stopped a_actKind a_actV a_actC a_endKind a_endV a_endX a_endY a_number a_before a_behind a_reached a_todo a_words a_coming a_values a_told a_variables) ∧ (¬ r = 0 → wpY_isBefore (fun r => (r = 0 → wY_nearest_126 post (wY_nearest_2 post (nI n) 0 f_fresh f_many f_tells f_last f_runs f_stopped a_actKind a_actV a_actC a_endKind a_endV a_endX a_endY a_number a_before a_behind a_reached a_todo a_words a_coming a_values a_told a_variables m) (wY_nearest_47 post (wY_nearest_2 post (nI n) 0 f_fresh f_many f_tells f_last f_runs f_stopped a_actKind a_actV a_actC a_endKind a_endV a_endX a_endY a_number a_before a_behind a_reached a_todo a_words a_coming a_values a_told a_variables m) (nI n) 0 (nI i) f_fresh f_many f_tells f_last f_runs f_stopped a_actKind a_actV a_actC a_endKind a_endV a_endX a_endY a_number a_before a_behind a_reached a_todo a_words a_coming a_values a_told a_variables m') (nI n) 0 (nI i) s (nI j) 1 f_fresh f_many f_tells f_last f_runs f_stopped a_actKind a_actV a_actC a_endKind a_endV a_endX a_endY a_number a_before a_behind a_reached a_todo a_words a_coming a_values a_told a_variables) ∧ (¬ r = 0 → wY_nearest_125 post (wY_nearest_2 post (nI n) 0 f_fresh f_many f_tells f_last f_runs f_stopped a_actKind a_actV a_actC a_endKind a_endV a_endX a_endY a_number a_before a_behind a_reached a_todo a_words a_coming a_values a_told a_variables m) (wY_nearest_47 post (wY_nearest_2 post (nI n) 0 f_fresh f_many f_tells f_last f_runs f_stopped a_actKind a_actV a_actC a_endKind a_endV a_endX a_endY a_number a_before a_behind a_reached a_todo a_words a_coming a_values a_told a_variables m) (nI n) 0 (nI i) f_fresh f_many f_tells f_last f_runs f_stopped a_actKind a_actV a_actC a_endKind a_endV a_endX a_endY a_number a_before a_behind a_reached a_todo a_words a_coming a_values a_told a_variables m') (nI n) 0 (nI i) s (nI j) f_fresh f_many f_tells f_last f_runs f_stopped a_actKind a_actV a_actC a_endKind a_endV a_endX a_endY a_number a_before a_behind a_reached a_todo a_words a_coming a_values a_told a_variables)) (f_fresh, f_many, f_tells, f_last, f_runs, f_stopped, a_actKind, a_actV, a_actC, a_endKind, a_endV, a_endX, a_endY, a_number, a_before, a_behind, a_reached, a_todo, a_words, a_coming, a_values, a_told, a_variables) (nI j) (nI i))) (f_fresh, f_many, f_tells, f_last, f_runs, f_stopped, a_actKind, a_actV, a_actC, a_endKind, a_endV, a_endX, a_endY, a_number, a_before, a_behind, a_reached, a_todo, a_words, a_coming, a_values, a_told, a_variables) (nI j) (nI n) :=
          gy_isBefore hj hn hB (fun y => gy_isBefore hj hi hB (fun x => br_t rfl (nm_r (nI_1 j) (keep (fun _ _ _ => x)))) (fun x => br_f (by decide) (nm_r (nI_1 j) (ihj 0 (Or.inr ⟨rfl, j, hj, w1, y, x⟩))))) (fun y => br_t rfl (nm_r (nI_1 j) (keep (fun _ _ z => absurd z y))))
        exact br_t rfl inner
    exact br_t rfl body
theorem gy_isBehind {A B : Prop} {d n : Nat} (hd : d < 16) (hn : n < 16) (hB : ∀ d, d < 16 → ∀ n, n < 16 → gy_M a_behind (gs_bh ek ex ey) d n) (ht : gs_bh ek ex ey d n → B) (hf : ¬ gs_bh ek ex ey d n → A) : wpY_isBehind (fun r => (r = 0 → A) ∧ (¬ r = 0 → B)) (f_fresh, f_many, f_tells, f_last, f_runs, f_stopped, a_actKind, a_actV, a_actC, a_endKind, a_endV, a_endX, a_endY, a_number, a_before, a_behind, a_reached, a_todo, a_words, a_coming, a_values, a_told, a_variables) (nI d) (nI n) := by
  unfold wpY_isBehind
  rw [gy_ix, nI_clamp (by omega)]
  refine ⟨vp_in_nI (by omega) (by decide), ?_⟩
  rcases hB d hd n hn with ⟨z1, z2⟩ | ⟨z1, z2⟩
  · rw [z1]
    exact ⟨rfl, br_f (by decide) (ht z2)⟩
  · rw [z1]
    exact ⟨rfl, br_t rfl (hf z2)⟩
theorem gy_nearBehind {post : Int32 → Prop} {n : Nat} (hn : n < 16) (hB : ∀ d, d < 16 → ∀ n, n < 16 → gy_M a_behind (gs_bh ek ex ey) d n) (hR : ∀ d n, gs_bh ek ex ey d n → gs_bh ek ex ey d d) (h : ∀ r, gs_Fst r (gs_near (gs_bh ek ex ey) n) → post r) : wpY_nearest post (f_fresh, f_many, f_tells, f_last, f_runs, f_stopped, a_actKind, a_actV, a_actC, a_endKind, a_endV, a_endX, a_endY, a_number, a_before, a_behind, a_reached, a_todo, a_words, a_coming, a_values, a_told, a_variables) (nI n) 1 := by
  refine pk_loop (fun m i (_ : Unit) => wY_nearest_2 post (nI n) 1 f_fresh f_many f_tells f_last f_runs f_stopped a_actKind a_actV a_actC a_endKind a_endV a_endX a_endY a_number a_before a_behind a_reached a_todo a_words a_coming a_values a_told a_variables m (nI i)) (fun i _ => ∀ d, d < i → ¬ gs_near (gs_bh ek ex ey) n d) 16 0 () (by omega) (fun j hj => absurd hj (Nat.not_lt_zero j)) ?_ ?_
  · rintro m _ hI
    exact br_t gx_x16 (h _ (Or.inr ⟨rfl, hI⟩))
  · rintro m i _ hi hI ih
    have up : ¬ gs_near (gs_bh ek ex ey) n i → wY_nearest_2 post (nI n) 1 f_fresh f_many f_tells f_last f_runs f_stopped a_actKind a_actV a_actC a_endKind a_endV a_endX a_endY a_number a_before a_behind a_reached a_todo a_words a_coming a_values a_told a_variables m (nI (i + 1)) := fun q => ih () (fun d hd => by
      by_cases e : d = i
      · exact e ▸ q
      · exact hI d (by omega))
    refine br_f (gx_16 hi) (pk_eq i n (fun e => nm_r (nI_1 i) (up (fun q => q.1 e))) (fun e => ?_))
    have body : wpY_isBehind (fun r => (r = 0 → (∀ x : Int32, x = nI i + 1 → wY_nearest_2 post (nI n) 1 f_fresh f_many f_tells f_last f_runs f_stopped a_actKind a_actV a_actC a_endKind a_endV a_endX a_endY a_number a_before a_behind a_reached a_todo a_words a_coming a_values a_told a_variables m x)) ∧ (¬ r = 0 → (∃ n47 : Nat, wY_nearest_47 post (wY_nearest_2 post (nI n) 1 f_fresh f_many f_tells f_last f_runs f_stopped a_actKind a_actV a_actC a_endKind a_endV a_endX a_endY a_number a_before a_behind a_reached a_todo a_words a_coming a_values a_told a_variables m) (nI n) 1 (nI i) f_fresh f_many f_tells f_last f_runs f_stopped a_actKind a_actV a_actC a_endKind a_endV a_endX a_endY a_number a_before a_behind a_reached a_todo a_words a_coming a_values a_told a_variables n47 1 0))) (f_fresh, f_many, f_tells, f_last, f_runs, f_stopped, a_actKind, a_actV, a_actC, a_endKind, a_endV, a_endX, a_endY, a_number, a_before, a_behind, a_reached, a_todo, a_words, a_coming, a_values, a_told, a_variables) (nI i) (nI n) := by
      refine gy_isBehind hi hn hB (fun q => ?_) (fun q => nm_r (nI_1 i) (up (fun w => q w.2.1)))
      refine pk_loop (fun m' j (s : Int32) => wY_nearest_47 post (wY_nearest_2 post (nI n) 1 f_fresh f_many f_tells f_last f_runs f_stopped a_actKind a_actV a_actC a_endKind a_endV a_endX a_endY a_number a_before a_behind a_reached a_todo a_words a_coming a_values a_told a_variables m) (nI n) 1 (nI i) f_fresh f_many f_tells f_last f_runs f_stopped a_actKind a_actV a_actC a_endKind a_endV a_endX a_endY a_number a_before a_behind a_reached a_todo a_words a_coming a_values a_told a_variables m' s (nI j)) (fun j s => (s = 1 ∧ ∀ e, e < j → e ≠ n → e ≠ i → gs_bh ek ex ey e n → gs_bh ek ex ey e i) ∨ (s = 0 ∧ ∃ e, e < 16 ∧ e ≠ n ∧ gs_bh ek ex ey e n ∧ ¬ gs_bh ek ex ey e i)) 16 0 1 (by omega) (Or.inl ⟨rfl, fun e he => absurd he (Nat.not_lt_zero e)⟩) ?_ ?_
      · rintro m' s hS
        refine br_t gx_x16 ?_
        rcases hS with ⟨z1, z2⟩ | ⟨z1, f, z2, z3, z4, z5⟩
        · rw [z1]
          refine br_f (by decide) (h _ (Or.inl ⟨i, hi, rfl, ⟨e, q, fun f hf hfn hC => ?_⟩, hI⟩))
          by_cases fe : f = i
          · subst fe
            exact hR f n hC
          · exact z2 f hf hfn fe hC
        · rw [z1]
          exact br_t rfl (nm_r (nI_1 i) (up (fun w => z5 (w.2.2 f z2 z3 z4))))
      · rintro m' j s hj hS ihj
        have keep : (j ≠ n → j ≠ i → gs_bh ek ex ey j n → gs_bh ek ex ey j i) → wY_nearest_47 post (wY_nearest_2 post (nI n) 1 f_fresh f_many f_tells f_last f_runs f_stopped a_actKind a_actV a_actC a_endKind a_endV a_endX a_endY a_number a_before a_behind a_reached a_todo a_words a_coming a_values a_told a_variables m) (nI n) 1 (nI i) f_fresh f_many f_tells f_last f_runs f_stopped a_actKind a_actV a_actC a_endKind a_endV a_endX a_endY a_number a_before a_behind a_reached a_todo a_words a_coming a_values a_told a_variables m' s (nI (j + 1)) := fun w => ihj s (hS.imp (fun z => ⟨z.1, fun f hf y1 y2 y3 => by
          by_cases fe : f = j
          · subst fe
            exact w y1 y2 y3
          · exact z.2 f (by omega) y1 y2 y3⟩) id)
        refine br_f (gx_16 hj) (pk_eq j n (fun w => nm_r (nI_1 j) (keep (fun y => absurd w y))) (fun w1 => pk_eq j i (fun w => nm_r (nI_1 j) (keep (fun _ y => absurd w y))) (fun w2 => ?_)))
        have inner : wpY_isBehind (fun r => (r = 0 → wY_nearest_97 post (wY_nearest_2 post (nI n) 1 f_fresh f_many f_tells f_last f_runs f_stopped a_actKind a_actV a_actC a_endKind a_endV a_endX a_endY a_number a_before a_behind a_reached a_todo a_words a_coming a_values a_told a_variables m) (wY_nearest_47 post (wY_nearest_2 post (nI n) 1 f_fresh f_many f_tells f_last f_runs f_stopped a_actKind a_actV a_actC a_endKind a_endV a_endX a_endY a_number a_before a_behind a_reached a_todo a_words a_coming a_values a_told a_variables m) (nI n) 1 (nI i) f_fresh f_many f_tells f_last f_runs f_stopped a_actKind a_actV a_actC a_endKind a_endV a_endX a_endY a_number a_before a_behind a_reached a_todo a_words a_coming a_values a_told a_variables m') (nI n) 1 (nI i) s (nI j) f_fresh f_many f_tells f_last f_runs f_stopped a_actKind a_actV a_actC a_endKind a_endV a_endX a_endY a_number a_before a_behind a_reached a_todo a_words a_coming a_values a_told a_variables) ∧ (¬ r = 0 → wpY_isBehind (fun r => (r = 0 → wY_nearest_126 post (wY_nearest_2 post (nI n) 1 f_fresh f_many f_tells f_last f_runs f_stopped a_actKind a_actV a_actC a_endKind a_endV a_endX a_endY a_number a_before a_behind a_reached a_todo a_words a_coming a_values a_told a_variables m) (wY_nearest_47 post (wY_nearest_2 post (nI n) 1 f_fresh f_many f_tells f_last f_runs f_stopped a_actKind a_actV a_actC a_endKind a_endV a_endX a_endY a_number a_before a_behind a_reached a_todo a_words a_coming a_values a_told a_variables m) (nI n) 1 (nI i) f_fresh f_many f_tells f_last f_runs f_stopped a_actKind a_actV a_actC a_endKind a_endV a_endX a_endY a_number a_before a_behind a_reached a_todo a_words a_coming a_values a_told a_variables m') (nI n) 1 (nI i) s (nI j) 1 f_fresh f_many f_tells f_last f_runs f_stopped a_actKind a_actV a_actC a_endKind a_endV a_endX a_endY a_number a_before a_behind a_reached a_todo a_words a_coming a_values a_told a_variables) ∧ (¬ r = 0 → wY_nearest_97 post (wY_nearest_2 post (nI n) 1 f_fresh f_many f_tells f_last f_runs f_stopped a_actKind a_actV a_actC a_endKind a_endV a_endX a_endY a_number a_before a_behind a_reached a_todo a_words a_coming a_values a_told a_variables m) (wY_nearest_47 post (wY_nearest_2 post (nI n) 1 f_fresh f_many f_tells f_last f_runs f_stopped a_actKind a_actV a_actC a_endKind a_endV a_endX a_endY a_number a_before a_behind a_reached a_todo a_words a_coming a_values a_told a_variables m) (nI n) 1 (nI i) f_fresh f_many f_tells f_last f_runs f_stopped a_actKind a_actV a_actC a_endKind a_endV a_endX a_endY a_number a_before a_behind a_reached a_todo a_words a_coming a_values a_told a_variables m') (nI n) 1 (nI i) s (nI j) f_fresh f_many f_tells f_last f_runs f_stopped a_actKind a_actV a_actC a_endKind a_endV a_endX a_endY a_number a_before a_behind a_reached a_todo a_words a_coming a_values a_told a_variables)) (f_fresh, f_many, f_tells, f_last, f_runs, f_stopped, a_actKind, a_actV, a_actC, a_endKind, a_endV, a_endX, a_endY, a_number, a_before, a_behind, a_reached, a_todo, a_words, a_coming, a_values, a_told, a_variables) (nI j) (nI i))) (f_fresh, f_many, f_tells, f_last, f_runs, f_stopped, a_actKind, a_actV, a_actC, a_endKind, a_endV, a_endX, a_endY, a_number, a_before, a_behind, a_reached, a_todo, a_words, a_coming, a_values, a_told, a_variables) (nI j) (nI n) :=
          gy_isBehind hj hn hB (fun y => gy_isBehind hj hi hB (fun x => br_t rfl (nm_r (nI_1 j) (keep (fun _ _ _ => x)))) (fun x => br_f (by decide) (nm_r (nI_1 j) (ihj 0 (Or.inr ⟨rfl, j, hj, w1, y, x⟩))))) (fun y => br_t rfl (nm_r (nI_1 j) (keep (fun _ _ z => absurd z y))))
        exact br_f (by decide) inner
    exact br_f (by decide) body
end
