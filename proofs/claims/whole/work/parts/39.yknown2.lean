/-! Y: known, the question -/
section
variable {f_fresh f_many f_tells f_last f_runs f_stopped : Int32} {a_actKind a_actV a_actC a_endKind a_endV a_endX a_endY a_number a_before a_behind a_reached a_todo a_words a_coming a_values a_told a_variables : Nat → Int32} {ek ex ey ak av ac ev : Nat → Nat}
theorem gy_runE : gy_run (f_fresh, f_many, f_tells, f_last, f_runs, f_stopped, a_actKind, a_actV, a_actC, a_endKind, a_endV, a_endX, a_endY, a_number, a_before, a_behind, a_reached, a_todo, a_words, a_coming, a_values, a_told, a_variables) = (f_runs, f_tells, f_last, f_stopped, a_variables, a_told) := rfl
theorem gs_Akn_y {n v : Nat} (hn : n < 16) (hv : v < 4) : gs_Akn ak av ac ek ev ex ey (nI n) (nI v) (gs_kd (gs_kF ak av ac ek ev ex ey (4 * n + v))) := Or.inl ⟨n, v, hn, hv, rfl, rfl, rfl⟩
theorem gs_Akn_n {p q : Int32} (z : (∀ n, n < 16 → p ≠ nI n) ∨ (∀ v, v < 4 → q ≠ nI v)) : gs_Akn ak av ac ek ev ex ey p q (-1) := Or.inr ⟨z, rfl⟩
theorem gy_k1 {post : Int32 → SY → Prop} {n v : Nat} (GE : gy_GE ek ev ex ey a_endKind a_endV a_endX a_endY) (GA : gy_GA ak av ac a_actKind a_actV a_actC) (hn : n < 16) (hv : v < 4) (h : ∀ a, post (gs_kd (gs_kF ak av ac ek ev ex ey (4 * n + v))) (f_fresh, f_many, f_tells, f_last, f_runs, f_stopped, a_actKind, a_actV, a_actC, a_endKind, a_endV, a_endX, a_endY, a_number, a_before, a_behind, a_reached, a_todo, a_words, a_coming, a, a_told, a_variables)) : ∃ m, wY_known_23 post (nI n) (nI v) f_fresh f_many f_tells f_last f_runs f_stopped m 0 a_actKind a_actV a_actC a_endKind a_endV a_endX a_endY a_number a_before a_behind a_reached a_todo a_words a_coming a_values a_told a_variables :=
  gy_known_23 (fun l hl => gy_known_53 GE GA hn hv hl h)
theorem gy_k2 {post : Int32 → SY → Prop} {p q : Int32} (no : (∀ n, n < 16 → p ≠ nI n) ∨ (∀ v, v < 4 → q ≠ nI v) → post (-1) (f_fresh, f_many, f_tells, f_last, f_runs, f_stopped, a_actKind, a_actV, a_actC, a_endKind, a_endV, a_endX, a_endY, a_number, a_before, a_behind, a_reached, a_todo, a_words, a_coming, a_values, a_told, a_variables)) (yes : ∀ n v, n < 16 → v < 4 → p = nI n → q = nI v → ∃ m, wY_known_23 post p q f_fresh f_many f_tells f_last f_runs f_stopped m 0 a_actKind a_actV a_actC a_endKind a_endV a_endX a_endY a_number a_before a_behind a_reached a_todo a_words a_coming a_values a_told a_variables) : wpY_known post (f_fresh, f_many, f_tells, f_last, f_runs, f_stopped, a_actKind, a_actV, a_actC, a_endKind, a_endV, a_endX, a_endY, a_number, a_before, a_behind, a_reached, a_todo, a_words, a_coming, a_values, a_told, a_variables) p q := by
  unfold wpY_known
  refine gy_in (m := 15) rfl (by decide) (fun n hn e => ?_) (fun z => no (Or.inl (fun n hn => z n (by omega))))
  refine gy_in (m := 3) rfl (by decide) (fun v hv e' => ?_) (fun z => no (Or.inr (fun v hv => z v (by omega))))
  exact yes n v (by omega) (by omega) e e'
theorem gy_m_known {post : Int32 → SY → Prop} {p q : Int32} (R : gy_RY ak av ac ek ev ex ey (f_fresh, f_many, f_tells, f_last, f_runs, f_stopped, a_actKind, a_actV, a_actC, a_endKind, a_endV, a_endX, a_endY, a_number, a_before, a_behind, a_reached, a_todo, a_words, a_coming, a_values, a_told, a_variables)) (h : ∀ r v, gs_Akn ak av ac ek ev ex ey p q r → gy_RY ak av ac ek ev ex ey v → gy_run v = gy_run (f_fresh, f_many, f_tells, f_last, f_runs, f_stopped, a_actKind, a_actV, a_actC, a_endKind, a_endV, a_endX, a_endY, a_number, a_before, a_behind, a_reached, a_todo, a_words, a_coming, a_values, a_told, a_variables) → post r v) : wpY_known post (f_fresh, f_many, f_tells, f_last, f_runs, f_stopped, a_actKind, a_actV, a_actC, a_endKind, a_endV, a_endX, a_endY, a_number, a_before, a_behind, a_reached, a_todo, a_words, a_coming, a_values, a_told, a_variables) p q := by
  have R' := R
  obtain ⟨GE, GA, GV⟩ := R
  refine gy_k2 (fun z => h _ _ (gs_Akn_n z) R' rfl) (fun n v hn hv e1 e2 => ?_)
  subst e1 e2
  refine gy_k1 GE GA hn hv (fun a => h _ _ (gs_Akn_y hn hv) ?_ (gy_runE.trans gy_runE.symm))
  exact ⟨GE, GA, GV⟩
end
