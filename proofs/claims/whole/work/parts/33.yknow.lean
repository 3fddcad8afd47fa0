/-! Y: know -/
def gy_M (a : Nat → Int32) (P : Nat → Nat → Prop) (d n : Nat) : Prop := (a (16 * d + n) = 1 ∧ P d n) ∨ (a (16 * d + n) = 0 ∧ ¬ P d n)
theorem gy_M_upd {a : Nat → Int32} {P : Nat → Nat → Prop} {d n d' n' : Nat} {v : Int32} (hn : n < 16) (hn' : n' < 16) (hne : ¬ (d' = d ∧ n' = n)) (h : gy_M a P d' n') : gy_M (upd a (16 * d + n) v) P d' n' := by
  unfold gy_M
  rw [pk_un (by omega)]
  exact h
theorem gy_M_put {a : Nat → Int32} {P : Nat → Nat → Prop} {d n : Nat} {v : Int32} (h : (v = 1 ∧ P d n) ∨ (v = 0 ∧ ¬ P d n)) : gy_M (upd a (16 * d + n) v) P d n := by
  unfold gy_M
  rw [pk_us]
  exact h
theorem gy_ix (d n : Nat) : 16 * nI d + nI n = nI (16 * d + n) := by
  rw [show (16 : Int32) = nI 16 from rfl, pk_mul, nI_add]
section
variable (ek ex ey : Nat → Nat)
def gy_VY (a_number a_before a_behind : Nat → Int32) : Prop := gy_NU ek ex ey a_number ∧ (∀ d, d < 16 → ∀ n, n < 16 → gy_M a_before (gs_bf ek ex ey) d n) ∧ (∀ d, d < 16 → ∀ n, n < 16 → gy_M a_behind (gs_bh ek ex ey) d n)
end
section
variable {f_fresh f_many f_tells f_last f_runs f_stopped : Int32} {a_actKind a_actV a_actC a_endKind a_endV a_endX a_endY a_number a_before a_behind a_reached a_todo a_words a_coming a_values a_told a_variables : Nat → Int32} {ek ex ey ak av ac ev : Nat → Nat}
theorem gy_know_33 {post : SY → Prop} {J19 : Int32 → Int32 → Int32 → Int32 → Int32 → Int32 → Int32 → (Nat → Int32) → (Nat → Int32) → (Nat → Int32) → (Nat → Int32) → (Nat → Int32) → (Nat → Int32) → (Nat → Int32) → (Nat → Int32) → (Nat → Int32) → (Nat → Int32) → (Nat → Int32) → (Nat → Int32) → (Nat → Int32) → (Nat → Int32) → (Nat → Int32) → (Nat → Int32) → (Nat → Int32) → Prop} {d : Nat} {be : Nat → Int32} (hx : ∀ n, ex n < 16) (hy : ∀ n, ey n < 16) (hN : gy_NU ek ex ey a_number) (hd : d < 16) (hr : ∀ n, n < 16 → (a_reached n = 1 ∧ gs_W ek ex ey (fun x => x = d) 0 n) ∨ (a_reached n = 0 ∧ ¬ gs_W ek ex ey (fun x => x = d) 0 n)) (h0 : ∀ d', d' < d → ∀ n, n < 16 → gy_M be (gs_bf ek ex ey) d' n)
    (h : ∀ be', (∀ d', d' < d + 1 → ∀ n, n < 16 → gy_M be' (gs_bf ek ex ey) d' n) → J19 (nI (d + 1)) f_fresh f_many f_tells f_last f_runs f_stopped a_actKind a_actV a_actC a_endKind a_endV a_endX a_endY a_number be' a_behind a_reached a_todo a_words a_coming a_values a_told a_variables) : ∃ m, wY_know_33 post J19 (nI d) f_fresh f_many f_tells f_last f_runs f_stopped m 0 a_actKind a_actV a_actC a_endKind a_endV a_endX a_endY a_number be a_behind a_reached a_todo a_words a_coming a_values a_told a_variables := by
  refine pk_loop (fun m i (s : Nat → Int32) => wY_know_33 post J19 (nI d) f_fresh f_many f_tells f_last f_runs f_stopped m (nI i) a_actKind a_actV a_actC a_endKind a_endV a_endX a_endY a_number s a_behind a_reached a_todo a_words a_coming a_values a_told a_variables) (fun i s => (∀ d', d' < d → ∀ n, n < 16 → gy_M s (gs_bf ek ex ey) d' n) ∧ ∀ n, n < i → gy_M s (gs_bf ek ex ey) d n) 16 0 be (by omega) ⟨h0, fun n hn => absurd hn (Nat.not_lt_zero n)⟩ ?_ ?_
  · rintro m s ⟨q1, q2⟩
    refine br_t gx_x16 (nm_r (nI_1 d) (h s (fun d' hd' n hn => ?_)))
    by_cases e : d' = d
    · subst e
      exact q2 n hn
    · exact q1 d' (by omega) n hn
  · rintro m i s hi ⟨q1, q2⟩ ih
    have put : ∀ v, (v = 1 ∧ gs_bf ek ex ey d i) ∨ (v = 0 ∧ ¬ gs_bf ek ex ey d i) → wY_know_33 post J19 (nI d) f_fresh f_many f_tells f_last f_runs f_stopped m (nI (i + 1)) a_actKind a_actV a_actC a_endKind a_endV a_endX a_endY a_number (upd s (16 * d + i) v) a_behind a_reached a_todo a_words a_coming a_values a_told a_variables := by
      intro v hv
      refine ih _ ⟨fun d' hd' n hn => gy_M_upd hi hn (by omega) (q1 d' hd' n hn), fun n hn => ?_⟩
      by_cases e : n = i
      · subst e
        exact gy_M_put hv
      · exact gy_M_upd hi (by omega) (by omega) (q2 n (by omega))
    have inn : vp_in (16 * nI d + nI i) 256 := by rw [gy_ix]; exact vp_in_nI (by omega) (by decide)
    have cl : (16 * nI d + nI i).toNatClampNeg = 16 * d + i := by rw [gy_ix]; exact nI_clamp (by omega)
    refine br_f (gx_16 hi) (gy_sn hx hy hN hd (fun sd => gy_sn hx hy hN hi (fun si => ?_) (fun si => ?_)) (fun sd => ?_))
    · refine pk_eq i d (fun e => ⟨inn, nm_r (e' := upd s (16 * d + i) 1) (by rw [cl]; rfl) (nm_r (nI_1 i) (put 1 (Or.inl ⟨rfl, e ▸ gs_bf_refl si⟩)))⟩) (fun e => ⟨gx_in hi, ?_⟩)
      rw [gx_cl hi]
      rcases hr i hi with ⟨z1, z2⟩ | ⟨z1, z2⟩
      · rw [z1]
        exact br_f (by decide) ⟨inn, nm_r (e' := upd s (16 * d + i) 0) (by rw [cl]; rfl) (nm_r (nI_1 i) (put 0 (Or.inr ⟨rfl, fun q => q.2 z2⟩)))⟩
      · rw [z1]
        exact br_t rfl ⟨inn, nm_r (e' := upd s (16 * d + i) 1) (by rw [cl]; rfl) (nm_r (nI_1 i) (put 1 (Or.inl ⟨rfl, si, z2⟩)))⟩
    · exact ⟨inn, nm_r (e' := upd s (16 * d + i) 0) (by rw [cl]; rfl) (nm_r (nI_1 i) (put 0 (Or.inr ⟨rfl, fun q => si q.1⟩)))⟩
    · exact ⟨inn, nm_r (e' := upd s (16 * d + i) 0) (by rw [cl]; rfl) (nm_r (nI_1 i) (put 0 (Or.inr ⟨rfl, fun q => sd (gs_bf_sn hx hy q)⟩)))⟩
theorem gy_know_130 {post : SY → Prop} {J99 : Int32 → Int32 → Int32 → Int32 → Int32 → Int32 → Int32 → (Nat → Int32) → (Nat → Int32) → (Nat → Int32) → (Nat → Int32) → (Nat → Int32) → (Nat → Int32) → (Nat → Int32) → (Nat → Int32) → (Nat → Int32) → (Nat → Int32) → (Nat → Int32) → (Nat → Int32) → (Nat → Int32) → (Nat → Int32) → (Nat → Int32) → (Nat → Int32) → (Nat → Int32) → Prop} {n : Nat} {x2 : Int32} (GE : gy_GE ek ev ex ey a_endKind a_endV a_endX a_endY) (hN : gy_NU ek ex ey a_number) (hn : n < 16) (ha : (x2 = 1 ∧ gs_sn ek ex ey n = true ∧ gs_Sp ek ex ey (fun _ => False) n) ∨ (x2 = 0 ∧ ¬ (gs_sn ek ex ey n = true ∧ gs_Sp ek ex ey (fun _ => False) n))) (h0 : ∀ d, d < 16 → ∀ n', n' < n → gy_M a_behind (gs_bh ek ex ey) d n')
    (h : ∀ bh re td, (∀ d, d < 16 → ∀ n', n' < n + 1 → gy_M bh (gs_bh ek ex ey) d n') → J99 (nI (n + 1)) f_fresh f_many f_tells f_last f_runs f_stopped a_actKind a_actV a_actC a_endKind a_endV a_endX a_endY a_number a_before bh re td a_words a_coming a_values a_told a_variables) : ∃ m, wY_know_130 post J99 (nI n) x2 m 0 f_fresh f_many f_tells f_last f_runs f_stopped a_actKind a_actV a_actC a_endKind a_endV a_endX a_endY a_number a_before a_behind a_reached a_todo a_words a_coming a_values a_told a_variables := by
  have hx := GE.2.1
  have hy := GE.2.2.1
  refine pk_loop (fun m i (s : (Nat → Int32) × (Nat → Int32) × (Nat → Int32)) => wY_know_130 post J99 (nI n) x2 m (nI i) f_fresh f_many f_tells f_last f_runs f_stopped a_actKind a_actV a_actC a_endKind a_endV a_endX a_endY a_number a_before s.1 s.2.1 s.2.2 a_words a_coming a_values a_told a_variables) (fun i s => (∀ d, d < 16 → ∀ n', n' < n → gy_M s.1 (gs_bh ek ex ey) d n') ∧ ∀ d, d < i → gy_M s.1 (gs_bh ek ex ey) d n) 16 0 (a_behind, a_reached, a_todo) (by omega) ⟨h0, fun n hn => absurd hn (Nat.not_lt_zero n)⟩ ?_ ?_
  · rintro m s ⟨q1, q2⟩
    refine br_t gx_x16 (nm_r (nI_1 n) (h _ _ _ (fun d hd n' hn' => ?_)))
    by_cases e : n' = n
    · subst e
      exact q2 d hd
    · exact q1 d hd n' (by omega)
  · rintro m i ⟨s1, s2, s3⟩ hi ⟨q1, q2⟩ ih
    dsimp only at q1 q2
    have put : ∀ v re td, (v = 1 ∧ gs_bh ek ex ey i n) ∨ (v = 0 ∧ ¬ gs_bh ek ex ey i n) → wY_know_130 post J99 (nI n) x2 m (nI (i + 1)) f_fresh f_many f_tells f_last f_runs f_stopped a_actKind a_actV a_actC a_endKind a_endV a_endX a_endY a_number a_before (upd s1 (16 * i + n) v) re td a_words a_coming a_values a_told a_variables := by
      intro v re td hv
      refine ih (upd s1 (16 * i + n) v, re, td) ⟨fun d hd n' hn' => gy_M_upd hn (by omega) (by omega) (q1 d hd n' hn'), fun d hd => ?_⟩
      by_cases e : d = i
      · subst e
        exact gy_M_put hv
      · exact gy_M_upd hn hn (by omega) (q2 d (by omega))
    have inn : vp_in (16 * nI i + nI n) 256 := by rw [gy_ix]; exact vp_in_nI (by omega) (by decide)
    have cl : (16 * nI i + nI n).toNatClampNeg = 16 * i + n := by rw [gy_ix]; exact nI_clamp (by omega)
    refine br_f (gx_16 hi) ?_
    rcases ha with ⟨a1, a2, a3⟩ | ⟨a1, a2⟩
    · refine br_f (by rw [a1]; decide) (gy_sn hx hy hN hi (fun si => ?_) (fun si => ?_))
      · refine pk_eq n i (fun e => ⟨inn, nm_r (e' := upd s1 (16 * i + n) 1) (by dsimp only; rw [cl]; rfl) (nm_r (nI_1 i) (put 1 s2 s3 (Or.inl ⟨rfl, a2, a3, ?_⟩)))⟩) (fun e => ?_)
        · rintro ⟨q, w1, _⟩
          exact gs_W_a w1 e
        · refine gy_stops (W := fun x => x = i) GE (fun x hx' => nI_eq (by omega) (by omega)) hn (fun r rb td hr => ?_)
          rcases hr with ⟨z1, z2⟩ | ⟨z1, z2⟩
          · rw [z1]
            exact br_f (by decide) ⟨inn, nm_r (e' := upd s1 (16 * i + n) 0) (by rw [cl]; rfl) (nm_r (nI_1 i) (put 0 rb td (Or.inr ⟨rfl, fun q => q.2.2 z2⟩)))⟩
          · rw [z1]
            exact br_t rfl ⟨inn, nm_r (e' := upd s1 (16 * i + n) 1) (by rw [cl]; rfl) (nm_r (nI_1 i) (put 1 rb td (Or.inl ⟨rfl, a2, a3, z2⟩)))⟩
      · exact ⟨inn, nm_r (e' := upd s1 (16 * i + n) 0) (by dsimp only; rw [cl]; rfl) (nm_r (nI_1 i) (put 0 s2 s3 (Or.inr ⟨rfl, fun q => si (gs_bh_sn hx hy q)⟩)))⟩
    · refine br_t a1 ⟨inn, nm_r (e' := upd s1 (16 * i + n) 0) (by dsimp only; rw [cl]; rfl) (nm_r (nI_1 i) (put 0 s2 s3 (Or.inr ⟨rfl, fun q => a2 ⟨q.1, q.2.1⟩⟩)))⟩
theorem gy_know {post : SY → Prop} (GE : gy_GE ek ev ex ey a_endKind a_endV a_endX a_endY) (V : ¬ f_fresh = 0 → gy_VY ek ex ey a_number a_before a_behind)
    (h : ∀ f_fresh a_number a_before a_behind a_reached a_todo a_words, ¬ f_fresh = 0 → gy_VY ek ex ey a_number a_before a_behind → post (f_fresh, f_many, f_tells, f_last, f_runs, f_stopped, a_actKind, a_actV, a_actC, a_endKind, a_endV, a_endX, a_endY, a_number, a_before, a_behind, a_reached, a_todo, a_words, a_coming, a_values, a_told, a_variables)) : wpY_know post (f_fresh, f_many, f_tells, f_last, f_runs, f_stopped, a_actKind, a_actV, a_actC, a_endKind, a_endV, a_endX, a_endY, a_number, a_before, a_behind, a_reached, a_todo, a_words, a_coming, a_values, a_told, a_variables) := by
  have hx := GE.2.1
  have hy := GE.2.2.1
  refine br_c (fun z => ?_) (fun z => h _ _ _ _ _ _ _ z (V z))
  refine gy_numbers GE (fun nu re td wo hN => ?_)
  refine pk_loop (fun m i (s : (Nat → Int32) × (Nat → Int32) × (Nat → Int32)) => wY_know_19 post m (nI i) 1 f_many f_tells f_last f_runs f_stopped a_actKind a_actV a_actC a_endKind a_endV a_endX a_endY nu s.1 a_behind s.2.1 s.2.2 wo a_coming a_values a_told a_variables) (fun i s => ∀ d, d < i → ∀ n, n < 16 → gy_M s.1 (gs_bf ek ex ey) d n) 16 0 (a_before, re, td) (by omega) (fun n hn => absurd hn (Nat.not_lt_zero n)) ?_ ?_
  · rintro m ⟨be, re, td⟩ hB
    dsimp only at hB
    refine br_t gx_x16 ?_
    refine pk_loop (fun m i (s : (Nat → Int32) × (Nat → Int32) × (Nat → Int32)) => wY_know_99 post m (nI i) 1 f_many f_tells f_last f_runs f_stopped a_actKind a_actV a_actC a_endKind a_endV a_endX a_endY nu be s.1 s.2.1 s.2.2 wo a_coming a_values a_told a_variables) (fun i s => ∀ d, d < 16 → ∀ n, n < i → gy_M s.1 (gs_bh ek ex ey) d n) 16 0 (a_behind, re, td) (by omega) (fun d _ n hn => absurd hn (Nat.not_lt_zero n)) ?_ ?_
    · rintro m ⟨bh, re, td⟩ hBh
      exact br_t gx_x16 (h _ _ _ _ _ _ _ (by decide) ⟨hN, hB, hBh⟩)
    · rintro m i ⟨bh, re, td⟩ hi hBh ih
      dsimp only at hBh
      refine br_f (gx_16 hi) (gy_sn hx hy hN hi (fun si => ?_) (fun si => ?_))
      · refine gy_stops (W := fun _ => False) GE (fun x hx' => ⟨fun q => gx_ne1 hx' q, fun q => q.elim⟩) hi (fun r rb td hr => ?_)
        rcases hr with ⟨z1, z2⟩ | ⟨z1, z2⟩
        · rw [z1]
          exact br_f (by decide) (gy_know_130 GE hN hi (Or.inl ⟨rfl, si, z2⟩) hBh (fun bh' re' td' hb => ih (bh', re', td') hb))
        · rw [z1]
          exact br_t rfl (gy_know_130 GE hN hi (Or.inr ⟨rfl, fun q => z2 q.2⟩) hBh (fun bh' re' td' hb => ih (bh', re', td') hb))
      · exact gy_know_130 GE hN hi (Or.inr ⟨rfl, fun q => si q.1⟩) hBh (fun bh' re' td' hb => ih (bh', re', td') hb)
  · rintro m i ⟨be, re, td⟩ hi hB ih
    dsimp only at hB
    refine br_f (gx_16 hi) (gy_reach (a := 0) (W := fun x => x = i) GE (fun x hx' => nI_eq (by omega) (by omega)) (by omega) (fun rb td' hr => ?_))
    exact gy_know_33 hx hy hN hi hr hB (fun be' hb => ih (be', rb, td') hb)
end
