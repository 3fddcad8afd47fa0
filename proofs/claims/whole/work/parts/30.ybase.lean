/-! Y: small things -/
theorem gy_b1 : vp_nar .boolean 1 = 1 := rfl
theorem gy_b0 : vp_nar .boolean 0 = 0 := rfl
theorem gy_in {A B : Prop} {p M : Int32} {m : Nat} (hM : M = nI m) (hm : m < 2 ^ 31) (ht : ∀ n, n ≤ m → p = nI n → B) (hf : (∀ n, n ≤ m → p ≠ nI n) → A) : wpY_in (fun r => (r = 0 → A) ∧ (¬ r = 0 → B)) p 0 M := by
  subst hM
  refine br_c (fun z => br_t rfl (hf (fun n hn e => ?_))) (fun z => ?_)
  · subst e
    exact nI_pos (by omega) z
  · obtain ⟨j, hj, rfl⟩ := nI_of z
    refine pk_lt m j (fun w => br_t rfl (hf (fun n hn e => ?_))) (fun w => br_f (by decide) (ht j w rfl))
    have := (nI_eq hj (by omega)).mp e
    omega
/-- the ends and acts as Y holds them -/
def gy_GE (ek ev ex ey : Nat → Nat) (a_endKind a_endV a_endX a_endY : Nat → Int32) : Prop :=
  (∀ n, ek n ≤ 2) ∧ (∀ n, ex n < 16) ∧ (∀ n, ey n < 16) ∧ (∀ n, ev n < 4) ∧ (∀ n, a_endKind n = nI (ek n)) ∧ (∀ n, ek n ≠ 0 → a_endX n = nI (ex n)) ∧ (∀ n, ek n = 2 → a_endY n = nI (ey n)) ∧ (∀ n, ek n = 2 → a_endV n = nI (ev n))
def gy_GA (ak av ac : Nat → Nat) (a_actKind a_actV a_actC : Nat → Int32) : Prop :=
  (∀ n, ak n ≤ 5) ∧ (∀ n, av n < 4) ∧ (∀ n, ac n < 16) ∧ (∀ n, ak n = 3 → ac n < 4) ∧ (∀ n, a_actKind n = nI (ak n)) ∧ (∀ n, ak n ≠ 0 → a_actV n = nI (av n)) ∧ (∀ n, ak n = 1 ∨ ak n = 2 ∨ ak n = 3 → a_actC n = nI (ac n))
def gy_NU (ek ex ey : Nat → Nat) (a_number : Nat → Int32) : Prop := ∀ n, n < 16 → (gs_sn ek ex ey n = true ∧ a_number n = nI (gs_nu ek ex ey n)) ∨ (¬ gs_sn ek ex ey n = true ∧ a_number n = -1)
section
variable {f_fresh f_many f_tells f_last f_runs f_stopped : Int32} {a_actKind a_actV a_actC a_endKind a_endV a_endX a_endY a_number a_before a_behind a_reached a_todo a_words a_coming a_values a_told a_variables : Nat → Int32} {ek ex ey ak av ac ev : Nat → Nat}
theorem gy_after {post : Int32 → Prop} {n : Nat} (GE : gy_GE ek ev ex ey a_endKind a_endV a_endX a_endY) (hn : n < 16) (h : post (nI (gs_af ek ex ey n))) : wpY_after post (f_fresh, f_many, f_tells, f_last, f_runs, f_stopped, a_actKind, a_actV, a_actC, a_endKind, a_endV, a_endX, a_endY, a_number, a_before, a_behind, a_reached, a_todo, a_words, a_coming, a_values, a_told, a_variables) (nI n) := by
  obtain ⟨g1, g2, g3, g4, g5, g6, g7, g8⟩ := GE
  have k2 := g1 n
  have eK : ∀ b, b < 3 → (a_endKind (nI n).toNatClampNeg = nI b ↔ ek n = b) := fun b hb => by
    rw [gx_cl hn, g5]
    exact nI_eq (by omega) (by omega)
  unfold gs_af at h
  refine ⟨gx_in hn, br_c (fun z => ?_) (fun z => ⟨gx_in hn, br_c (fun y => ?_) (fun y => ⟨gx_in hn, gx_in hn, ?_⟩)⟩)⟩
  · rw [if_pos ((eK 0 (by omega)).mp z)] at h
    exact h
  · have y1 := (eK 1 (by omega)).mp y
    rw [if_neg (by omega), if_pos (Or.inl y1)] at h
    exact h
  · have z0 : ¬ ek n = 0 := fun q => z ((eK 0 (by omega)).mpr q)
    have y1 : ¬ ek n = 1 := fun q => y ((eK 1 (by omega)).mpr q)
    rw [if_neg z0] at h
    have e : (a_endX (nI n).toNatClampNeg = a_endY (nI n).toNatClampNeg) ↔ ex n = ey n := by
      rw [gx_cl hn, g6 n z0, g7 n (by omega)]
      exact nI_eq (by have := g2 n; omega) (by have := g3 n; omega)
    refine br_c (fun q => ?_) (fun q => ?_)
    · rw [if_pos (Or.inr (e.mp q))] at h
      exact h
    · rw [if_neg (fun w => w.elim y1 (fun w => q (e.mpr w)))] at h
      exact h
theorem gy_succ {post : Int32 → Prop} {n k : Nat} (GE : gy_GE ek ev ex ey a_endKind a_endV a_endX a_endY) (hn : n < 16) (hk : k < gs_af ek ex ey n) (h : post (nI (gs_ns ex ey n k))) : wpY_successor post (f_fresh, f_many, f_tells, f_last, f_runs, f_stopped, a_actKind, a_actV, a_actC, a_endKind, a_endV, a_endX, a_endY, a_number, a_before, a_behind, a_reached, a_todo, a_words, a_coming, a_values, a_told, a_variables) (nI n) (nI k) := by
  obtain ⟨g1, g2, g3, g4, g5, g6, g7, g8⟩ := GE
  have k2 := g1 n
  have hk2 := gs_af_le ek ex ey n
  have k3 : k < 2 := by omega
  unfold gs_af at hk
  unfold gs_ns at h
  have z0 : ¬ ek n = 0 := fun q => by rw [if_pos q] at hk; omega
  rw [if_neg z0] at hk
  refine pk_eq k 0 (fun e => ⟨gx_in hn, ?_⟩) (fun e => ⟨gx_in hn, ?_⟩)
  · rw [if_pos e] at h
    rw [gx_cl hn, g6 n z0]
    exact h
  · rw [if_neg e] at h
    have q : ¬ (ek n = 1 ∨ ex n = ey n) := fun q => by rw [if_pos q] at hk; omega
    rw [gx_cl hn, g7 n (by omega)]
    exact h
theorem gs_ns_lt (hx : ∀ n, ex n < 16) (hy : ∀ n, ey n < 16) (n k : Nat) : gs_ns ex ey n k < 16 := by
  unfold gs_ns
  split
  · exact hx n
  · exact hy n
theorem gy_leads {A B : Prop} {n s : Nat} (GE : gy_GE ek ev ex ey a_endKind a_endV a_endX a_endY) (hn : n < 16) (hs : s < 16) (ht : gs_E ek ex ey n s → B) (hf : ¬ gs_E ek ex ey n s → A) : wpY_leads (fun r => (r = 0 → A) ∧ (¬ r = 0 → B)) (f_fresh, f_many, f_tells, f_last, f_runs, f_stopped, a_actKind, a_actV, a_actC, a_endKind, a_endV, a_endX, a_endY, a_number, a_before, a_behind, a_reached, a_todo, a_words, a_coming, a_values, a_told, a_variables) (nI n) (nI s) := by
  have GE' := GE
  obtain ⟨g1, g2, g3, g4, g5, g6, g7, g8⟩ := GE
  have hE := gs_E_af ek ex ey g1 (n := n) (s := s)
  have hx := g2 n
  have hy := g3 n
  have hk2 := gs_af_le ek ex ey n
  unfold wpY_leads
  refine gy_after GE' hn ?_
  have af0 : gs_af ek ex ey n ≠ 0 → ¬ ek n = 0 := fun w q => w (if_pos q)
  have af2 : gs_af ek ex ey n = 2 → ek n = 2 := fun w => by
    have := g1 n
    unfold gs_af at w
    by_cases q : ek n = 0
    · rw [if_pos q] at w; omega
    · rw [if_neg q] at w
      by_cases q1 : ek n = 1
      · rw [if_pos (Or.inl q1)] at w; omega
      · omega
  have last : (gs_af ek ex ey n ≠ 0 → ex n ≠ s) → wY_leads_20 (fun r => (r = 0 → A) ∧ (¬ r = 0 → B)) (nI n) (nI s) (nI (gs_af ek ex ey n)) f_fresh f_many f_tells f_last f_runs f_stopped a_actKind a_actV a_actC a_endKind a_endV a_endX a_endY a_number a_before a_behind a_reached a_todo a_words a_coming a_values a_told a_variables := by
    intro hne
    refine pk_le (gs_af ek ex ey n) 1 (fun w => br_t rfl (hf (fun q => ?_))) (fun w => ⟨gx_in hn, br_c (fun y => br_f (by decide) (ht ?_)) (fun y => br_t rfl (hf (fun q => ?_)))⟩)
    · obtain ⟨k, k1, k2⟩ := hE.mp q
      have : k = 0 := by omega
      subst this
      exact hne (by omega) k2
    · have e2 := af2 (by omega)
      rw [gx_cl hn, g7 n e2, nI_eq (by omega) (by omega)] at y
      exact Or.inr ⟨e2, Or.inr y⟩
    · have e2 := af2 (by omega)
      obtain ⟨k, k1, k2⟩ := hE.mp q
      unfold gs_ns at k2
      by_cases k0 : k = 0
      · rw [if_pos k0] at k2
        exact hne (by omega) k2
      · rw [if_neg k0] at k2
        apply y
        rw [gx_cl hn, g7 n e2, k2]
  refine pk_le (gs_af ek ex ey n) 0 (fun w => last (fun q => absurd (Nat.le_zero.mp w) q)) (fun w => ⟨gx_in hn, br_c (fun y => br_f (by decide) (ht (hE.mpr ⟨0, w, ?_⟩))) (fun y => last (fun _ q => y ?_))⟩)
  · rw [gx_cl hn, g6 n (af0 (by omega)), nI_eq (by omega) (by omega)] at y
    exact y
  · rw [gx_cl hn, g6 n (af0 (by omega)), q]
theorem gy_sn {A B : Prop} {n : Nat} (hx : ∀ n, ex n < 16) (hy : ∀ n, ey n < 16) (hN : gy_NU ek ex ey a_number) (hn : n < 16) (ht : gs_sn ek ex ey n = true → B) (hf : ¬ gs_sn ek ex ey n = true → A) : wpY_seen (fun r => (r = 0 → A) ∧ (¬ r = 0 → B)) (f_fresh, f_many, f_tells, f_last, f_runs, f_stopped, a_actKind, a_actV, a_actC, a_endKind, a_endV, a_endX, a_endY, a_number, a_before, a_behind, a_reached, a_todo, a_words, a_coming, a_values, a_told, a_variables) (nI n) := by
  unfold wpY_seen
  refine gy_in (m := 15) rfl (by decide) (fun m hm e => ?_) (fun q => absurd rfl (q n (by omega)))
  refine ⟨gx_in hn, ?_⟩
  rw [gx_cl hn]
  rcases hN n hn with ⟨z1, z2⟩ | ⟨z1, z2⟩
  · have := gs_nu_lt hx hy z1
    have := gs_lv_len (ek := ek) hx hy
    rw [z2]
    exact br_f (nI_pos (by omega)) (br_f (by decide) (ht z1))
  · rw [z2]
    exact br_t (by decide) (br_t rfl (hf z1))
theorem gy_seen {A B : Prop} {p : Int32} (hx : ∀ n, ex n < 16) (hy : ∀ n, ey n < 16) (hN : gy_NU ek ex ey a_number) (ht : ∀ n, gs_sn ek ex ey n = true → p = nI n → B) (hf : (∀ n, gs_sn ek ex ey n = true → p ≠ nI n) → A) : wpY_seen (fun r => (r = 0 → A) ∧ (¬ r = 0 → B)) (f_fresh, f_many, f_tells, f_last, f_runs, f_stopped, a_actKind, a_actV, a_actC, a_endKind, a_endV, a_endX, a_endY, a_number, a_before, a_behind, a_reached, a_todo, a_words, a_coming, a_values, a_told, a_variables) p := by
  by_cases z : ∃ n, n < 16 ∧ p = nI n
  · obtain ⟨n, hn, rfl⟩ := z
    refine gy_sn hx hy hN hn (fun w => ht n w rfl) (fun w => hf (fun m hm e => w ?_))
    have m16 := gs_sn_lt hx hy hm
    have := (nI_eq (by omega) (by omega)).mp e
    exact this ▸ hm
  · unfold wpY_seen
    refine gy_in (m := 15) rfl (by decide) (fun m hm e => absurd ⟨m, by omega, e⟩ z) (fun q => br_t rfl (hf (fun n hn e => z ⟨n, gs_sn_lt hx hy hn, e⟩)))
end
