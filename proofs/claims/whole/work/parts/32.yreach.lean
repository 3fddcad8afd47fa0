/-! Y: reach -/
section
variable {f_fresh f_many f_tells f_last f_runs f_stopped : Int32} {a_actKind a_actV a_actC a_endKind a_endV a_endX a_endY a_number a_before a_behind a_reached a_todo a_words a_coming a_values a_told a_variables : Nat → Int32} {ek ex ey ak av ac ev : Nat → Nat}
/-- what holds of Y's walk: the nodes still to do, those reached; X n: n is being looked at, its successors below k are done -/
def gy_RI (E : Nat → Nat → Prop) (C : Nat → Prop) (a : Nat) (st : List Nat) (rb : Nat → Int32) (X : Nat → Prop) : Prop :=
  (∀ n, n < 16 → rb n = 0 ∨ rb n = 1) ∧ (∀ n, n ∈ st → n < 16 ∧ rb n = 1) ∧ (∀ n, n < 16 → rb n = 1 → C n) ∧ (∀ n, n < 16 → rb n = 1 → n ∉ st → ¬ X n → ∀ k, k < 16 → E n k → rb k = 1) ∧ rb a = 1 ∧ st.length ≤ gs_cn (fun n => decide (rb n = 1)) 16
def gy_mu (st : List Nat) (rb : Nat → Int32) : Nat := 2 * (16 - gs_cn (fun n => decide (rb n = 1)) 16) + st.length
theorem gy_RI_push {E : Nat → Nat → Prop} {C : Nat → Prop} {a : Nat} {st : List Nat} {rb : Nat → Int32} {X : Nat → Prop} {s : Nat} (h : gy_RI E C a st rb X) (hs : s < 16) (h0 : rb s = 0) (hC : C s) : gy_RI E C a (s :: st) (upd rb s 1) X ∧ gy_mu (s :: st) (upd rb s 1) < gy_mu st rb := by
  obtain ⟨h1, h2, h3, h4, h5, h6⟩ := h
  have up : ∀ n, rb n = 1 → upd rb s 1 n = 1 := fun n hn => by
    by_cases e : n = s
    · subst e
      exact pk_us
    · exact (pk_un e).trans hn
  have cn := gs_cn_ins (P := fun n => decide (rb n = 1)) (Q := fun n => decide (upd rb s 1 n = 1)) 16 hs (by rw [h0]; decide) (fun i _ => by
    by_cases e : i = s
    · subst e
      rw [pk_us]
      simp
    · rw [pk_un e]
      simp [e])
  have le := gs_cn_le (fun n => decide (upd rb s 1 n = 1)) 16
  refine ⟨⟨fun n hn => ?_, fun n hn => ?_, fun n hn q => ?_, fun n hn q w x k hk e => ?_, up a h5, ?_⟩, ?_⟩
  · by_cases e : n = s
    · subst e
      exact Or.inr pk_us
    · rw [pk_un e]
      exact h1 n hn
  · rcases List.mem_cons.mp hn with rfl | hn
    · exact ⟨hs, pk_us⟩
    · exact ⟨(h2 n hn).1, up n (h2 n hn).2⟩
  · by_cases e : n = s
    · exact e ▸ hC
    · rw [pk_un e] at q
      exact h3 n hn q
  · have ns : n ≠ s := fun z => w (List.mem_cons.mpr (Or.inl z))
    rw [pk_un ns] at q
    exact up k (h4 n hn q (fun z => w (List.mem_cons_of_mem _ z)) x k hk e)
  · simp only [List.length_cons]
    omega
  · unfold gy_mu
    simp only [List.length_cons]
    omega
theorem gy_RI_pop {E : Nat → Nat → Prop} {C : Nat → Prop} {a n : Nat} {st : List Nat} {rb : Nat → Int32} (h : gy_RI E C a (n :: st) rb (fun _ => False)) : gy_RI E C a st rb (fun m => m = n) ∧ gy_mu st rb < gy_mu (n :: st) rb := by
  obtain ⟨h1, h2, h3, h4, h5, h6⟩ := h
  simp only [List.length_cons] at h6
  refine ⟨⟨h1, fun m hm => h2 m (List.mem_cons_of_mem _ hm), h3, fun m hm q w x k hk e => h4 m hm q (fun z => ?_) id k hk e, h5, by omega⟩, ?_⟩
  · rcases List.mem_cons.mp z with z | z
    · exact x z
    · exact w z
  · unfold gy_mu
    simp only [List.length_cons]
    omega
/-- the inner walk of reach over the successors of n -/
theorem gy_reach_72 {post : SY → Prop} {J46 : Int32 → (Nat → Int32) → (Nat → Int32) → (Nat → Int32) → (Nat → Int32) → (Nat → Int32) → (Nat → Int32) → (Nat → Int32) → (Nat → Int32) → (Nat → Int32) → (Nat → Int32) → (Nat → Int32) → (Nat → Int32) → (Nat → Int32) → (Nat → Int32) → (Nat → Int32) → (Nat → Int32) → (Nat → Int32) → Prop} {w : Int32} {W : Nat → Prop} {a n : Nat} {st : List Nat} {rb td : Nat → Int32} (GE : gy_GE ek ev ex ey a_endKind a_endV a_endX a_endY) (hW : ∀ x, x < 16 → (nI x = w ↔ W x)) (hn : n < 16) (hr : rb n = 1) (hc : gs_W ek ex ey W a n) (h0 : gy_RI (fun j k => gs_E ek ex ey j k ∧ ¬ W k) (gs_W ek ex ey W a) a st rb (fun m => m = n)) (hst : gs_st td st)
    (h : ∀ st' rb' td', gy_RI (fun j k => gs_E ek ex ey j k ∧ ¬ W k) (gs_W ek ex ey W a) a st' rb' (fun _ => False) → gs_st td' st' → gy_mu st' rb' ≤ gy_mu st rb → J46 (nI st'.length) a_actKind a_actV a_actC a_endKind a_endV a_endX a_endY a_number a_before a_behind rb' td' a_words a_coming a_values a_told a_variables) : ∃ m, wY_reach_72 post J46 w (nI n) (nI (gs_af ek ex ey n)) f_fresh f_many f_tells f_last f_runs f_stopped m (nI st.length) 0 a_actKind a_actV a_actC a_endKind a_endV a_endX a_endY a_number a_before a_behind rb td a_words a_coming a_values a_told a_variables := by
  have hx := GE.2.1
  have hy := GE.2.2.1
  have af2 := gs_af_le ek ex ey n
  refine pk_loop (fun m i (s : List Nat × (Nat → Int32) × (Nat → Int32)) => wY_reach_72 post J46 w (nI n) (nI (gs_af ek ex ey n)) f_fresh f_many f_tells f_last f_runs f_stopped m (nI s.1.length) (nI i) a_actKind a_actV a_actC a_endKind a_endV a_endX a_endY a_number a_before a_behind s.2.1 s.2.2 a_words a_coming a_values a_told a_variables) (fun i s => gy_RI (fun j k => gs_E ek ex ey j k ∧ ¬ W k) (gs_W ek ex ey W a) a s.1 s.2.1 (fun m => m = n) ∧ gs_st s.2.2 s.1 ∧ gy_mu s.1 s.2.1 ≤ gy_mu st rb ∧ ∀ k, k < i → ¬ W (gs_ns ex ey n k) → s.2.1 (gs_ns ex ey n k) = 1) (gs_af ek ex ey n) 0 (st, rb, td) (by omega) ⟨h0, hst, Nat.le_refl _, fun k hk => absurd hk (Nat.not_lt_zero k)⟩ ?_ ?_
  · rintro m ⟨st1, rb1, td1⟩ ⟨⟨r1, r2, r3, r4, r5, r6⟩, q2, q3, q4⟩
    refine br_t (nI_le (Nat.le_refl _) (by omega)) (h _ _ _ ⟨r1, r2, r3, fun p hp z1 z2 z3 k hk e => ?_, r5, r6⟩ q2 q3)
    by_cases e1 : p = n
    · subst e1
      obtain ⟨k', k1, k2⟩ := (gs_E_af ek ex ey GE.1).mp e.1
      subst k2
      exact q4 k' k1 e.2
    · exact r4 p hp z1 z2 e1 k hk e
  · rintro m i ⟨st1, rb1, td1⟩ hi ⟨q1, q2, q3, q4⟩ ih
    dsimp only at q1 q2 q3 q4
    have s16 := gs_ns_lt hx hy n i
    refine br_f (nI_ge hi (by omega)) (gy_succ GE hn hi (br_c (fun z => ?_) (fun z => ⟨gx_in s16, ?_⟩)))
    · have zW := (hW _ s16).mp z
      refine nm_r (nI_1 i) (ih (st1, rb1, td1) ⟨q1, q2, q3, fun k hk x => ?_⟩)
      by_cases e : k = i
      · subst e
        exact absurd zW x
      · exact q4 k (by omega) x
    · have zW : ¬ W (gs_ns ex ey n i) := fun y => z ((hW _ s16).mpr y)
      have hE : gs_E ek ex ey n (gs_ns ex ey n i) := (gs_E_af ek ex ey GE.1).mpr ⟨i, hi, rfl⟩
      dsimp only
      rw [gx_cl s16]
      refine br_c (fun y => ?_) (fun y => ?_)
      · have pu := gy_RI_push q1 s16 y (gs_cl_s hc ⟨hE, zW⟩)
        have cl := pu.1.2.2.2.2.2
        have le := gs_cn_le (fun p => decide (upd rb1 (gs_ns ex ey n i) 1 p = 1)) 16
        simp only [List.length_cons] at cl
        refine ⟨gx_in s16, nm_r (e' := upd rb1 (gs_ns ex ey n i) 1) rfl (nm_r (nI_1 _) ⟨vp_in_nI (by omega) (by decide), nm_r (e' := upd td1 st1.length (nI (gs_ns ex ey n i))) (by rw [nI_clamp (by omega)]) (nm_r (nI_1 i) (ih (gs_ns ex ey n i :: st1, upd rb1 (gs_ns ex ey n i) 1, upd td1 st1.length (nI (gs_ns ex ey n i))) ⟨pu.1, gs_st_push q2, by have := pu.2; dsimp only; omega, fun k hk x => ?_⟩))⟩)⟩
        by_cases e : gs_ns ex ey n k = gs_ns ex ey n i
        · dsimp only
          rw [e]
          exact pk_us
        · have : k ≠ i := fun z => e (by rw [z])
          exact (pk_un e).trans (q4 k (by omega) x)
      · refine nm_r (nI_1 i) (ih (st1, rb1, td1) ⟨q1, q2, q3, fun k hk x => ?_⟩)
        by_cases e : k = i
        · subst e
          exact (q1.1 _ s16).resolve_left y
        · exact q4 k (by omega) x
theorem gy_reach {post : SY → Prop} {w : Int32} {W : Nat → Prop} {a : Nat} (GE : gy_GE ek ev ex ey a_endKind a_endV a_endX a_endY) (hW : ∀ x, x < 16 → (nI x = w ↔ W x)) (ha : a < 16)
    (h : ∀ rb td, (∀ n, n < 16 → (rb n = 1 ∧ gs_W ek ex ey W a n) ∨ (rb n = 0 ∧ ¬ gs_W ek ex ey W a n)) → post (f_fresh, f_many, f_tells, f_last, f_runs, f_stopped, a_actKind, a_actV, a_actC, a_endKind, a_endV, a_endX, a_endY, a_number, a_before, a_behind, rb, td, a_words, a_coming, a_values, a_told, a_variables)) : wpY_reach post (f_fresh, f_many, f_tells, f_last, f_runs, f_stopped, a_actKind, a_actV, a_actC, a_endKind, a_endV, a_endX, a_endY, a_number, a_before, a_behind, a_reached, a_todo, a_words, a_coming, a_values, a_told, a_variables) (nI a) w := by
  have hx := GE.2.1
  have hy := GE.2.2.1
  refine pk_loop (fun m i (s : Nat → Int32) => wY_reach_2 post (nI a) w f_fresh f_many f_tells f_last f_runs f_stopped m (nI i) a_actKind a_actV a_actC a_endKind a_endV a_endX a_endY a_number a_before a_behind s a_todo a_words a_coming a_values a_told a_variables) (fun i s => ∀ j, j < i → s j = 0) 16 0 a_reached (by omega) (fun j hj => absurd hj (Nat.not_lt_zero j)) ?_ ?_
  · rintro m s0 hI0
    refine br_t gx_x16 (br_c (fun z => ?_) (fun z => ?_))
    · have zW := (hW a ha).mp z
      exact h s0 a_todo (fun n hn => Or.inr ⟨hI0 n hn, fun q => gs_W_a q zW⟩)
    · have zW : ¬ W a := fun y => z ((hW a ha).mpr y)
      refine nm_r (e' := nI 1) rfl (nm_e ⟨gx_in ha, nm_r (e' := upd s0 a 1) (by rw [gx_cl ha]; rfl) ?_⟩)
      have c1 := gs_cn_pos (P := fun n => decide (upd s0 a 1 n = 1)) (i := a) 16 ha (by rw [pk_us]; rfl)
      refine loop_m (fun m (s : List Nat × (Nat → Int32) × (Nat → Int32)) => wY_reach_46 post w f_fresh f_many f_tells f_last f_runs f_stopped m (nI s.1.length) a_actKind a_actV a_actC a_endKind a_endV a_endX a_endY a_number a_before a_behind s.2.1 s.2.2 a_words a_coming a_values a_told a_variables) (fun s => gy_RI (fun j k => gs_E ek ex ey j k ∧ ¬ W k) (gs_W ek ex ey W a) a s.1 s.2.1 (fun _ => False) ∧ gs_st s.2.2 s.1) (fun s => gy_mu s.1 s.2.1) ?_ ([a], upd s0 a 1, upd a_todo 0 (nI a)) ?_
      · rintro m ⟨st, rb, td⟩ ⟨q1, q2⟩ ih
        dsimp only at q1 q2
        cases st with
        | nil =>
          refine br_t (show nI 0 ≤ (0 : Int32) by decide) (h rb td (fun n hn => ?_))
          obtain ⟨r1, r2, r3, r4, r5, r6⟩ := q1
          have cls : ∀ n, gs_W ek ex ey W a n → n < 16 ∧ rb n = 1 := by
            intro n hw
            refine gs_cl_i hw (fun n => n < 16 ∧ rb n = 1) ?_ ?_
            · rintro j ⟨rfl, _⟩
              exact ⟨ha, r5⟩
            · rintro j k _ ⟨s1, s2⟩ ⟨e1, e2⟩
              have k16 := gs_E_lt ek ex ey hx hy e1
              exact ⟨k16, r4 j s1 s2 (fun z => nomatch z) id k k16 ⟨e1, e2⟩⟩
          rcases r1 n hn with y | y
          · exact Or.inr ⟨y, fun q => by rw [(cls n q).2] at y; exact absurd y (by decide)⟩
          · exact Or.inl ⟨y, r3 n hn y⟩
        | cons n st =>
          have len := q1.2.2.2.2.2
          have le := gs_cn_le (fun p => decide (rb p = 1)) 16
          simp only [List.length_cons] at len
          have hn := q1.2.1 n List.mem_cons_self
          have pp := gy_RI_pop q1
          refine br_f (nI_nle (by simp) (by simp only [List.length_cons]; omega)) (nm_r (e' := nI st.length) (pk_m1 _) ⟨vp_in_nI (by omega) (by decide), nm_r (e' := nI n) (by rw [nI_clamp (by omega)]; exact q2.1) (gy_after GE hn.1 ?_)⟩)
          refine gy_reach_72 GE hW hn.1 hn.2 (q1.2.2.1 n hn.1 hn.2) pp.1 q2.2 (fun st' rb' td' z1 z2 z3 => ih (st', rb', td') ⟨z1, z2⟩ ?_)
          have := pp.2
          have z3 : gy_mu st' rb' ≤ gy_mu st rb := z3
          dsimp only
          omega
      · refine ⟨⟨fun n hn => ?_, fun n hn => ?_, fun n hn q => ?_, fun n hn q x => ?_, pk_us, c1⟩, ⟨rfl, trivial⟩⟩
        · by_cases e : n = a
          · subst e
            exact Or.inr pk_us
          · exact Or.inl ((pk_un e).trans (hI0 n hn))
        · rcases List.mem_cons.mp hn with rfl | hn
          · exact ⟨ha, pk_us⟩
          · cases hn
        · by_cases e : n = a
          · subst e
            exact gs_W_r zW
          · have := (pk_un e).symm.trans q
            rw [hI0 n hn] at this
            exact absurd this (by decide)
        · by_cases e : n = a
          · subst e
            exact absurd List.mem_cons_self x
          · have := (pk_un e).symm.trans q
            rw [hI0 n hn] at this
            exact absurd this (by decide)
  · rintro m i s hi hI ih
    refine br_f (gx_16 hi) ⟨gx_in hi, nm_r (e' := upd s i 0) (by rw [gx_cl hi]; rfl) (nm_r (nI_1 i) (ih _ (fun j hj => ?_)))⟩
    by_cases e : j = i
    · subst e
      exact pk_us
    · exact (pk_un e).trans (hI j (by omega))
theorem gy_stops {post : Int32 → SY → Prop} {w : Int32} {W : Nat → Prop} {a : Nat} (GE : gy_GE ek ev ex ey a_endKind a_endV a_endX a_endY) (hW : ∀ x, x < 16 → (nI x = w ↔ W x)) (ha : a < 16)
    (h : ∀ r rb td, (r = 1 ∧ gs_Sp ek ex ey W a) ∨ (r = 0 ∧ ¬ gs_Sp ek ex ey W a) → post r (f_fresh, f_many, f_tells, f_last, f_runs, f_stopped, a_actKind, a_actV, a_actC, a_endKind, a_endV, a_endX, a_endY, a_number, a_before, a_behind, rb, td, a_words, a_coming, a_values, a_told, a_variables)) : wpY_stops post (f_fresh, f_many, f_tells, f_last, f_runs, f_stopped, a_actKind, a_actV, a_actC, a_endKind, a_endV, a_endX, a_endY, a_number, a_before, a_behind, a_reached, a_todo, a_words, a_coming, a_values, a_told, a_variables) (nI a) w := by
  have hx := GE.2.1
  have hy := GE.2.2.1
  unfold wpY_stops
  refine gy_reach GE hW ha (fun rb td hr => ?_)
  have E16 : ∀ n, gs_W ek ex ey W a n → n < 16 := fun n hw => gs_cl_i hw (fun n => n < 16) (fun j e => e.1 ▸ ha) (fun _ _ _ _ e => gs_E_lt ek ex ey hx hy e.1)
  refine pk_loop (fun m i (_ : Unit) => wY_stops_8 post f_fresh f_many f_tells f_last f_runs f_stopped a_actKind a_actV a_actC a_endKind a_endV a_endX a_endY a_number a_before a_behind rb td a_words a_coming a_values a_told a_variables m (nI i)) (fun i _ => ∀ n, n < i → ¬ (gs_W ek ex ey W a n ∧ ek n = 0)) 16 0 () (by omega) (fun j hj => absurd hj (Nat.not_lt_zero j)) ?_ ?_
  · rintro m _ hI
    exact br_t gx_x16 (h 0 rb td (Or.inr ⟨rfl, fun ⟨n, q1, q2⟩ => hI n (E16 n q1) ⟨q1, q2⟩⟩))
  · rintro m i _ hi hI ih
    have up : ¬ (gs_W ek ex ey W a i ∧ ek i = 0) → ∀ n, n < i + 1 → ¬ (gs_W ek ex ey W a n ∧ ek n = 0) := fun q n hn => by
      by_cases e : n = i
      · exact e ▸ q
      · exact hI n (by omega)
    have k2 := GE.1 i
    have e0 : (a_endKind (nI i).toNatClampNeg = 0) ↔ ek i = 0 := by
      rw [gx_cl hi, GE.2.2.2.2.1]
      exact nI_eq (b := 0) (by omega) (by decide)
    refine br_f (gx_16 hi) ⟨gx_in hi, ?_⟩
    rw [gx_cl hi]
    have e0 : (a_endKind i = 0) ↔ ek i = 0 := by
      rw [← e0, gx_cl hi]
    rcases hr i hi with ⟨z1, z2⟩ | ⟨z1, z2⟩
    · rw [z1]
      exact br_f (by decide) ⟨gx_in hi, br_c (fun y => h 1 rb td (Or.inl ⟨rfl, i, z2, e0.mp y⟩)) (fun y => nm_r (nI_1 i) (ih () (up (fun q => y (e0.mpr q.2)))))⟩
    · rw [z1]
      exact br_t rfl (nm_r (nI_1 i) (ih () (up (fun q => z2 q.1))))
end
