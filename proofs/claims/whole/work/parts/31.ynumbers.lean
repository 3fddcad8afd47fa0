/-! Y: the numbers -/
def gs_st3 (f : Nat → Nat) (a b : Nat → Int32) : List (Nat × Nat) → Prop
  | [] => True
  | e :: t => a t.length = nI e.1 ∧ b t.length = nI (min e.2 (f e.1)) ∧ gs_st3 f a b t
theorem gs_st3_a {f : Nat → Nat} {a b : Nat → Int32} {k : Nat} {v : Int32} : ∀ (l : List (Nat × Nat)), l.length ≤ k → gs_st3 f a b l → gs_st3 f (upd a k v) b l
  | [], _, _ => trivial
  | e :: t, hk, h => by
    simp only [List.length_cons] at hk
    exact ⟨(pk_un (by omega)).trans h.1, h.2.1, gs_st3_a t (by omega) h.2.2⟩
theorem gs_st3_b {f : Nat → Nat} {a b : Nat → Int32} {k : Nat} {v : Int32} : ∀ (l : List (Nat × Nat)), l.length ≤ k → gs_st3 f a b l → gs_st3 f a (upd b k v) l
  | [], _, _ => trivial
  | e :: t, hk, h => by
    simp only [List.length_cons] at hk
    exact ⟨h.1, (pk_un (by omega)).trans h.2.1, gs_st3_b t (by omega) h.2.2⟩
def gs_nb (num : Nat → Int32) : List Nat → Prop
  | [] => True
  | n :: t => num n = nI t.length ∧ gs_nb num t
theorem gs_nb_upd {num : Nat → Int32} {k : Nat} {v : Int32} : ∀ (l : List Nat), k ∉ l → gs_nb num l → gs_nb (upd num k v) l
  | [], _, _ => trivial
  | n :: t, hk, h => ⟨(pk_un (show n ≠ k from fun z => hk (List.mem_cons.mpr (Or.inl z.symm)))).trans h.1, gs_nb_upd t (fun z => hk (List.mem_cons_of_mem _ z)) h.2⟩
theorem gs_nb_ix {num : Nat → Int32} {n : Nat} : ∀ (l : List Nat), n ∈ l → gs_nb num l → num n = nI (l.length - 1 - gs_ix l n)
  | [], hm, _ => by cases hm
  | x :: t, hm, h => by
    unfold gs_ix
    by_cases e : x = n
    · rw [if_pos e, ← e, h.1, List.length_cons]
      rfl
    · have hm2 : n ∈ t := (List.mem_cons.mp hm).elim (fun z => absurd z.symm e) id
      rw [if_neg e, gs_nb_ix t hm2 h.2, List.length_cons]
      congr 1
      omega
section
variable {f_fresh f_many f_tells f_last f_runs f_stopped : Int32} {a_actKind a_actV a_actC a_endKind a_endV a_endX a_endY a_number a_before a_behind a_reached a_todo a_words a_coming a_values a_told a_variables : Nat → Int32} {ek ex ey ak av ac ev : Nat → Nat}
/-- Y leaves a node where the pure machine still looks at a side that shows nothing new -/
theorem gs_skip (hk2 : ∀ n, ek n ≤ 2) {n k : Nat} {t : List (Nat × Nat)} {sn : Nat → Bool} {lv : List Nat} (h : gs_Inv ek ex ey ((n, k) :: t) sn lv) (ha : gs_af ek ex ey n ≤ k) : ∃ i, gs_it (gs_ds ek ex ey) i ((n, k) :: t, sn, lv) = (t, sn, n :: lv) := by
  have hk : k ≤ 2 := (h.1 (n, k) List.mem_cons_self).2.1
  have k3 := hk2 n
  have no : ∀ j, gs_af ek ex ey n ≤ j → j < 2 → 1 ≤ k ∨ ek n = 0 → ∀ s, gs_sc ek ex ey n j = some s → sn s = true := by
    intro j hj hj2 h0 s hs
    unfold gs_af at hj
    by_cases e0 : ek n = 0
    · unfold gs_sc at hs
      rw [if_neg (by omega), if_neg (by omega)] at hs
      exact nomatch hs
    · rw [if_neg e0] at hj
      by_cases e1 : ek n = 1
      · rw [if_pos (Or.inl e1)] at hj
        unfold gs_sc at hs
        rw [if_neg (by omega), if_neg (by omega)] at hs
        exact nomatch hs
      · by_cases exy : ex n = ey n
        · rw [if_pos (Or.inr exy)] at hj
          have e2 : ek n = 2 := by omega
          have s0 : gs_sc ek ex ey n 0 = some (ex n) := by unfold gs_sc; rw [if_pos e2, if_pos rfl]
          have s1 : gs_sc ek ex ey n j = some (ey n) := by unfold gs_sc; rw [if_pos e2, if_neg (by omega)]
          have se : s = ey n := Option.some.inj (hs.symm.trans s1)
          rw [se, ← exy]
          rcases h0 with h0 | h0
          · exact h.2.2.2.2.2.2.1 (n, k) List.mem_cons_self 0 h0 (ex n) s0
          · omega
        · rw [if_neg (by omega)] at hj
          omega
  have h0 : 1 ≤ k ∨ ek n = 0 := by
    by_cases q : ek n = 0
    · exact Or.inr q
    · left
      unfold gs_af at ha
      rw [if_neg q] at ha
      split at ha <;> omega
  have hc : k = 0 ∨ k = 1 ∨ k = 2 := by omega
  rcases hc with c | c | c
  · subst c
    refine ⟨3, ?_⟩
    show gs_ds ek ex ey (gs_ds ek ex ey (gs_ds ek ex ey ((n, 0) :: t, sn, lv))) = _
    rw [gs_ds_step (by omega) (no 0 ha (by omega) h0), gs_ds_step (by omega) (no 1 (by omega) (by omega) h0), gs_ds_pop]
  · subst c
    refine ⟨2, ?_⟩
    show gs_ds ek ex ey (gs_ds ek ex ey ((n, 1) :: t, sn, lv)) = _
    rw [gs_ds_step (by omega) (no 1 ha (by omega) h0), gs_ds_pop]
  · subst c
    exact ⟨1, gs_ds_pop (ek := ek) (ex := ex) (ey := ey)⟩
theorem gs_sc_ns {n k : Nat} (hk2 : ∀ n, ek n ≤ 2) (h : k < gs_af ek ex ey n) : gs_sc ek ex ey n k = some (gs_ns ex ey n k) := by
  have k3 := hk2 n
  unfold gs_af at h
  unfold gs_sc gs_ns
  by_cases e0 : ek n = 0
  · rw [if_pos e0] at h
    omega
  · rw [if_neg e0] at h
    by_cases e1 : ek n = 1
    · rw [if_pos (Or.inl e1)] at h
      rw [if_neg (by omega), if_pos ⟨e1, by omega⟩, if_pos (by omega)]
    · rw [if_pos (by omega)]
      split <;> rfl
/-- what Y's going through holds of the pure one: left, depth, number, reached, todo, words -/
def gy_DS (ek ex ey : Nat → Nat) (S : List (Nat × Nat) × (Nat → Bool) × List Nat) (s : Int32 × Int32 × (Nat → Int32) × (Nat → Int32) × (Nat → Int32) × (Nat → Int32)) : Prop :=
  s.1 = nI S.2.2.length ∧ s.2.1 = nI S.1.length ∧ gs_nb s.2.2.1 S.2.2 ∧ (∀ n, n < 16 → n ∉ S.2.2 → s.2.2.1 n = -1) ∧ (∀ n, n < 16 → s.2.2.2.1 n = if S.2.1 n = true then 1 else 0) ∧ gs_st3 (gs_af ek ex ey) s.2.2.2.2.1 s.2.2.2.2.2 S.1
theorem gy_num_172 {post : SY → Prop} (hx : ∀ n, ex n < 16) (hy : ∀ n, ey n < 16) {x1 : Int32} (hc : x1 = nI (gs_lv ek ex ey).length) (h1 : gs_nb a_number (gs_lv ek ex ey)) (h2 : ∀ n, n < 16 → n ∉ gs_lv ek ex ey → a_number n = -1)
    (h : ∀ nu, gy_NU ek ex ey nu → post (f_fresh, f_many, f_tells, f_last, f_runs, f_stopped, a_actKind, a_actV, a_actC, a_endKind, a_endV, a_endX, a_endY, nu, a_before, a_behind, a_reached, a_todo, a_words, a_coming, a_values, a_told, a_variables)) : ∃ m, wY_numbers_172 post x1 f_fresh f_many f_tells f_last f_runs f_stopped m 0 a_actKind a_actV a_actC a_endKind a_endV a_endX a_endY a_number a_before a_behind a_reached a_todo a_words a_coming a_values a_told a_variables := by
  have L := gs_lv_len (ek := ek) hx hy
  have one : ∀ n, n < 16 → (gs_sn ek ex ey n = true ∧ a_number n = nI ((gs_lv ek ex ey).length - 1 - gs_nu ek ex ey n)) ∨ (¬ gs_sn ek ex ey n = true ∧ a_number n = -1) := by
    intro n hn
    by_cases z : gs_sn ek ex ey n = true
    · exact Or.inl ⟨z, gs_nb_ix _ ((gs_sn_lv hx hy).mp z) h1⟩
    · exact Or.inr ⟨z, h2 n hn (fun q => z ((gs_sn_lv hx hy).mpr q))⟩
  refine pk_loop (fun m i (s : Nat → Int32) => wY_numbers_172 post x1 f_fresh f_many f_tells f_last f_runs f_stopped m (nI i) a_actKind a_actV a_actC a_endKind a_endV a_endX a_endY s a_before a_behind a_reached a_todo a_words a_coming a_values a_told a_variables) (fun i s => (∀ n, i ≤ n → s n = a_number n) ∧ ∀ n, n < i → (gs_sn ek ex ey n = true ∧ s n = nI (gs_nu ek ex ey n)) ∨ (¬ gs_sn ek ex ey n = true ∧ s n = -1)) 16 0 a_number (by omega) ⟨fun _ _ => rfl, fun j hj => absurd hj (Nat.not_lt_zero j)⟩ ?_ ?_
  · rintro m s hI
    exact br_t gx_x16 (h s hI.2)
  · rintro m i s hi hI ih
    have hs := hI.1 i (Nat.le_refl _)
    refine br_f (gx_16 hi) ⟨gx_in hi, ?_⟩
    rw [gx_cl hi, hs]
    rcases one i hi with ⟨z1, z2⟩ | ⟨z1, z2⟩
    · have nl := gs_nu_lt hx hy z1
      rw [z2]
      refine br_f (nI_pos (by omega)) ⟨gx_in hi, gx_in hi, nm_r (e' := upd s i (nI (gs_nu ek ex ey i))) ?_ (nm_r (nI_1 i) (ih _ ⟨fun n hn => ?_, fun n hn => ?_⟩))⟩
      · rw [hc, show (1 : Int32) = nI 1 from rfl, pk_sub (by omega), pk_sub (by omega)]
        congr 2
        omega
      · rw [pk_un (by omega)]
        exact hI.1 n (by omega)
      · by_cases e : n = i
        · subst e
          exact Or.inl ⟨z1, pk_us⟩
        · rw [pk_un e]
          exact hI.2 n (by omega)
    · rw [z2]
      refine br_t (by decide) (nm_r (nI_1 i) (ih _ ⟨fun n hn => hI.1 n (by omega), fun n hn => ?_⟩))
      by_cases e : n = i
      · subst e
        exact Or.inr ⟨z1, by rw [hs, z2]⟩
      · exact hI.2 n (by omega)
theorem gy_numbers {post : SY → Prop} (GE : gy_GE ek ev ex ey a_endKind a_endV a_endX a_endY)
    (h : ∀ nu re td wo, gy_NU ek ex ey nu → post (f_fresh, f_many, f_tells, f_last, f_runs, f_stopped, a_actKind, a_actV, a_actC, a_endKind, a_endV, a_endX, a_endY, nu, a_before, a_behind, re, td, wo, a_coming, a_values, a_told, a_variables)) : wpY_numbers post (f_fresh, f_many, f_tells, f_last, f_runs, f_stopped, a_actKind, a_actV, a_actC, a_endKind, a_endV, a_endX, a_endY, a_number, a_before, a_behind, a_reached, a_todo, a_words, a_coming, a_values, a_told, a_variables) := by
  have hk2 := GE.1
  have hx := GE.2.1
  have hy := GE.2.2.1
  refine pk_loop (fun m i (s : (Nat → Int32) × (Nat → Int32)) => wY_numbers_2 post f_fresh f_many f_tells f_last f_runs f_stopped m (nI i) a_actKind a_actV a_actC a_endKind a_endV a_endX a_endY s.1 a_before a_behind s.2 a_todo a_words a_coming a_values a_told a_variables) (fun i s => ∀ j, j < i → s.1 j = -1 ∧ s.2 j = 0) 16 0 (a_number, a_reached) (by omega) (fun j hj => absurd hj (Nat.not_lt_zero j)) ?_ ?_
  · rintro m s0 hI0
    refine br_t gx_x16 (nm_e (nm_e (nm_r (e' := upd s0.2 0 1) rfl ?_)))
    refine loop_m (fun m (s : (List (Nat × Nat) × (Nat → Bool) × List Nat) × (Int32 × Int32 × (Nat → Int32) × (Nat → Int32) × (Nat → Int32) × (Nat → Int32))) => wY_numbers_53 post f_fresh f_many f_tells f_last f_runs f_stopped m s.2.1 s.2.2.1 a_actKind a_actV a_actC a_endKind a_endV a_endX a_endY s.2.2.2.1 a_before a_behind s.2.2.2.2.1 s.2.2.2.2.2.1 s.2.2.2.2.2.2 a_coming a_values a_told a_variables) (fun s => (∃ i, gs_it (gs_ds ek ex ey) i gs_d0 = s.1) ∧ gy_DS ek ex ey s.1 s.2) (fun s => gs_mu s.1) ?_ (gs_d0, (0, 1, s0.1, upd s0.2 0 1, upd a_todo 0 0, upd a_words 0 0)) ?_
    · rintro m ⟨⟨stk, sn, lv⟩, ⟨x1, x2, num, re, td, wo⟩⟩ ⟨⟨i, hi⟩, i1, i2, i3, i4, i5, i6⟩ ih
      have inv := gs_itinv (ek := ek) hx hy i
      have fin := gs_end (ek := ek) hx hy (i := i)
      rw [hi] at inv fin
      dsimp only at i1 i2 i3 i4 i5 i6 inv fin
      have len := gs_Inv_len inv
      cases stk with
      | nil =>
        have fin := fin rfl
        have fl : lv = gs_lv ek ex ey := congrArg (fun z => z.2.2) fin
        refine br_t (by dsimp only; rw [i2]; decide) ?_
        subst fl
        exact gy_num_172 hx hy i1 i3 i4 (fun nu hnu => h nu _ _ _ hnu)
      | cons e t =>
        obtain ⟨n, k⟩ := e
        simp only [List.length_cons] at len
        have tl : t.length < 16 := by omega
        have hn := (inv.1 (n, k) List.mem_cons_self)
        have hn16 : n < 16 := hn.1
        have hk3 : k ≤ 2 := hn.2.1
        have i2' : x2 = nI (t.length + 1) := i2
        have e1 : x2 - 1 = nI t.length := by rw [i2']; exact nI_pred _
        have in600 : vp_in (x2 - 1) 600 := by rw [e1]; exact vp_in_nI (by omega) (by decide)
        have cl : (x2 - 1).toNatClampNeg = t.length := by rw [e1]; exact nI_clamp (by omega)
        have aw : wo (x2 - 1).toNatClampNeg = nI (min k (gs_af ek ex ey n)) := by rw [cl]; exact i6.2.1
        have af2 := gs_af_le ek ex ey n
        refine br_f (by dsimp only; rw [i2']; exact nI_nle (by omega) (by omega)) ⟨in600, nm_r (e' := nI n) (by dsimp only; rw [cl]; exact i6.1) ⟨in600, in600, nm_r (e' := upd wo t.length (nI (min k (gs_af ek ex ey n) + 1))) (by dsimp only; rw [aw, cl, nI_1]) (nm_r (e' := nI (min k (gs_af ek ex ey n))) aw (gy_after GE hn16 ?_))⟩⟩
        refine pk_eq (min k (gs_af ek ex ey n)) (gs_af ek ex ey n) (fun z => ?_) (fun z => gy_after GE hn16 ?_)
        · have inv2 : gs_Inv ek ex ey t sn (n :: lv) := by
            obtain ⟨q, hq⟩ := gs_skip hk2 inv (by omega)
            have := gs_it_inv (f := gs_ds ek ex ey) (fun S => gs_Inv ek ex ey S.1 S.2.1 S.2.2) (fun S h => gs_ds_inv hx hy S h) q ((n, k) :: t, sn, lv) inv
            rw [hq] at this
            exact this
          have len2 := (gs_Inv_len inv2).2
          simp only [List.length_cons] at len2
          have nl : n ∉ lv := inv2.2.2.2.1.1
          refine nm_r (e' := nI (lv.length + 1)) (by dsimp only; rw [i1, nI_1]) ⟨gx_in hn16, nm_r (e' := upd num n (nI lv.length)) (by dsimp only; rw [gx_cl hn16, i1]) (nm_r (e' := nI t.length) (by dsimp only; rw [i2', pk_m1]) ?_)⟩
          refine ih ((t, sn, n :: lv), (nI (lv.length + 1), nI t.length, upd num n (nI lv.length), re, td, upd wo t.length (nI (min k (gs_af ek ex ey n) + 1)))) ⟨?_, rfl, rfl, ⟨pk_us, gs_nb_upd lv nl i3⟩, fun q hq hq2 => ?_, i5, gs_st3_b t (Nat.le_refl _) i6.2.2⟩ ?_
          · obtain ⟨q, hq⟩ := gs_skip hk2 inv (by omega)
            exact ⟨q + i, by rw [gs_it_add, hi, hq]⟩
          · have q1 : q ≠ n := fun w => hq2 (w ▸ List.mem_cons_self)
            exact (pk_un q1).trans (i4 q hq (fun w => hq2 (List.mem_cons_of_mem _ w)))
          · simp only [gs_mu, gs_sz]
            omega
        · have ka : k < gs_af ek ex ey n := by omega
          have mk : min k (gs_af ek ex ey n) = k := by omega
          rw [mk]
          have k2 : k < 2 := by omega
          have sc := gs_sc_ns (ek := ek) hk2 ka
          have s16 := gs_ns_lt hx hy n k
          have rs := i5 _ s16
          refine br_f (nI_ge ka (by omega)) (gy_succ GE hn16 ka ⟨gx_in s16, ?_⟩)
          rw [gx_cl s16]
          have mu := gs_ds_mu hx hy ((n, k) :: t, sn, lv) inv (by simp)
          by_cases q : sn (gs_ns ex ey n k) = true
          · have st := gs_ds_step (ek := ek) (t := t) (lv := lv) k2 (fun s hs => by rw [← Option.some.inj (sc.symm.trans hs)]; exact q)
            rw [st] at mu
            rw [if_pos q] at rs
            refine br_f (by dsimp only; rw [rs]; decide) ?_
            refine ih (((n, k + 1) :: t, sn, lv), (x1, x2, num, re, td, upd wo t.length (nI (k + 1)))) ⟨⟨1 + i, by rw [gs_it_add, hi]; exact st⟩, i1, i2, i3, i4, i5, ⟨i6.1, ?_, gs_st3_b t (Nat.le_refl _) i6.2.2⟩⟩ mu
            rw [show min (k + 1) (gs_af ek ex ey n) = k + 1 by omega]
            exact pk_us
          · have st := gs_ds_push (ek := ek) (t := t) (lv := lv) k2 sc q
            have inv2 := gs_Inv_push hx hy inv k2 sc q
            have len2 := (gs_Inv_len inv2).1
            simp only [List.length_cons] at len2
            rw [st] at mu
            rw [if_neg q] at rs
            have c2 : x2.toNatClampNeg = t.length + 1 := by rw [i2']; exact nI_clamp (by omega)
            have in2 : vp_in x2 600 := by rw [i2']; exact vp_in_nI (by omega) (by decide)
            refine br_t rs (gy_succ GE hn16 ka ⟨in2, nm_r (e' := upd td (t.length + 1) (nI (gs_ns ex ey n k))) (by dsimp only; rw [c2]) ⟨in2, ?_⟩⟩)
            dsimp only
            rw [c2, pk_us]
            refine ⟨gx_in s16, nm_r (e' := upd re (gs_ns ex ey n k) 1) (by rw [gx_cl s16]; rfl) ⟨in2, nm_e (nm_r (e' := nI (t.length + 2)) (by rw [i2', nI_1]) ?_)⟩⟩
            refine ih (((gs_ns ex ey n k, 0) :: (n, k + 1) :: t, (fun j => sn j || decide (j = gs_ns ex ey n k)), lv), (x1, nI (t.length + 2), num, upd re (gs_ns ex ey n k) 1, upd td (t.length + 1) (nI (gs_ns ex ey n k)), upd (upd wo t.length (nI (k + 1))) (t.length + 1) 0)) ⟨⟨1 + i, by rw [gs_it_add, hi]; exact st⟩, i1, rfl, i3, i4, fun j hj => ?_, ⟨pk_us, ?_, ?_⟩⟩ mu
            · show upd re (gs_ns ex ey n k) 1 j = if (sn j || decide (j = gs_ns ex ey n k)) = true then 1 else 0
              by_cases e : j = gs_ns ex ey n k
              · subst e
                rw [pk_us, decide_eq_true rfl, Bool.or_true, if_pos rfl]
              · rw [pk_un e, decide_eq_false e, Bool.or_false]
                exact i5 j hj
            · rw [Nat.zero_min]
              exact pk_us
            · refine gs_st3_b _ (Nat.le_refl _) (gs_st3_a _ (Nat.le_refl _) ⟨i6.1, ?_, gs_st3_b t (Nat.le_refl _) i6.2.2⟩)
              rw [show min (k + 1) (gs_af ek ex ey n) = k + 1 by omega]
              exact pk_us
    · refine ⟨⟨0, rfl⟩, rfl, rfl, trivial, fun n hn _ => (hI0 n hn).1, fun n hn => ?_, ⟨rfl, ?_, trivial⟩⟩
      · show upd s0.2 0 1 n = if decide (n = 0) = true then 1 else 0
        by_cases e : n = 0
        · subst e
          rfl
        · rw [pk_un e, if_neg (fun z => e (decide_eq_true_iff.mp z))]
          exact (hI0 n hn).2
      · rw [Nat.zero_min]
        rfl
  · rintro m i s hi hI ih
    refine br_f (gx_16 hi) ⟨gx_in hi, nm_r (e' := upd s.1 i (-1)) (by rw [gx_cl hi]) ⟨gx_in hi, nm_r (e' := upd s.2 i 0) (by rw [gx_cl hi]; rfl) (nm_r (nI_1 i) (ih (_, _) (fun j hj => ?_)))⟩⟩
    by_cases e : j = i
    · subst e
      exact ⟨pk_us, pk_us⟩
    · exact ⟨(pk_un e).trans (hI j (by omega)).1, (pk_un e).trans (hI j (by omega)).2⟩
end
