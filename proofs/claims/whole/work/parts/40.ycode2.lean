/-! Y: the code, on -/
def gy_wd (v : SY) : Nat → Int32 := match v with
  | (f_fresh, f_many, f_tells, f_last, f_runs, f_stopped, a_actKind, a_actV, a_actC, a_endKind, a_endV, a_endX, a_endY, a_number, a_before, a_behind, a_reached, a_todo, a_words, a_coming, a_values, a_told, a_variables) => a_words
section
variable {f_fresh f_many f_tells f_last f_runs f_stopped : Int32} {a_actKind a_actV a_actC a_endKind a_endV a_endX a_endY a_number a_before a_behind a_reached a_todo a_words a_coming a_values a_told a_variables : Nat → Int32} {ek ex ey ak av ac ev : Nat → Nat}
theorem gy_code {post : Int32 → SY → Prop} {n : Nat} {wd tk : List Nat} (GE : gy_GE ek ev ex ey a_endKind a_endV a_endX a_endY) (V : gy_VY ek ex ey a_number a_before a_behind) (hn : gs_sn ek ex ey n = true) (hw : gs_st a_words wd) (hc : gs_st a_coming tk) (hv : ∀ t, t ∈ tk → gy_vt ek ex ey t)
    (hl1 : (gs_op ek ex ey ev n (wd, tk.map (gy_rs ek ex ey))).1.length ≤ 158) (hl2 : (gs_op ek ex ey ev n (wd, tk.map (gy_rs ek ex ey))).2.length ≤ 158)
    (h : ∀ tk' w' c' re td, tk'.map (gy_rs ek ex ey) = (gs_op ek ex ey ev n (wd, tk.map (gy_rs ek ex ey))).2 → gy_c2 tk' ≤ gy_c2 tk + 2 → (∀ t, t ∈ tk' → gy_vt ek ex ey t) → gs_st w' (gs_op ek ex ey ev n (wd, tk.map (gy_rs ek ex ey))).1 → gs_st c' tk' →
      post (nI tk'.length) (f_fresh, nI (gs_op ek ex ey ev n (wd, tk.map (gy_rs ek ex ey))).1.length, f_tells, f_last, f_runs, f_stopped, a_actKind, a_actV, a_actC, a_endKind, a_endV, a_endX, a_endY, a_number, a_before, a_behind, re, td, w', c', a_values, a_told, a_variables)) :
    wpY_code post (f_fresh, nI wd.length, f_tells, f_last, f_runs, f_stopped, a_actKind, a_actV, a_actC, a_endKind, a_endV, a_endX, a_endY, a_number, a_before, a_behind, a_reached, a_todo, a_words, a_coming, a_values, a_told, a_variables) (nI n) (nI tk.length) := by
  have hx := GE.2.1
  have hy := GE.2.2.1
  have n16 := gs_sn_lt hx hy hn
  have L := gs_lv_len (ek := ek) hx hy
  have e16 : min 16 (gs_lv ek ex ey).length = (gs_lv ek ex ey).length := by omega
  unfold wpY_code
  refine gy_loop GE V n16 (fun r re td hM => ?_)
  have e15 : nI 16 + (-1) = (15 : Int32) := rfl
  unfold gs_op at hl1 hl2 h
  dsimp only at hl1 hl2 h
  rw [List.length_append] at hl2
  simp only [List.length_cons] at hl1
  have hz : r = 0 ↔ ¬ ∃ p, gs_ret ek ex ey n p := by
    rw [gs_Mk_z hM]
    constructor
    · rintro z ⟨p, hp⟩
      exact z n n16 (gs_lp_h hp)
    · rintro z i _ ⟨p, hp, _⟩
      exact z ⟨p, hp⟩
  refine br_c (fun z => br_t rfl ?_) (fun z => br_f (by decide) ?_)
  · have o1 : gs_o1 ek ex ey n (wd, tk.map (gy_rs ek ex ey)) = (wd, tk.map (gy_rs ek ex ey)) := if_neg (fun w => hz.mp z (gs_B_t.mp w))
    rw [o1] at hl1 hl2 h
    have c57 := gy_code_57 (post := post) (ev := ev) (a_reached := re) (a_todo := td) (f_fresh := f_fresh) (f_tells := f_tells) (f_last := f_last) (f_runs := f_runs) (f_stopped := f_stopped) (a_values := a_values) (a_told := a_told) (a_variables := a_variables) (a_actKind := a_actKind) (a_actV := a_actV) (a_actC := a_actC) GE V hn 16 wd tk a_words a_coming (Nat.le_refl _) hw hc hv
    rw [e16, e15] at c57
    exact ⟨17, c57 (by omega) (by omega) (fun tk' w' c' q1 q2 q3 q4 q5 => h tk' w' c' re td q1 q2 q3 q4 q5)⟩
  · have hd : gs_hd ek ex ey n = true := by
      apply gs_B_t.mpr
      apply Classical.byContradiction
      exact fun w => z (hz.mpr w)
    have o1 : gs_o1 ek ex ey n (wd, tk.map (gy_rs ek ex ey)) = ((16 + n) :: wd, (80 :: tk).map (gy_rs ek ex ey)) := by
      rw [List.map_cons, gy_rs_w (by omega)]
      exact if_pos hd
    rw [o1] at hl1 hl2 h
    have g := gs_ob_len (ek := ek) (ex := ex) (ey := ey) n (gs_lv ek ex ey).length ((16 + n) :: wd, (80 :: tk).map (gy_rs ek ex ey))
    simp only [List.length_cons, List.length_map] at g
    refine nm_r (nI_1 _) ⟨vp_in_nI (by omega) (by decide), nm_r (e' := upd a_words wd.length (nI (16 + n))) (by rw [nI_clamp (by omega)]; rw [show (16 : Int32) + nI n = nI (16 + n) from nI_add 16 n]) (nm_r (nI_1 _) ⟨vp_in_nI (by omega) (by decide), nm_r (e' := upd a_coming tk.length (nI 80)) (by rw [nI_clamp (by omega)]; rfl) ?_⟩)⟩
    have c57 := gy_code_57 (post := post) (ev := ev) (a_reached := re) (a_todo := td) (f_fresh := f_fresh) (f_tells := f_tells) (f_last := f_last) (f_runs := f_runs) (f_stopped := f_stopped) (a_values := a_values) (a_told := a_told) (a_variables := a_variables) (a_actKind := a_actKind) (a_actV := a_actV) (a_actC := a_actC) GE V hn 16 ((16 + n) :: wd) (80 :: tk) (upd a_words wd.length (nI (16 + n))) (upd a_coming tk.length (nI 80)) (Nat.le_refl _) (gs_st_push hw) (gs_st_push hc) (fun t ht => (List.mem_cons.mp ht).elim (fun e => Or.inl (by omega)) (hv t))
    rw [e16, e15] at c57
    refine ⟨17, c57 (by omega) (by omega) (fun tk' w' c' q1 q2 q3 q4 q5 => h tk' w' c' re td q1 ?_ q3 q4 q5)⟩
    have : gy_c2 (80 :: tk) = gy_c2 tk := by
      show (if 2000 ≤ 80 then 1 else 0) + gy_c2 tk = _
      rw [if_neg (by omega)]
      omega
    omega
theorem gy_way {post : Int32 → SY → Prop} {n s : Nat} {tk : List Nat} (GE : gy_GE ek ev ex ey a_endKind a_endV a_endX a_endY) (V : gy_VY ek ex ey a_number a_before a_behind) (hn : gs_sn ek ex ey n = true) (hs : gs_sn ek ex ey s = true) (hc : gs_st a_coming tk) (hl : tk.length < 590)
    (h : ∀ t c, gy_rs ek ex ey t = gs_way ek ex ey n s → t < 2000 → gy_vt ek ex ey t → gs_st c (t :: tk) → post (nI (t :: tk).length) (f_fresh, f_many, f_tells, f_last, f_runs, f_stopped, a_actKind, a_actV, a_actC, a_endKind, a_endV, a_endX, a_endY, a_number, a_before, a_behind, a_reached, a_todo, a_words, c, a_values, a_told, a_variables)) : wpY_way post (f_fresh, f_many, f_tells, f_last, f_runs, f_stopped, a_actKind, a_actV, a_actC, a_endKind, a_endV, a_endX, a_endY, a_number, a_before, a_behind, a_reached, a_todo, a_words, a_coming, a_values, a_told, a_variables) (nI n) (nI s) (nI tk.length) := by
  have hx := GE.2.1
  have hy := GE.2.2.1
  have n16 := gs_sn_lt hx hy hn
  have s16 := gs_sn_lt hx hy hs
  have hl2 := (gy_nu_lt hx hy V.1 hn hs).1
  have put : ∀ t, gy_rs ek ex ey t = gs_way ek ex ey n s → t < 2000 → gy_vt ek ex ey t → ∀ x, x = nI t → vp_in (nI tk.length) 600 ∧ ∀ c, c = upd a_coming (nI tk.length).toNatClampNeg x → post (nI tk.length + 1) (f_fresh, f_many, f_tells, f_last, f_runs, f_stopped, a_actKind, a_actV, a_actC, a_endKind, a_endV, a_endX, a_endY, a_number, a_before, a_behind, a_reached, a_todo, a_words, c, a_values, a_told, a_variables) := by
    intro t e1 e2 e3 x hx'
    refine ⟨vp_in_nI (by omega) (by decide), nm_r (e' := upd a_coming tk.length (nI t)) (by rw [nI_clamp (by omega), hx']) ?_⟩
    rw [nI_1]
    exact h t _ e1 e2 e3 (gs_st_push hc)
  refine ⟨gx_in s16, gx_in n16, br_c (fun z => ?_) (fun z => ?_)⟩
  · have z' := hl2.mp z
    refine gy_isMeeting GE V s16 (fun q => put (112 + s) ?_ (by omega) (Or.inl (by omega)) _ (nI_add 112 s)) (fun q => put (1000 + s) ?_ (by omega) (Or.inr (Or.inl ⟨s, s16, rfl⟩)) _ (nI_add 1000 s))
    · rw [gy_rs_w (by omega)]
      unfold gs_way
      rw [if_neg (by omega), if_pos (gs_B_t.mpr q)]
    · rw [gy_rs_c s16]
      unfold gs_way
      rw [if_neg (by omega), if_neg (fun w => q (gs_B_t.mp w))]
  · have z' : ¬ gs_nu ek ex ey n < gs_nu ek ex ey s := fun w => z (hl2.mpr w)
    refine put (96 + s) ?_ (by omega) (Or.inl (by omega)) _ (nI_add 96 s)
    rw [gy_rs_w (by omega)]
    unfold gs_way
    rw [if_pos (by omega)]
theorem gs_ci_i (hk : ∀ n, ek n ≤ 2) (hx : ∀ n, ex n < 16) (hy : ∀ n, ey n < 16) (hv : ∀ n, ev n < 4) {i : Nat} (h : (gs_ci ek ex ey ev i).2 ≠ []) : i ≤ 127 := by
  obtain ⟨b, _, h2⟩ := gs_CS_i (ev := ev) hk hx hy hv i
  rw [← gs_ci_eq] at h2
  rcases h2 with h2 | h2
  · exact absurd h2 h
  · omega
theorem gy_write {post : SY → Prop} (GE : gy_GE ek ev ex ey a_endKind a_endV a_endX a_endY) (V : gy_VY ek ex ey a_number a_before a_behind)
    (h : ∀ w c re td, gs_st w (gs_cF ek ex ey ev).1 → post (f_fresh, nI (gs_cF ek ex ey ev).1.length, f_tells, f_last, f_runs, f_stopped, a_actKind, a_actV, a_actC, a_endKind, a_endV, a_endX, a_endY, a_number, a_before, a_behind, re, td, w, c, a_values, a_told, a_variables)) : wpY_write post (f_fresh, f_many, f_tells, f_last, f_runs, f_stopped, a_actKind, a_actV, a_actC, a_endKind, a_endV, a_endX, a_endY, a_number, a_before, a_behind, a_reached, a_todo, a_words, a_coming, a_values, a_told, a_variables) := by
  have hk := GE.1
  have hx := GE.2.1
  have hy := GE.2.2.1
  have hv := GE.2.2.2.1
  refine nm_r (e' := nI 1) rfl (nm_r (e' := upd a_coming 0 (nI 1000)) rfl ?_)
  refine loop_m (fun m (s : (Nat × List Nat × List Nat) × (Nat → Int32) × (Nat → Int32) × (Nat → Int32) × (Nat → Int32)) => wY_write_19 post m (nI s.1.2.2.length) f_fresh (nI s.1.2.1.length) f_tells f_last f_runs f_stopped a_actKind a_actV a_actC a_endKind a_endV a_endX a_endY a_number a_before a_behind s.2.2.2.1 s.2.2.2.2 s.2.1 s.2.2.1 a_values a_told a_variables) (fun s => gs_ci ek ex ey ev s.1.1 = (s.1.2.1, s.1.2.2.map (gy_rs ek ex ey)) ∧ (∀ t, t ∈ s.1.2.2 → gy_vt ek ex ey t) ∧ gs_st s.2.1 s.1.2.1 ∧ gs_st s.2.2.1 s.1.2.2) (fun s => 3 * (128 - s.1.1) + gy_c2 s.1.2.2) ?_ ((0, [], [1000]), a_words, upd a_coming 0 (nI 1000), a_reached, a_todo) ?_
  · rintro m ⟨⟨i, wd, tk⟩, w, c, re, td⟩ ⟨i1, i2, i3, i4⟩ ih
    dsimp only at i1 i2 i3 i4
    have st := gs_ci_s ek ex ey ev i
    obtain ⟨b, cs⟩ := gs_ci_CS (ev := ev) hk hx hy hv i
    obtain ⟨b2, cs2⟩ := gs_ci_CS (ev := ev) hk hx hy hv (i + 1)
    have fin := gs_ci_end (ev := ev) hk hx hy hv (i := i)
    have i127 := gs_ci_i (ev := ev) hk hx hy hv (i := i)
    rw [st] at cs2
    rw [i1] at st cs cs2 fin i127
    cases tk with
    | nil =>
      refine br_t (show nI 0 ≤ (0 : Int32) by decide) ?_
      have f := fin rfl
      rw [← f] at h
      exact h w c re td i3
    | cons q r =>
      have i127 := i127 (by simp)
      have len := gs_CS_len cs
      have len2 := gs_CS_len cs2
      simp only [List.map_cons, List.length_cons, List.length_map] at len
      rw [List.map_cons] at st cs2 len2
      have vq := i2 q List.mem_cons_self
      have vr : ∀ t, t ∈ r → gy_vt ek ex ey t := fun t ht => i2 t (List.mem_cons_of_mem _ ht)
      refine br_f (nI_nle (by simp) (by simp only [List.length_cons]; omega)) (nm_r (e' := nI r.length) (pk_m1 _) ⟨vp_in_nI (by omega) (by decide), nm_r (e' := nI q) (by rw [nI_clamp (by omega)]; exact i4.1) ?_⟩)
      rcases vq with vq | ⟨n, n16, rfl⟩ | ⟨n, s, sn, ss, rfl⟩
      · have e1 : gs_cs ek ex ey ev (wd, gy_rs ek ex ey q :: r.map (gy_rs ek ex ey)) = (q :: wd, r.map (gy_rs ek ex ey)) := by
          rw [gy_rs_w vq]
          exact if_pos vq
        rw [e1] at st
        refine br_f (nI_ge (b := 1000) (by omega) (by decide)) (nm_r (nI_1 wd.length) ⟨vp_in_nI (n := wd.length) (by omega) (by decide), nm_r (e' := upd w wd.length (nI q)) (by show upd w (nI wd.length).toNatClampNeg (nI q) = _; rw [nI_clamp (by omega)]) ?_⟩)
        refine ih ((i + 1, q :: wd, r), upd w wd.length (nI q), c, re, td) ⟨st, vr, gs_st_push i3, i4.2⟩ ?_
        simp only [gy_c2]
        rw [if_neg (by omega)]
        omega
      · have e1 : gs_cs ek ex ey ev (wd, gy_rs ek ex ey (1000 + n) :: r.map (gy_rs ek ex ey)) = gs_op ek ex ey ev n (wd, r.map (gy_rs ek ex ey)) := by
          rw [gy_rs_c n16]
          show (if 256 + n < 256 then _ else _) = _
          rw [if_neg (by omega), Nat.add_sub_cancel_left]
        rw [e1] at st len2
        have hsn : gs_sn ek ex ey n = true := by
          obtain ⟨Wr, ci, _⟩ := cs
          rcases ci.1 (gy_rs ek ex ey (1000 + n)) (by rw [List.map_cons]; exact List.mem_cons_self) with w' | w'
          · rw [gy_rs_c n16] at w'
            omega
          · rw [gy_rs_c n16, Nat.add_sub_cancel_left] at w'
            exact w'.2
        have e2 : nI (1000 + n) - 1000 = nI n := by
          have := pk_sub (a := 1000 + n) (b := 1000) (by omega)
          rw [Nat.add_sub_cancel_left] at this
          exact this
        refine br_t (nI_le (a := 1000) (by omega) (by omega)) (br_f (nI_ge (b := 2000) (by omega) (by decide)) ?_)
        rw [e2]
        refine gy_code (ev := ev) GE V hsn i3 i4.2 vr len2.1 len2.2 (fun tk' w' c' re' td' q1 q2 q3 q4 q5 => ?_)
        refine ih ((i + 1, (gs_op ek ex ey ev n (wd, r.map (gy_rs ek ex ey))).1, tk'), w', c', re', td') ⟨?_, q3, q4, q5⟩ ?_
        · dsimp only
          rw [st, q1]
        · simp only [gy_c2]
          rw [if_neg (by omega)]
          omega
      · have n16 := gs_sn_lt hx hy sn
        have s16 := gs_sn_lt hx hy ss
        have e2 : nI (2000 + 16 * n + s) - 2000 = nI (16 * n + s) := by
          have := pk_sub (a := 2000 + 16 * n + s) (b := 2000) (by omega)
          rw [show 2000 + 16 * n + s - 2000 = 16 * n + s by omega] at this
          exact this
        refine br_t (nI_le (a := 1000) (by omega) (by omega)) (br_t (nI_le (a := 2000) (by omega) (by omega)) ⟨by decide, by decide, ?_⟩)
        rw [e2, show (16 : Int32) = nI 16 from rfl, pk_rem (by omega) (by decide) (by decide), pk_div (by omega) (by decide) (by decide), show (16 * n + s) / 16 = n by omega, show (16 * n + s) % 16 = s by omega]
        refine gy_way GE V sn ss i4.2 (by omega) (fun t c' q1 q2 q3 q4 => ?_)
        refine ih ((i, wd, t :: r), w, c', re, td) ⟨?_, fun t' ht' => ?_, i3, q4⟩ ?_
        · dsimp only
          rw [i1, List.map_cons, List.map_cons, q1, gy_rs_g s16]
        · rcases List.mem_cons.mp ht' with rfl | ht'
          · exact q3
          · exact vr t' ht'
        · simp only [gy_c2]
          rw [if_neg (by omega), if_pos (by omega)]
          omega
  · refine ⟨?_, fun t ht => ?_, trivial, ⟨rfl, trivial⟩⟩
    · dsimp only
      rw [gs_ci_0, List.map_cons, gy_rs_c (n := 0) (by omega)]
      rfl
    · rcases List.mem_cons.mp ht with rfl | ht
      · exact Or.inr (Or.inl ⟨0, by omega, rfl⟩)
      · cases ht
theorem gy_words {post : Int32 → SY → Prop} (R : gy_RY ak av ac ek ev ex ey (f_fresh, f_many, f_tells, f_last, f_runs, f_stopped, a_actKind, a_actV, a_actC, a_endKind, a_endV, a_endX, a_endY, a_number, a_before, a_behind, a_reached, a_todo, a_words, a_coming, a_values, a_told, a_variables)) (h1 : gs_strt ek ex ey → ∀ w v, gs_st w (gs_cF ek ex ey ev).1 → gy_RY ak av ac ek ev ex ey v → gy_run v = gy_run (f_fresh, f_many, f_tells, f_last, f_runs, f_stopped, a_actKind, a_actV, a_actC, a_endKind, a_endV, a_endX, a_endY, a_number, a_before, a_behind, a_reached, a_todo, a_words, a_coming, a_values, a_told, a_variables) → gy_wd v = w → post (nI (gs_cF ek ex ey ev).1.length) v) (h0 : ¬ gs_strt ek ex ey → ∀ v, gy_RY ak av ac ek ev ex ey v → gy_run v = gy_run (f_fresh, f_many, f_tells, f_last, f_runs, f_stopped, a_actKind, a_actV, a_actC, a_endKind, a_endV, a_endX, a_endY, a_number, a_before, a_behind, a_reached, a_todo, a_words, a_coming, a_values, a_told, a_variables) → post (-1) v) : wpY_words post (f_fresh, f_many, f_tells, f_last, f_runs, f_stopped, a_actKind, a_actV, a_actC, a_endKind, a_endV, a_endX, a_endY, a_number, a_before, a_behind, a_reached, a_todo, a_words, a_coming, a_values, a_told, a_variables) := by
  have R' := R
  obtain ⟨GE, GA, _⟩ := R
  unfold wpY_words
  refine gy_m_straight R' (fun r f_fresh a_number a_before a_behind a_reached a_todo a_words hr hf V => ?_)
  rcases hr with ⟨z1, z2⟩ | ⟨z1, z2⟩
  · rw [z1]
    exact br_f (by decide) (gy_write GE V (fun w c re td hw => h1 z2 w _ hw ⟨GE, GA, fun _ => V⟩ rfl rfl))
  · rw [z1]
    exact br_t rfl (h0 z2 _ ⟨GE, GA, fun _ => V⟩ rfl)
theorem gy_m_words {post : Int32 → SY → Prop} (R : gy_RY ak av ac ek ev ex ey (f_fresh, f_many, f_tells, f_last, f_runs, f_stopped, a_actKind, a_actV, a_actC, a_endKind, a_endV, a_endX, a_endY, a_number, a_before, a_behind, a_reached, a_todo, a_words, a_coming, a_values, a_told, a_variables)) (h : ∀ r v, gs_Aws ek ev ex ey r → gy_RY ak av ac ek ev ex ey v → gy_run v = gy_run (f_fresh, f_many, f_tells, f_last, f_runs, f_stopped, a_actKind, a_actV, a_actC, a_endKind, a_endV, a_endX, a_endY, a_number, a_before, a_behind, a_reached, a_todo, a_words, a_coming, a_values, a_told, a_variables) → post r v) : wpY_words post (f_fresh, f_many, f_tells, f_last, f_runs, f_stopped, a_actKind, a_actV, a_actC, a_endKind, a_endV, a_endX, a_endY, a_number, a_before, a_behind, a_reached, a_todo, a_words, a_coming, a_values, a_told, a_variables) :=
  gy_words R (fun z w v _ q1 q2 _ => h _ v (Or.inl ⟨z, rfl⟩) q1 q2) (fun z v q1 q2 => h _ v (Or.inr ⟨z, rfl⟩) q1 q2)
theorem gy_m_word {post : Int32 → SY → Prop} {p : Int32} (R : gy_RY ak av ac ek ev ex ey (f_fresh, f_many, f_tells, f_last, f_runs, f_stopped, a_actKind, a_actV, a_actC, a_endKind, a_endV, a_endX, a_endY, a_number, a_before, a_behind, a_reached, a_todo, a_words, a_coming, a_values, a_told, a_variables)) (h : ∀ r v, gs_Awd ek ev ex ey p r → gy_RY ak av ac ek ev ex ey v → gy_run v = gy_run (f_fresh, f_many, f_tells, f_last, f_runs, f_stopped, a_actKind, a_actV, a_actC, a_endKind, a_endV, a_endX, a_endY, a_number, a_before, a_behind, a_reached, a_todo, a_words, a_coming, a_values, a_told, a_variables) → post r v) : wpY_word post (f_fresh, f_many, f_tells, f_last, f_runs, f_stopped, a_actKind, a_actV, a_actC, a_endKind, a_endV, a_endX, a_endY, a_number, a_before, a_behind, a_reached, a_todo, a_words, a_coming, a_values, a_told, a_variables) p := by
  have R' := R
  obtain ⟨GE, GA, _⟩ := R
  have L := gs_cF_len (ev := ev) GE.1 GE.2.1 GE.2.2.1 GE.2.2.2.1
  unfold wpY_word
  refine gy_words R' (fun z w v hw q1 q2 q3 => ?_) (fun z v q1 q2 => ?_)
  · obtain ⟨y1, y2, y3, y4, y5, y6, y7, y8, y9, y10, y11, y12, y13, y14, y15, y16, y17, y18, y19, y20, y21, y22, y23⟩ := v
    have q3 : y19 = w := q3
    refine br_c (fun y => h _ _ (Or.inr ⟨Or.inr (fun j hj e => ?_), rfl⟩) q1 q2) (fun y => ?_)
    · subst e
      exact nI_pos (by omega) y
    · obtain ⟨j, hj, rfl⟩ := nI_of y
      refine pk_lt j (gs_cF ek ex ey ev).1.length (fun x => ⟨vp_in_nI (by omega) (by decide), ?_⟩) (fun x => h _ _ (Or.inr ⟨Or.inr (fun i hi e => ?_), rfl⟩) q1 q2)
      · rw [nI_clamp hj]
        refine h _ _ (Or.inl ⟨z, j, x, rfl, ?_⟩) q1 q2
        rw [q3]
        exact gs_st_j hw x
      · have := (nI_eq hj (by omega)).mp e
        omega
  · obtain ⟨y1, y2, y3, y4, y5, y6, y7, y8, y9, y10, y11, y12, y13, y14, y15, y16, y17, y18, y19, y20, y21, y22, y23⟩ := v
    refine br_c (fun y => h _ _ (Or.inr ⟨Or.inl z, rfl⟩) q1 q2) (fun y => br_f (fun w => ?_) (h _ _ (Or.inr ⟨Or.inl z, rfl⟩) q1 q2))
    obtain ⟨j, hj, rfl⟩ := nI_of y
    have a1 := Int32.lt_iff_toInt_lt.mp w
    rw [nI_toInt hj, show (-1 : Int32).toInt = -1 from by decide] at a1
    omega
end
