/-! Y: the code -/
section
variable (ek ex ey : Nat → Nat)
/-- a task of Y as X has it -/
noncomputable def gy_rs (t : Nat) : Nat := if t < 1000 then t else if t < 2000 then 256 + (t - 1000) else gs_way ek ex ey ((t - 2000) / 16) ((t - 2000) % 16)
def gy_vt (t : Nat) : Prop := t < 256 ∨ (∃ n, n < 16 ∧ t = 1000 + n) ∨ (∃ n s, gs_sn ek ex ey n = true ∧ gs_sn ek ex ey s = true ∧ t = 2000 + 16 * n + s)
end
def gy_c2 : List Nat → Nat
  | [] => 0
  | t :: r => (if 2000 ≤ t then 1 else 0) + gy_c2 r
section
variable {f_fresh f_many f_tells f_last f_runs f_stopped : Int32} {a_actKind a_actV a_actC a_endKind a_endV a_endX a_endY a_number a_before a_behind a_reached a_todo a_words a_coming a_values a_told a_variables : Nat → Int32} {ek ex ey ak av ac ev : Nat → Nat}
theorem gy_rs_w {t : Nat} (h : t < 256) : gy_rs ek ex ey t = t := if_pos (by omega)
theorem gy_rs_c {n : Nat} (h : n < 16) : gy_rs ek ex ey (1000 + n) = 256 + n := by
  unfold gy_rs
  rw [if_neg (by omega), if_pos (by omega)]
  omega
theorem gy_rs_g {n s : Nat} (hs : s < 16) : gy_rs ek ex ey (2000 + 16 * n + s) = gs_way ek ex ey n s := by
  unfold gy_rs
  rw [if_neg (by omega), if_neg (by omega), show (2000 + 16 * n + s - 2000) / 16 = n by omega, show (2000 + 16 * n + s - 2000) % 16 = s by omega]
theorem gy_isMeeting {A B : Prop} {s : Nat} (GE : gy_GE ek ev ex ey a_endKind a_endV a_endX a_endY) (V : gy_VY ek ex ey a_number a_before a_behind) (hs : s < 16) (ht : gs_mt ek ex ey s → B) (hf : ¬ gs_mt ek ex ey s → A) : wpY_isMeeting (fun r => (r = 0 → A) ∧ (¬ r = 0 → B)) (f_fresh, f_many, f_tells, f_last, f_runs, f_stopped, a_actKind, a_actV, a_actC, a_endKind, a_endV, a_endX, a_endY, a_number, a_before, a_behind, a_reached, a_todo, a_words, a_coming, a_values, a_told, a_variables) (nI s) := by
  have hx := GE.2.1
  have hy := GE.2.2.1
  refine pk_loop (fun m j (c : Int32) => wY_isMeeting_4 (fun r => (r = 0 → A) ∧ (¬ r = 0 → B)) (nI s) f_fresh f_many f_tells f_last f_runs f_stopped a_actKind a_actV a_actC a_endKind a_endV a_endX a_endY a_number a_before a_behind a_reached a_todo a_words a_coming a_values a_told a_variables m c (nI j)) (fun j c => c = nI (gs_cn (gs_mtc ek ex ey s) j)) 16 0 0 (by omega) rfl ?_ ?_
  · rintro m c rfl
    have hc := gs_cn_le (gs_mtc ek ex ey s) 16
    refine br_t gx_x16 (pk_le (gs_cn (gs_mtc ek ex ey s) 16) 1 (fun z => br_t rfl (hf (fun w => ?_))) (fun z => br_f (by decide) (ht z)))
    have : 1 < gs_cn (gs_mtc ek ex ey s) 16 := w
    omega
  · rintro m j c hj rfl ihj
    have no : ¬ (gs_sn ek ex ey j = true ∧ gs_E ek ex ey j s ∧ gs_nu ek ex ey j < gs_nu ek ex ey s) → nI (gs_cn (gs_mtc ek ex ey s) j) = nI (gs_cn (gs_mtc ek ex ey s) (j + 1)) := fun q => by
      have e : gs_mtc ek ex ey s j = false := gs_B_f.mpr q
      show _ = nI (gs_cn (gs_mtc ek ex ey s) j + (if gs_mtc ek ex ey s j = true then 1 else 0))
      rw [e]
      rfl
    refine br_f (gx_16 hj) (gy_sn hx hy V.1 hj (fun q1 => gy_leads GE hj hs (fun q2 => ⟨gx_in hj, gx_in hs, ?_⟩) (fun q2 => nm_r (nI_1 j) (ihj _ (no (fun z => q2 z.2.1))))) (fun q1 => nm_r (nI_1 j) (ihj _ (no (fun z => q1 z.1)))))
    have hl := (gy_nu_lt hx hy V.1 (gs_sn_E hx hy q1 q2) q1).2
    refine br_c (fun w => ?_) (fun w => ?_)
    · refine nm_r (nI_1 j) (ihj _ (no (fun z => ?_)))
      have := hl.mp w
      omega
    · refine nm_r (nI_1 _) (nm_r (nI_1 j) (ihj _ ?_))
      have hlt : gs_nu ek ex ey j < gs_nu ek ex ey s := by
        have : ¬ gs_nu ek ex ey s ≤ gs_nu ek ex ey j := fun z => w (hl.mpr z)
        omega
      have e : gs_mtc ek ex ey s j = true := gs_B_t.mpr ⟨q1, q2, hlt⟩
      show _ = nI (gs_cn (gs_mtc ek ex ey s) j + (if gs_mtc ek ex ey s j = true then 1 else 0))
      rw [e]
      rfl
/-- the meeting with number k whose chief is n -/
theorem gy_meeting {post : Int32 → Prop} {n k : Nat} (GE : gy_GE ek ev ex ey a_endKind a_endV a_endX a_endY) (V : gy_VY ek ex ey a_number a_before a_behind) (hn : n < 16) (hk : k < 16)
    (h1 : k < (gs_lv ek ex ey).length → gs_kid ek ex ey n (gs_at (gs_lv ek ex ey) k) = true → post (nI (gs_at (gs_lv ek ex ey) k))) (h0 : (k < (gs_lv ek ex ey).length → ¬ gs_kid ek ex ey n (gs_at (gs_lv ek ex ey) k) = true) → post (-1)) : wpY_meeting post (f_fresh, f_many, f_tells, f_last, f_runs, f_stopped, a_actKind, a_actV, a_actC, a_endKind, a_endV, a_endX, a_endY, a_number, a_before, a_behind, a_reached, a_todo, a_words, a_coming, a_values, a_told, a_variables) (nI n) (nI k) := by
  have hx := GE.2.1
  have hy := GE.2.2.1
  have L := gs_lv_len (ek := ek) hx hy
  refine pk_loop (fun m i (_ : Unit) => wY_meeting_2 post (nI n) (nI k) f_fresh f_many f_tells f_last f_runs f_stopped a_actKind a_actV a_actC a_endKind a_endV a_endX a_endY a_number a_before a_behind a_reached a_todo a_words a_coming a_values a_told a_variables m (nI i)) (fun i _ => 1 ≤ i ∧ ∀ m, m < i → ¬ (gs_sn ek ex ey m = true ∧ gs_nu ek ex ey m = k ∧ gs_kid ek ex ey n m = true)) 16 1 () (by omega) ⟨Nat.le_refl 1, fun m hm z => ?_⟩ ?_ ?_
  · have m0 : m = 0 := by omega
    rw [m0] at z
    exact gs_mt_0 hx hy (gs_B_t.mp z.2.2).1
  · rintro m _ ⟨_, hI⟩
    refine br_t gx_x16 (h0 (fun hl q => ?_))
    have hm := gs_at_mem (gs_lv ek ex ey) k hl
    have hs := (gs_sn_lv hx hy).mpr hm
    exact hI _ (gs_sn_lt hx hy hs) ⟨hs, gs_ix_at _ k (gs_lv_nd hx hy) hl, q⟩
  · rintro m i _ hi ⟨h1i, hI⟩ ih
    have up : ¬ (gs_sn ek ex ey i = true ∧ gs_nu ek ex ey i = k ∧ gs_kid ek ex ey n i = true) → wY_meeting_2 post (nI n) (nI k) f_fresh f_many f_tells f_last f_runs f_stopped a_actKind a_actV a_actC a_endKind a_endV a_endX a_endY a_number a_before a_behind a_reached a_todo a_words a_coming a_values a_told a_variables m (nI (i + 1)) := fun q => ih () ⟨by omega, fun m hm => by
      by_cases e : m = i
      · exact e ▸ q
      · exact hI m (by omega)⟩
    refine br_f (gx_16 hi) ⟨gx_in hi, ?_⟩
    rw [gx_cl hi]
    rcases V.1 i hi with ⟨z1, z2⟩ | ⟨z1, z2⟩
    · have l1 := gs_nu_lt hx hy z1
      rw [z2]
      refine pk_eq (gs_nu ek ex ey i) k (fun e => gy_isMeeting GE V hi (fun q => gy_nearBefore hi V.2.1 (fun d n q => gs_bf_refl (gs_bf_sn hx hy q)) (fun r hr => br_c (fun y => ?_) (fun y => nm_r (nI_1 i) (up (fun w => y ((gs_Fst_ch hx hy hn hr).mpr (gs_B_t.mp w.2.2).2)))))) (fun q => nm_r (nI_1 i) (up (fun w => q (gs_B_t.mp w.2.2).1)))) (fun e => nm_r (nI_1 i) (up (fun w => e w.2.1)))
      have kl : k < (gs_lv ek ex ey).length := by omega
      have at' : gs_at (gs_lv ek ex ey) k = i := by
        rw [← e]
        exact gs_at_ix _ i ((gs_sn_lv hx hy).mp z1)
      rw [at'] at h1
      exact h1 kl (gs_B_t.mpr ⟨q, (gs_Fst_ch hx hy hn hr).mp y⟩)
    · rw [z2]
      refine br_f (fun w => gx_ne1 hk w.symm) (nm_r (nI_1 i) (up (fun w => z1 w.1)))
theorem gy_code_57 {post : Int32 → SY → Prop} {n : Nat} (GE : gy_GE ek ev ex ey a_endKind a_endV a_endX a_endY) (V : gy_VY ek ex ey a_number a_before a_behind) (hn : gs_sn ek ex ey n = true) : ∀ (k : Nat) (wd tk : List Nat) (w c : Nat → Int32), k ≤ 16 → gs_st w wd → gs_st c tk → (∀ t, t ∈ tk → gy_vt ek ex ey t) →
    (gs_ob ek ex ey n (min k (gs_lv ek ex ey).length) (wd, tk.map (gy_rs ek ex ey))).1.length < 590 → (gs_ob ek ex ey n (min k (gs_lv ek ex ey).length) (wd, tk.map (gy_rs ek ex ey))).2.length < 590 →
    (∀ tk' w' c', tk'.map (gy_rs ek ex ey) = gs_gon ek ex ey ev n ++ (gs_ob ek ex ey n (min k (gs_lv ek ex ey).length) (wd, tk.map (gy_rs ek ex ey))).2 → gy_c2 tk' ≤ gy_c2 tk + 2 → (∀ t, t ∈ tk' → gy_vt ek ex ey t) → gs_st w' (n :: (gs_ob ek ex ey n (min k (gs_lv ek ex ey).length) (wd, tk.map (gy_rs ek ex ey))).1) → gs_st c' tk' →
      post (nI tk'.length) (f_fresh, nI (n :: (gs_ob ek ex ey n (min k (gs_lv ek ex ey).length) (wd, tk.map (gy_rs ek ex ey))).1).length, f_tells, f_last, f_runs, f_stopped, a_actKind, a_actV, a_actC, a_endKind, a_endV, a_endX, a_endY, a_number, a_before, a_behind, a_reached, a_todo, w', c', a_values, a_told, a_variables)) →
    wY_code_57 post (nI n) f_fresh f_tells f_last f_runs f_stopped (k + 1) (nI tk.length) (nI k + (-1)) (nI wd.length) a_actKind a_actV a_actC a_endKind a_endV a_endX a_endY a_number a_before a_behind a_reached a_todo w c a_values a_told a_variables
  | 0, wd, tk, w, c, _, hw, hc, hv, hl1, hl2, h => by
    have hx := GE.2.1
    have hy := GE.2.2.1
    have n16 := gs_sn_lt hx hy hn
    have k2 := GE.1 n
    have ob0 : gs_ob ek ex ey n (min 0 (gs_lv ek ex ey).length) (wd, tk.map (gy_rs ek ex ey)) = (wd, tk.map (gy_rs ek ex ey)) := by
      rw [Nat.zero_min]
      rfl
    rw [ob0] at hl1 hl2 h
    dsimp only at hl1 hl2 h
    rw [List.length_map] at hl2
    have hEx : ¬ ek n = 0 → gs_E ek ex ey n (ex n) := fun z => by
      by_cases k1 : ek n = 1
      · exact Or.inl ⟨k1, rfl⟩
      · exact Or.inr ⟨by omega, Or.inl rfl⟩
    have x16 := hx n
    have y16 := hy n
    refine br_t (by decide) (nm_r (nI_1 _) ⟨vp_in_nI (by omega) (by decide), nm_r (e' := upd w wd.length (nI n)) (by rw [nI_clamp (by omega), Int32.zero_add]) (gy_after GE n16 ?_)⟩)
    have hw' : gs_st (upd w wd.length (nI n)) (n :: wd) := gs_st_push hw
    unfold gs_gon at h
    by_cases z0 : ek n = 0
    · have ha : gs_af ek ex ey n = 0 := if_pos z0
      rw [if_pos z0] at h
      rw [ha]
      refine br_t rfl (nm_r (nI_1 _) ⟨vp_in_nI (by omega) (by decide), nm_r (e' := upd c tk.length (nI 128)) (by rw [nI_clamp (by omega)]; rfl) (br_f (by decide) (br_f (by decide) ?_))⟩)
      refine h (128 :: tk) _ _ ?_ ?_ ?_ hw' (gs_st_push hc)
      · show gy_rs ek ex ey 128 :: _ = _
        rw [gy_rs_w (by omega)]
        rfl
      · show (if 2000 ≤ 128 then 1 else 0) + gy_c2 tk ≤ _
        rw [if_neg (by omega)]
        omega
      · intro t ht
        rcases List.mem_cons.mp ht with rfl | ht
        · exact Or.inl (by omega)
        · exact hv t ht
    · rw [if_neg z0] at h
      have snx := gs_sn_E hx hy hn (hEx z0)
      have vx : gy_vt ek ex ey (2000 + 16 * n + ex n) := Or.inr (Or.inr ⟨n, ex n, hn, snx, rfl⟩)
      have eX : (2000 + 16 * nI n) + a_endX (nI n).toNatClampNeg = nI (2000 + 16 * n + ex n) := by
        rw [gx_cl n16, GE.2.2.2.2.2.1 n z0, show (16 : Int32) = nI 16 from rfl, show (2000 : Int32) = nI 2000 from rfl, pk_mul, nI_add, nI_add]
      by_cases z1 : ek n = 1 ∨ ex n = ey n
      · have ha : gs_af ek ex ey n = 1 := by
          unfold gs_af
          rw [if_neg z0, if_pos z1]
        rw [if_pos z1] at h
        rw [ha]
        refine br_f (by decide) (br_t rfl (nm_r (nI_1 _) ⟨gx_in n16, vp_in_nI (by omega) (by decide), nm_r (e' := upd c tk.length (nI (2000 + 16 * n + ex n))) (by rw [nI_clamp (by omega), eX]) (br_f (by decide) ?_)⟩))
        refine h ((2000 + 16 * n + ex n) :: tk) _ _ ?_ ?_ ?_ hw' (gs_st_push hc)
        · show gy_rs ek ex ey (2000 + 16 * n + ex n) :: _ = _
          rw [gy_rs_g x16]
          rfl
        · show (if 2000 ≤ 2000 + 16 * n + ex n then 1 else 0) + gy_c2 tk ≤ _
          rw [if_pos (by omega)]
          omega
        · intro t ht
          rcases List.mem_cons.mp ht with rfl | ht
          · exact vx
          · exact hv t ht
      · have ha : gs_af ek ex ey n = 2 := by
          unfold gs_af
          rw [if_neg z0, if_neg z1]
        have e2 : ek n = 2 := by omega
        rw [if_neg z1] at h
        rw [ha]
        have ev4 := GE.2.2.2.1 n
        have sny := gs_sn_E hx hy hn (Or.inr ⟨e2, Or.inr rfl⟩)
        have vy : gy_vt ek ex ey (2000 + 16 * n + ey n) := Or.inr (Or.inr ⟨n, ey n, hn, sny, rfl⟩)
        have eY : (2000 + 16 * nI n) + a_endY (nI n).toNatClampNeg = nI (2000 + 16 * n + ey n) := by
          rw [gx_cl n16, GE.2.2.2.2.2.2.1 n e2, show (16 : Int32) = nI 16 from rfl, show (2000 : Int32) = nI 2000 from rfl, pk_mul, nI_add, nI_add]
        have eV : 48 + a_endV (nI n).toNatClampNeg = nI (48 + ev n) := by
          rw [gx_cl n16, GE.2.2.2.2.2.2.2 n e2]
          exact nI_add 48 _
        refine br_f (by decide) (br_f (by decide) (br_t rfl ?_))
        refine nm_r (nI_1 _) ⟨vp_in_nI (by omega) (by decide), nm_r (e' := upd c tk.length (nI 80)) (by rw [nI_clamp (by omega)]; rfl) (nm_r (nI_1 _) ⟨gx_in n16, vp_in_nI (by omega) (by decide), nm_r (e' := upd (upd c tk.length (nI 80)) (tk.length + 1) (nI (2000 + 16 * n + ey n))) (by rw [nI_clamp (by omega), eY]) (nm_r (nI_1 _) ⟨vp_in_nI (by omega) (by decide), nm_r (e' := upd (upd (upd c tk.length (nI 80)) (tk.length + 1) (nI (2000 + 16 * n + ey n))) (tk.length + 1 + 1) (nI 64)) (by rw [nI_clamp (by omega)]; rfl) (nm_r (nI_1 _) ⟨gx_in n16, vp_in_nI (by omega) (by decide), nm_r (e' := upd (upd (upd (upd c tk.length (nI 80)) (tk.length + 1) (nI (2000 + 16 * n + ey n))) (tk.length + 1 + 1) (nI 64)) (tk.length + 1 + 1 + 1) (nI (2000 + 16 * n + ex n))) (by rw [nI_clamp (by omega), eX]) (nm_r (nI_1 _) ⟨gx_in n16, vp_in_nI (by omega) (by decide), nm_r (e' := upd (upd (upd (upd (upd c tk.length (nI 80)) (tk.length + 1) (nI (2000 + 16 * n + ey n))) (tk.length + 1 + 1) (nI 64)) (tk.length + 1 + 1 + 1) (nI (2000 + 16 * n + ex n))) (tk.length + 1 + 1 + 1 + 1) (nI (48 + ev n))) (by rw [nI_clamp (by omega), eV]) ?_⟩)⟩)⟩)⟩)⟩
        have c1 : gs_st _ (80 :: tk) := gs_st_push hc
        have c2 : gs_st _ ((2000 + 16 * n + ey n) :: 80 :: tk) := gs_st_push c1
        have c3 : gs_st _ (64 :: (2000 + 16 * n + ey n) :: 80 :: tk) := gs_st_push c2
        have c4 : gs_st _ ((2000 + 16 * n + ex n) :: 64 :: (2000 + 16 * n + ey n) :: 80 :: tk) := gs_st_push c3
        have c5 : gs_st _ ((48 + ev n) :: (2000 + 16 * n + ex n) :: 64 :: (2000 + 16 * n + ey n) :: 80 :: tk) := gs_st_push c4
        refine h ((48 + ev n) :: (2000 + 16 * n + ex n) :: 64 :: (2000 + 16 * n + ey n) :: 80 :: tk) _ _ ?_ ?_ ?_ hw' c5
        · show gy_rs ek ex ey (48 + ev n) :: gy_rs ek ex ey (2000 + 16 * n + ex n) :: gy_rs ek ex ey 64 :: gy_rs ek ex ey (2000 + 16 * n + ey n) :: gy_rs ek ex ey 80 :: _ = _
          rw [gy_rs_g x16, gy_rs_g y16, gy_rs_w (by omega), gy_rs_w (by omega), gy_rs_w (by omega)]
          rfl
        · simp only [gy_c2]
          rw [if_neg (by omega), if_pos (by omega), if_neg (by omega), if_pos (by omega), if_neg (by omega)]
          omega
        · intro t ht
          rcases List.mem_cons.mp ht with rfl | ht
          · exact Or.inl (by omega)
          rcases List.mem_cons.mp ht with rfl | ht
          · exact vx
          rcases List.mem_cons.mp ht with rfl | ht
          · exact Or.inl (by omega)
          rcases List.mem_cons.mp ht with rfl | ht
          · exact vy
          rcases List.mem_cons.mp ht with rfl | ht
          · exact Or.inl (by omega)
          · exact hv t ht
  | k + 1, wd, tk, w, c, hk, hw, hc, hv, hl1, hl2, h => by
    have hx := GE.2.1
    have hy := GE.2.2.1
    have n16 := gs_sn_lt hx hy hn
    have ih := gy_code_57 (post := post) GE V hn k
    rw [pk_m1]
    refine br_f (nI_pos (by omega)) (gy_meeting GE V n16 (by omega) (fun kl kid => ?_) (fun no => ?_))
    · have m16 : gs_at (gs_lv ek ex ey) k < 16 := gs_sn_lt hx hy ((gs_sn_lv hx hy).mpr (gs_at_mem _ k kl))
      have e1 : min (k + 1) (gs_lv ek ex ey).length = k + 1 := by omega
      have e2 : min k (gs_lv ek ex ey).length = k := by omega
      have ob : gs_ob ek ex ey n (k + 1) (wd, tk.map (gy_rs ek ex ey)) = gs_ob ek ex ey n k ((32 + gs_at (gs_lv ek ex ey) k) :: wd, (80 :: (1000 + gs_at (gs_lv ek ex ey) k) :: tk).map (gy_rs ek ex ey)) := by
        show gs_ob ek ex ey n k (if gs_kid ek ex ey n (gs_at (gs_lv ek ex ey) k) = true then _ else _) = _
        rw [if_pos kid]
        show gs_ob ek ex ey n k (_, 80 :: (256 + gs_at (gs_lv ek ex ey) k) :: _) = gs_ob ek ex ey n k (_, gy_rs ek ex ey 80 :: gy_rs ek ex ey (1000 + gs_at (gs_lv ek ex ey) k) :: _)
        rw [gy_rs_w (by omega), gy_rs_c m16]
      rw [e1, ob] at hl1 hl2 h
      have ih := ih ((32 + gs_at (gs_lv ek ex ey) k) :: wd) (80 :: (1000 + gs_at (gs_lv ek ex ey) k) :: tk)
      rw [e2] at ih
      have g := gs_ob_len (ek := ek) (ex := ex) (ey := ey) n k ((32 + gs_at (gs_lv ek ex ey) k) :: wd, (80 :: (1000 + gs_at (gs_lv ek ex ey) k) :: tk).map (gy_rs ek ex ey))
      simp only [List.length_cons, List.length_map] at g
      refine br_t (nI_pos' (by omega)) (nm_r (nI_1 _) ⟨vp_in_nI (by omega) (by decide), nm_r (e' := upd w wd.length (nI (32 + gs_at (gs_lv ek ex ey) k))) (by rw [nI_clamp (by omega)]; rw [show (32 : Int32) + nI (gs_at (gs_lv ek ex ey) k) = nI (32 + gs_at (gs_lv ek ex ey) k) from nI_add 32 _]) (nm_r (nI_1 _) ⟨vp_in_nI (by omega) (by decide), nm_r (e' := upd c tk.length (nI (1000 + gs_at (gs_lv ek ex ey) k))) (by rw [nI_clamp (by omega)]; rw [show (1000 : Int32) + nI (gs_at (gs_lv ek ex ey) k) = nI (1000 + gs_at (gs_lv ek ex ey) k) from nI_add 1000 _]) (nm_r (nI_1 _) ⟨vp_in_nI (by omega) (by decide), nm_r (e' := upd (upd c tk.length (nI (1000 + gs_at (gs_lv ek ex ey) k))) (tk.length + 1) (nI 80)) (by rw [nI_clamp (by omega)]; rfl) (nm_e ?_)⟩)⟩)⟩)
      have c1 : gs_st _ ((1000 + gs_at (gs_lv ek ex ey) k) :: tk) := gs_st_push hc
      have c2 : gs_st _ (80 :: (1000 + gs_at (gs_lv ek ex ey) k) :: tk) := gs_st_push c1
      refine ih _ _ (by omega) (gs_st_push hw) c2 (fun t ht => ?_) hl1 hl2 (fun tk' w' c' q1 q2 => h tk' w' c' q1 ?_)
      · rcases List.mem_cons.mp ht with rfl | ht
        · exact Or.inl (by omega)
        rcases List.mem_cons.mp ht with rfl | ht
        · exact Or.inr (Or.inl ⟨_, m16, rfl⟩)
        · exact hv t ht
      · simp only [gy_c2] at q2
        rw [if_neg (by omega), if_neg (by omega)] at q2
        omega
    · have ob : gs_ob ek ex ey n (min (k + 1) (gs_lv ek ex ey).length) (wd, tk.map (gy_rs ek ex ey)) = gs_ob ek ex ey n (min k (gs_lv ek ex ey).length) (wd, tk.map (gy_rs ek ex ey)) := by
        by_cases kl : k < (gs_lv ek ex ey).length
        · rw [show min (k + 1) (gs_lv ek ex ey).length = k + 1 by omega, show min k (gs_lv ek ex ey).length = k by omega]
          show gs_ob ek ex ey n k (if gs_kid ek ex ey n (gs_at (gs_lv ek ex ey) k) = true then _ else _) = _
          rw [if_neg (no kl)]
        · rw [show min (k + 1) (gs_lv ek ex ey).length = min k (gs_lv ek ex ey).length by omega]
      rw [ob] at hl1 hl2 h
      exact br_f (by decide) (nm_e (ih wd tk w c (by omega) hw hc hv hl1 hl2 h))
end
