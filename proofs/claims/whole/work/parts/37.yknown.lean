/-! Y: known values -/
theorem gy_ix4 (n v : Nat) : 4 * nI n + nI v = nI (4 * n + v) := by
  rw [show (4 : Int32) = nI 4 from rfl, pk_mul, nI_add]
theorem gy_or {x r : Int32} (hx : x = 0 ∨ x = 1) (hr : r = 0 ∨ r = 1) : x ||| r = if r = 0 then x else 1 := by
  rcases hx with rfl | rfl <;> rcases hr with rfl | rfl <;> decide
theorem gs_fl_01 (a b : Nat → Nat) : gs_fl a b = 0 ∨ gs_fl a b = 1 := by
  by_cases z : b = a
  · exact Or.inl (gs_fl_0 z)
  · exact Or.inr (gs_fl_1 z)
section
variable {f_fresh f_many f_tells f_last f_runs f_stopped : Int32} {a_actKind a_actV a_actC a_endKind a_endV a_endX a_endY a_number a_before a_behind a_reached a_todo a_words a_coming a_values a_told a_variables : Nat → Int32} {ek ex ey ak av ac ev : Nat → Nat}
theorem gy_made {post : Int32 → Prop} {kv : Nat → Nat} {n v : Nat} (GA : gy_GA ak av ac a_actKind a_actV a_actC) (hK : ∀ i, i < 64 → a_values i = gs_kd (kv i)) (hle : ∀ i, kv i ≤ 17) (hn : n < 16) (hv : v < 4) (hall : ∀ v, v < 4 → kv (4 * n + v) ≠ 0)
    (h : post (gs_kd (gs_md ak av ac kv n v))) : wpY_made post (f_fresh, f_many, f_tells, f_last, f_runs, f_stopped, a_actKind, a_actV, a_actC, a_endKind, a_endV, a_endX, a_endY, a_number, a_before, a_behind, a_reached, a_todo, a_words, a_coming, a_values, a_told, a_variables) (nI n) (nI v) := by
  obtain ⟨g1, g2, g3, g4, g5, g6, g7⟩ := GA
  have av4 := g2 n
  have ac16 := g3 n
  have ak5 := g1 n
  unfold wpY_made
  refine ⟨by rw [gy_ix4]; exact vp_in_nI (by omega) (by decide), nm_r (e' := gs_kd (kv (4 * n + v))) (by rw [gy_ix4, nI_clamp (by omega)]; exact hK _ (by omega)) ⟨gx_in hn, ?_⟩⟩
  simp only [gx_cl hn, g5]
  have hc : ak n = 0 ∨ ak n = 4 ∨ (ak n = 1 ∨ ak n = 2 ∨ ak n = 3 ∨ ak n = 5) := by omega
  unfold gs_md at h
  rcases hc with c | c | hc
  · have e : (if v ≠ av n then kv (4 * n + v) else if ak n = 1 then ac n + 1 else if ak n = 2 then (if kv (4 * n + v) = 17 then 17 else (kv (4 * n + v) - 1 + ac n) % 16 + 1) else if ak n = 3 then kv (4 * n + ac n) else if ak n = 5 then 17 else kv (4 * n + v)) = kv (4 * n + v) := by
      rw [c]
      split <;> rfl
    rw [e] at h
    rw [c]
    exact br_t rfl h
  · have e : (if v ≠ av n then kv (4 * n + v) else if ak n = 1 then ac n + 1 else if ak n = 2 then (if kv (4 * n + v) = 17 then 17 else (kv (4 * n + v) - 1 + ac n) % 16 + 1) else if ak n = 3 then kv (4 * n + ac n) else if ak n = 5 then 17 else kv (4 * n + v)) = kv (4 * n + v) := by
      rw [c]
      split <;> rfl
    rw [e] at h
    rw [c]
    exact br_f (by decide) ⟨gx_in hn, br_t rfl h⟩
  · rw [g6 n (by omega)]
    refine pk_eq (ak n) 0 (fun w => by omega) (fun _ => ⟨gx_in hn, pk_eq (ak n) 4 (fun w => by omega) (fun _ => ⟨gx_in hn, pk_eq (av n) v (fun z => ⟨gx_in hn, ?_⟩) (fun z => ?_)⟩)⟩)
    · rw [if_neg (fun w => w z.symm)] at h
      refine pk_eq (ak n) 1 (fun c => ⟨gx_in hn, ?_⟩) (fun c1 => ⟨gx_in hn, pk_eq (ak n) 2 (fun c => ?_) (fun c2 => ⟨gx_in hn, pk_eq (ak n) 3 (fun c => ⟨gx_in hn, ?_, ?_⟩) (fun c3 => ?_)⟩)⟩)
      · rw [if_pos c, gx_kd_s] at h
        rw [g7 n (Or.inl c)]
        exact h
      · rw [if_neg c1, if_pos c] at h
        have h17 := hle (4 * n + v)
        have h0 := hall v hv
        by_cases q : kv (4 * n + v) = 17
        · rw [if_pos q] at h
          rw [q]
          exact br_t rfl h
        · rw [if_neg q, gx_kd_s] at h
          obtain ⟨b, hb⟩ : ∃ b, kv (4 * n + v) = b + 1 := ⟨kv (4 * n + v) - 1, by omega⟩
          rw [hb, gx_kd_s]
          rw [hb, Nat.add_sub_cancel] at h
          refine br_f (fun w => ?_) ⟨gx_in hn, ?_⟩
          · have := (nI_eq (b := 16) (by omega) (by decide)).mp w
            omega
          · rw [g7 n (Or.inr (Or.inl c)), nI_add, pk_andN (by omega) 4 (by decide)]
            exact h
      · rw [g7 n (Or.inr (Or.inr c)), gy_ix4]
        have := g4 n c
        exact vp_in_nI (by omega) (by decide)
      · rw [if_neg c1, if_neg c2, if_pos c] at h
        have := g4 n c
        rw [g7 n (Or.inr (Or.inr c)), gy_ix4, nI_clamp (by omega), hK _ (by omega)]
        exact h
      · rw [if_neg c1, if_neg c2, if_neg c3, if_pos (by omega)] at h
        exact h
    · rw [if_pos (fun w => z w.symm)] at h
      exact h
theorem gy_comes {post : Int32 → SY → Prop} {kw : Nat → Nat} {t v g : Nat} (hK : ∀ i, i < 64 → a_values i = gs_kd (kw i)) (hle : ∀ i, kw i ≤ 17) (hg : g ≤ 17) (ht : t < 16) (hv : v < 4)
    (h : ∀ r a, (r = if gs_jn (kw (4 * t + v)) g = kw (4 * t + v) then 0 else 1) → (∀ i, i < 64 → a i = gs_kd (gs_un1 kw (4 * t + v) (gs_jn (kw (4 * t + v)) g) i)) → post r (f_fresh, f_many, f_tells, f_last, f_runs, f_stopped, a_actKind, a_actV, a_actC, a_endKind, a_endV, a_endX, a_endY, a_number, a_before, a_behind, a_reached, a_todo, a_words, a_coming, a, a_told, a_variables)) : wpY_comes post (f_fresh, f_many, f_tells, f_last, f_runs, f_stopped, a_actKind, a_actV, a_actC, a_endKind, a_endV, a_endX, a_endY, a_number, a_before, a_behind, a_reached, a_todo, a_words, a_coming, a_values, a_told, a_variables) (nI t) (nI v) (gs_kd g) := by
  have hl := hle (4 * t + v)
  have inn : vp_in (4 * nI t + nI v) 64 := by rw [gy_ix4]; exact vp_in_nI (by omega) (by decide)
  have cl : (4 * nI t + nI v).toNatClampNeg = 4 * t + v := by rw [gy_ix4]; exact nI_clamp (by omega)
  have key : wY_comes_34 post (nI t) (nI v) (gs_kd (kw (4 * t + v))) (gs_kd (gs_jn (kw (4 * t + v)) g)) f_fresh f_many f_tells f_last f_runs f_stopped a_actKind a_actV a_actC a_endKind a_endV a_endX a_endY a_number a_before a_behind a_reached a_todo a_words a_coming a_values a_told a_variables := by
    have hj := gs_jn_le (h := kw (4 * t + v)) hg
    have ha : ∀ i, i < 64 → upd a_values (4 * t + v) (gs_kd (gs_jn (kw (4 * t + v)) g)) i = gs_kd (gs_un1 kw (4 * t + v) (gs_jn (kw (4 * t + v)) g) i) := by
      intro i hi
      unfold gs_un1
      by_cases q : i = 4 * t + v
      · rw [if_pos q, q]
        exact pk_us
      · rw [if_neg q]
        exact (pk_un q).trans (hK i hi)
    refine ⟨inn, nm_r (e' := upd a_values (4 * t + v) (gs_kd (gs_jn (kw (4 * t + v)) g))) (by rw [cl]) (br_c (fun z => h 0 _ ?_ ha) (fun z => h 1 _ ?_ ha))⟩
    · rw [if_pos ((gx_kd_inj hj hl).mp z)]
    · rw [if_neg (fun w => z (by rw [w]))]
  refine ⟨inn, nm_r (e' := gs_kd (kw (4 * t + v))) (by rw [cl]; exact hK _ (by omega)) ?_⟩
  by_cases z : kw (4 * t + v) = 0
  · have ej : gs_jn (kw (4 * t + v)) g = g := if_pos (Or.inl z)
    rw [ej] at key
    refine br_f ?_ key
    rw [z]
    decide
  · obtain ⟨b, hb⟩ : ∃ b, kw (4 * t + v) = b + 1 := ⟨kw (4 * t + v) - 1, by omega⟩
    refine br_t ?_ (br_c (fun y => ?_) (fun y => ?_))
    · rw [hb, gx_kd_s]
      exact nI_pos' (by omega)
    · have y' := (gx_kd_inj hl hg).mp y
      have ej : gs_jn (kw (4 * t + v)) g = kw (4 * t + v) := (if_pos (Or.inr y')).trans y'.symm
      rw [ej] at key
      exact key
    · have ej : gs_jn (kw (4 * t + v)) g = 17 := by
        apply if_neg
        rintro (q | q)
        · exact z q
        · exact y (by rw [q])
      rw [ej] at key
      exact key
/-- the flag while the variables come -/
def gy_FL (kv kw : Nat → Nat) (x y : Int32) : Prop := (kw = kv ∧ y = x) ∨ (¬ kw = kv ∧ y = 1)
theorem gy_FL_s {kv : Nat → Nat} {n t w : Nat} {x y r : Int32} (hx : x = 0 ∨ x = 1) (h : gy_FL kv (gs_gw ak av ac kv n t w) x y) (hr : r = if gs_jn (gs_gw ak av ac kv n t w (4 * t + w)) (gs_md ak av ac kv n w) = gs_gw ak av ac kv n t w (4 * t + w) then 0 else 1) : gy_FL kv (gs_gw ak av ac kv n t (w + 1)) x (y ||| r) := by
  have y01 : y = 0 ∨ y = 1 := by
    rcases h with ⟨_, rfl⟩ | ⟨_, rfl⟩
    · exact hx
    · exact Or.inr rfl
  rw [gs_gw_at] at hr
  by_cases q : gs_jn (kv (4 * t + w)) (gs_md ak av ac kv n w) = kv (4 * t + w)
  · rw [if_pos q] at hr
    subst hr
    have same : gs_gw ak av ac kv n t (w + 1) = gs_gw ak av ac kv n t w := by
      rw [gs_gw_s, q]
      funext i
      unfold gs_un1
      by_cases e : i = 4 * t + w
      · rw [if_pos e, e, gs_gw_at]
      · rw [if_neg e]
    rw [same, gy_or y01 (Or.inl rfl), if_pos rfl]
    exact h
  · rw [if_neg q] at hr
    subst hr
    rw [gy_or y01 (Or.inr rfl), if_neg (by decide)]
    refine Or.inr ⟨fun e => q ?_, rfl⟩
    have := congrFun e (4 * t + w)
    rw [gs_gw_s] at this
    unfold gs_un1 at this
    rw [if_pos rfl] at this
    exact this
theorem gy_give_83 {post : Int32 → SY → Prop} {J39 : Int32 → Int32 → Int32 → Int32 → Int32 → Int32 → Int32 → Int32 → (Nat → Int32) → (Nat → Int32) → (Nat → Int32) → (Nat → Int32) → (Nat → Int32) → (Nat → Int32) → (Nat → Int32) → (Nat → Int32) → (Nat → Int32) → (Nat → Int32) → (Nat → Int32) → (Nat → Int32) → (Nat → Int32) → (Nat → Int32) → (Nat → Int32) → (Nat → Int32) → (Nat → Int32) → Prop} {kv : Nat → Nat} {n k : Nat} {x2 x3 x4 : Int32} (GE : gy_GE ek ev ex ey a_endKind a_endV a_endX a_endY) (GA : gy_GA ak av ac a_actKind a_actV a_actC) (hK : ∀ i, i < 64 → a_values i = gs_kd (kv i)) (hle : ∀ i, kv i ≤ 17) (hn : n < 16) (hk : k < gs_af ek ex ey n) (hall : ∀ v, v < 4 → kv (4 * n + v) ≠ 0) (h01 : x2 = 0 ∨ x2 = 1)
    (h : ∀ a, (∀ i, i < 64 → a i = gs_kd (gs_gv ak av ac kv n (gs_ns ex ey n k) i)) → J39 (if gs_fl kv (gs_gv ak av ac kv n (gs_ns ex ey n k)) = 0 then x2 else 1) (nI (k + 1)) f_fresh f_many f_tells f_last f_runs f_stopped a_actKind a_actV a_actC a_endKind a_endV a_endX a_endY a_number a_before a_behind a_reached a_todo a_words a_coming a a_told a_variables) : wY_give_83 post J39 (nI n) x2 x3 x4 (nI k) f_fresh f_many f_tells f_last f_runs f_stopped a_actKind a_actV a_actC a_endKind a_endV a_endX a_endY a_number a_before a_behind a_reached a_todo a_words a_coming a_values a_told a_variables := by
  have s16 := gs_ns_lt GE.2.1 GE.2.2.1 n k
  have g3 := GA.2.2.1
  have g4 := GA.2.2.2.1
  have ml : ∀ v, gs_md ak av ac kv n v ≤ 17 := fun v => gs_md_le g3 hle n v
  have gl := fun w => gs_gw_le (ak := ak) (av := av) g3 hle n (gs_ns ex ey n k) w
  have nx : ∀ (w : Nat) (a : Nat → Int32), (∀ i, i < 64 → a i = gs_kd (gs_un1 (gs_gw ak av ac kv n (gs_ns ex ey n k) w) (4 * gs_ns ex ey n k + w) (gs_jn (gs_gw ak av ac kv n (gs_ns ex ey n k) w (4 * gs_ns ex ey n k + w)) (gs_md ak av ac kv n w)) i)) → ∀ i, i < 64 → a i = gs_kd (gs_gw ak av ac kv n (gs_ns ex ey n k) (w + 1) i) := by
    intro w a ha
    rw [gs_gw_s]
    rw [gs_gw_at] at ha
    exact ha
  refine gy_succ GE hn hk ?_
  refine gy_made (v := 0) GA hK hle hn (by omega) hall ?_
  refine gy_made (v := 1) GA hK hle hn (by omega) hall ?_
  refine gy_made (v := 2) GA hK hle hn (by omega) hall ?_
  refine gy_made (v := 3) GA hK hle hn (by omega) hall ?_
  have K0 : ∀ i, i < 64 → a_values i = gs_kd (gs_gw ak av ac kv n (gs_ns ex ey n k) 0 i) := by
    rw [gs_gw_0]
    exact hK
  have F0 : gy_FL kv (gs_gw ak av ac kv n (gs_ns ex ey n k) 0) x2 x2 := Or.inl ⟨gs_gw_0 kv n _, rfl⟩
  refine gy_comes (v := 0) K0 (gl 0) (ml 0) s16 (by omega) (fun r0 a0 hr0 ha0 => nm_e ?_)
  have F1 := gy_FL_s h01 F0 hr0
  have K1 := nx 0 a0 ha0
  refine gy_comes (v := 1) K1 (gl 1) (ml 1) s16 (by omega) (fun r1 a1 hr1 ha1 => nm_e ?_)
  have F2 := gy_FL_s h01 F1 hr1
  have K2 := nx 1 a1 ha1
  refine gy_comes (v := 2) K2 (gl 2) (ml 2) s16 (by omega) (fun r2 a2 hr2 ha2 => nm_e ?_)
  have F3 := gy_FL_s h01 F2 hr2
  have K3 := nx 2 a2 ha2
  refine gy_comes (v := 3) K3 (gl 3) (ml 3) s16 (by omega) (fun r3 a3 hr3 ha3 => nm_e (nm_r (nI_1 k) ?_))
  have F4 := gy_FL_s h01 F3 hr3
  have K4 := nx 3 a3 ha3
  have := h a3 K4
  rcases F4 with ⟨z1, z2⟩ | ⟨z1, z2⟩
  · have z1 : gs_gv ak av ac kv n (gs_ns ex ey n k) = kv := z1
    rw [z2]
    rw [if_pos (gs_fl_0 z1)] at this
    exact this
  · have z1 : ¬ gs_gv ak av ac kv n (gs_ns ex ey n k) = kv := z1
    rw [z2]
    rw [if_neg (fun q => z1 (gs_fl_z.mp q))] at this
    exact this
theorem gy_fl_if (a b : Nat → Nat) : (if gs_fl a b = 0 then (0 : Int32) else 1) = gs_fl a b := by
  rcases gs_fl_01 a b with z | z
  · rw [z]; rfl
  · rw [z]; rfl
theorem gy_fl_if2 {a b c : Nat → Nat} (h1 : b = a ∨ gs_kc a < gs_kc b) (h2 : c = b ∨ gs_kc b < gs_kc c) : (if gs_fl b c = 0 then gs_fl a b else 1) = gs_fl a c := by
  by_cases z : c = b
  · rw [if_pos (gs_fl_0 z), z]
  · rw [if_neg (fun q => z (gs_fl_z.mp q)), gs_fl_1]
    intro e
    rcases h2 with h2 | h2
    · exact z h2
    · rcases h1 with h1 | h1
      · exact z (e.trans h1.symm)
      · rw [e] at h2
        omega
theorem gy_give {post : Int32 → SY → Prop} {kv : Nat → Nat} {n : Nat} (GE : gy_GE ek ev ex ey a_endKind a_endV a_endX a_endY) (GA : gy_GA ak av ac a_actKind a_actV a_actC) (hI : gs_KI kv) (hn : n < 16) (he : kv (4 * n) ≠ 0) (hK : ∀ i, i < 64 → a_values i = gs_kd (kv i))
    (h : ∀ a, (∀ j, j < 64 → a j = gs_kd (gs_go ak av ac ek ev ex ey kv n j)) → post (gs_fl kv (gs_go ak av ac ek ev ex ey kv n)) (f_fresh, f_many, f_tells, f_last, f_runs, f_stopped, a_actKind, a_actV, a_actC, a_endKind, a_endV, a_endX, a_endY, a_number, a_before, a_behind, a_reached, a_todo, a_words, a_coming, a, a_told, a_variables)) : wpY_give post (f_fresh, f_many, f_tells, f_last, f_runs, f_stopped, a_actKind, a_actV, a_actC, a_endKind, a_endV, a_endX, a_endY, a_number, a_before, a_behind, a_reached, a_todo, a_words, a_coming, a_values, a_told, a_variables) (nI n) := by
  have hx := GE.2.1
  have hy := GE.2.2.1
  have hac := GA.2.2.1
  have hc3 := GA.2.2.2.1
  have ev4 := GE.2.2.2.1 n
  have k2 := GE.1 n
  have hall := gs_KI_all hI hn he
  have ml := gs_md_le (ak := ak) (av := av) hac hI.1 n (ev n)
  have m17 : gs_kd (gs_md ak av ac kv n (ev n)) = 16 ↔ gs_md ak av ac kv n (ev n) = 17 := gx_kd_inj (b := 17) ml (by omega)
  have m1 : gs_kd (gs_md ak av ac kv n (ev n)) = 0 ↔ gs_md ak av ac kv n (ev n) = 1 := gx_kd_inj (b := 1) ml (by omega)
  have one : ∀ t, (ek n = 1 ∨ (ek n = 2 ∧ ex n = ey n)) → gs_af ek ex ey n = 1 → wY_give_28 post (nI n) 0 t f_fresh f_many f_tells f_last f_runs f_stopped a_actKind a_actV a_actC a_endKind a_endV a_endX a_endY a_number a_before a_behind a_reached a_todo a_words a_coming a_values a_told a_variables := by
    intro t hc ha
    have go : gs_go ak av ac ek ev ex ey kv n = gs_gv ak av ac kv n (ex n) := by
      unfold gs_go
      rw [if_neg (by omega), if_pos (by omega)]
    unfold wY_give_28
    refine gy_after GE hn ⟨2, ?_⟩
    rw [ha]
    refine br_f (by decide) (br_f (by decide) (gy_give_83 (k := 0) GE GA hK hI.1 hn (by omega) hall (Or.inl rfl) (fun a ha' => ?_)))
    rw [gy_fl_if]
    rw [go] at h
    exact br_t (by decide) ⟨gs_fl_n _ _, h a ha'⟩
  refine ⟨gx_in hn, ?_⟩
  rw [gx_cl hn, GE.2.2.2.2.1]
  refine pk_eq (ek n) 2 (fun z => ⟨gx_in hn, ?_⟩) (fun z => ?_)
  · rw [GE.2.2.2.2.2.2.2 n z]
    refine gy_made GA hK hI.1 hn ev4 hall ?_
    by_cases xy : ex n = ey n
    · exact one _ (Or.inr ⟨z, xy⟩) (by unfold gs_af; rw [if_neg (by omega), if_pos (Or.inr xy)])
    · have ha : gs_af ek ex ey n = 2 := by
        unfold gs_af
        rw [if_neg (by omega), if_neg (by omega)]
      have go : gs_go ak av ac ek ev ex ey kv n = if gs_md ak av ac kv n (ev n) = 17 then gs_gv ak av ac (gs_gv ak av ac kv n (ex n)) n (ey n) else if gs_md ak av ac kv n (ev n) = 1 then gs_gv ak av ac kv n (ex n) else gs_gv ak av ac kv n (ey n) := by
        unfold gs_go
        rw [if_neg (by omega), if_neg (by omega)]
      rw [go] at h
      unfold wY_give_28
      refine gy_after GE hn ⟨3, ?_⟩
      rw [ha]
      by_cases t17 : gs_md ak av ac kv n (ev n) = 17
      · rw [if_pos t17] at h
        have a1 := gs_gv_KI (ak := ak) (av := av) (ac := ac) (t := ex n) hac hc3 hI hn he
        have a2 := gs_gv_grow (ak := ak) (av := av) (ac := ac) (t := ex n) hc3 hI hn (hx n) he
        have he2 : gs_gv ak av ac kv n (ex n) (4 * n) ≠ 0 := gs_gv_nz he
        have b2 := gs_gv_grow (ak := ak) (av := av) (ac := ac) (t := ey n) hc3 a1 hn (hy n) he2
        refine br_f (by decide) (br_t rfl (br_t (m17.mpr t17) (gy_give_83 (k := 0) GE GA hK hI.1 hn (by omega) hall (Or.inl rfl) (fun a ha' => ?_))))
        rw [gy_fl_if]
        refine br_f (by decide) (br_t rfl (br_t (m17.mpr t17) (gy_give_83 (k := 1) GE GA ha' a1.1 hn (by omega) (gs_KI_all a1 hn he2) (gs_fl_01 _ _) (fun b hb => ?_))))
        have fl := gy_fl_if2 a2 b2
        have fl' : (if gs_fl (gs_gv ak av ac kv n (gs_ns ex ey n 0)) (gs_gv ak av ac (gs_gv ak av ac kv n (gs_ns ex ey n 0)) n (gs_ns ex ey n 1)) = 0 then gs_fl kv (gs_gv ak av ac kv n (gs_ns ex ey n 0)) else 1) = gs_fl kv (gs_gv ak av ac (gs_gv ak av ac kv n (ex n)) n (ey n)) := fl
        rw [fl']
        exact br_t (by decide) ⟨gs_fl_n _ _, h b hb⟩
      · rw [if_neg t17] at h
        have n17 : ¬ gs_kd (gs_md ak av ac kv n (ev n)) = 16 := fun w => t17 (m17.mp w)
        by_cases t1 : gs_md ak av ac kv n (ev n) = 1
        · rw [if_pos t1] at h
          have z0 := m1.mpr t1
          refine br_f (by decide) (br_t rfl (br_f n17 (br_t z0 (br_t rfl (br_t rfl (gy_give_83 (k := 0) GE GA hK hI.1 hn (by omega) hall (Or.inl rfl) (fun a ha' => ?_)))))))
          rw [gy_fl_if]
          exact br_f (by decide) (br_t rfl (br_f n17 (br_t z0 (br_f (by decide) (br_f (by decide) (nm_r (e' := nI 2) rfl (br_t (by decide) ⟨gs_fl_n _ _, h a ha'⟩)))))))
        · rw [if_neg t1] at h
          have z0 : ¬ gs_kd (gs_md ak av ac kv n (ev n)) = 0 := fun w => t1 (m1.mp w)
          refine br_f (by decide) (br_t rfl (br_f n17 (br_f z0 (br_t rfl (br_f (by decide) (nm_r (e' := nI 1) rfl ?_))))))
          refine br_f (by decide) (br_t rfl (br_f n17 (br_f z0 (br_f (by decide) (br_t rfl (gy_give_83 (k := 1) GE GA hK hI.1 hn (by omega) hall (Or.inl rfl) (fun a ha' => ?_)))))))
          rw [gy_fl_if]
          exact br_t (by decide) ⟨gs_fl_n _ _, h a ha'⟩
  · by_cases z1 : ek n = 1
    · exact one _ (Or.inl z1) (by unfold gs_af; rw [if_neg (by omega), if_pos (Or.inl z1)])
    · have z0 : ek n = 0 := by omega
      have ha : gs_af ek ex ey n = 0 := if_pos z0
      have go : gs_go ak av ac ek ev ex ey kv n = kv := by
        unfold gs_go
        rw [if_pos z0]
      rw [go] at h
      unfold wY_give_28
      refine gy_after GE hn ⟨1, ?_⟩
      rw [ha]
      have := h a_values hK
      rw [gs_fl_0 rfl] at this
      exact br_t (by decide) ⟨rfl, this⟩
theorem gs_ks_eq (kv : Nat → Nat) : gs_ks1 ak av ac ek ev ex ey kv 16 = gs_ks ak av ac ek ev ex ey kv := rfl
theorem gy_known_62 {post : Int32 → SY → Prop} {J53 : Int32 → Int32 → Int32 → Int32 → Int32 → Int32 → Int32 → (Nat → Int32) → (Nat → Int32) → (Nat → Int32) → (Nat → Int32) → (Nat → Int32) → (Nat → Int32) → (Nat → Int32) → (Nat → Int32) → (Nat → Int32) → (Nat → Int32) → (Nat → Int32) → (Nat → Int32) → (Nat → Int32) → (Nat → Int32) → (Nat → Int32) → (Nat → Int32) → (Nat → Int32) → Prop} {kv : Nat → Nat} {x1 x2 : Int32} (GE : gy_GE ek ev ex ey a_endKind a_endV a_endX a_endY) (GA : gy_GA ak av ac a_actKind a_actV a_actC) (KI : gs_KI kv) (hK : ∀ i, i < 64 → a_values i = gs_kd (kv i))
    (h : ∀ a, (∀ i, i < 64 → a i = gs_kd (gs_ks1 ak av ac ek ev ex ey kv 16 i)) → J53 (gs_fl kv (gs_ks1 ak av ac ek ev ex ey kv 16)) f_fresh f_many f_tells f_last f_runs f_stopped a_actKind a_actV a_actC a_endKind a_endV a_endX a_endY a_number a_before a_behind a_reached a_todo a_words a_coming a a_told a_variables) : ∃ m, wY_known_62 post J53 x1 x2 m 0 0 f_fresh f_many f_tells f_last f_runs f_stopped a_actKind a_actV a_actC a_endKind a_endV a_endX a_endY a_number a_before a_behind a_reached a_todo a_words a_coming a_values a_told a_variables := by
  have hx := GE.2.1
  have hy := GE.2.2.1
  have hac := GA.2.2.1
  have hc3 := GA.2.2.2.1
  refine pk_loop (fun m' j (s : Int32 × (Nat → Int32)) => wY_known_62 post J53 x1 x2 m' s.1 (nI j) f_fresh f_many f_tells f_last f_runs f_stopped a_actKind a_actV a_actC a_endKind a_endV a_endX a_endY a_number a_before a_behind a_reached a_todo a_words a_coming s.2 a_told a_variables) (fun j s => s.1 = gs_fl kv (gs_ks1 ak av ac ek ev ex ey kv j) ∧ ∀ q, q < 64 → s.2 q = gs_kd (gs_ks1 ak av ac ek ev ex ey kv j q)) 16 0 (0, a_values) (by omega) ⟨(gs_fl_0 rfl).symm, hK⟩ ?_ ?_
  · rintro m' ⟨t1, t2⟩ ⟨h1, h2⟩
    have h1 : t1 = gs_fl kv (gs_ks1 ak av ac ek ev ex ey kv 16) := h1
    subst h1
    exact br_t gx_x16 (h t2 h2)
  · rintro m' j ⟨t1, t2⟩ hj ⟨h1, h2⟩ ihj
    dsimp only at h1 h2
    have ok := gs_ks1_ok (ek := ek) (ev := ev) (av := av) hac hc3 hx hy KI j (by omega)
    have s0 : gs_ks1 ak av ac ek ev ex ey kv (j + 1) = if gs_ks1 ak av ac ek ev ex ey kv j (4 * j) = 0 then gs_ks1 ak av ac ek ev ex ey kv j else gs_go ak av ac ek ev ex ey (gs_ks1 ak av ac ek ev ex ey kv j) j := rfl
    rw [s0] at ihj
    generalize gs_ks1 ak av ac ek ev ex ey kv j = kw at h1 h2 ok ihj
    have e : 4 * nI j = nI (4 * j) := by rw [show (4 : Int32) = nI 4 from rfl, pk_mul]
    have cell : t2 (4 * nI j).toNatClampNeg = gs_kd (kw (4 * j)) := by
      rw [e, nI_clamp (by omega)]
      exact h2 _ (by omega)
    have l17 := ok.1.1 (4 * j)
    have inn : vp_in (4 * nI j) 64 := by rw [e]; exact vp_in_nI (by omega) (by decide)
    refine br_f (gx_16 hj) ⟨inn, ?_⟩
    dsimp only
    rw [cell]
    by_cases w : kw (4 * j) = 0
    · rw [if_pos w] at ihj
      exact br_t (by rw [w]; decide) (nm_r (nI_1 j) (ihj (t1, t2) ⟨h1, h2⟩))
    · rw [if_neg w] at ihj
      obtain ⟨b, hb⟩ : ∃ b, kw (4 * j) = b + 1 := ⟨kw (4 * j) - 1, by omega⟩
      have g := gs_go_ok (ek := ek) (ev := ev) (av := av) hac hc3 hx hy ok.1 hj w
      refine br_f (by rw [hb, gx_kd_s]; exact nI_pos (by omega)) (gy_give GE GA ok.1 hj w h2 (fun a ha => nm_e (nm_r (nI_1 j) (ihj (t1 ||| gs_fl kw (gs_go ak av ac ek ev ex ey kw j), a) ⟨?_, ha⟩))))
      dsimp only
      rw [h1, gy_or (gs_fl_01 _ _) (gs_fl_01 _ _)]
      exact gy_fl_if2 ok.2 g.2
theorem gy_known_53 {post : Int32 → SY → Prop} {n v : Nat} (GE : gy_GE ek ev ex ey a_endKind a_endV a_endX a_endY) (GA : gy_GA ak av ac a_actKind a_actV a_actC) (hn : n < 16) (hv : v < 4) (hK : ∀ i, i < 64 → a_values i = gs_kd (gs_k0 i))
    (h : ∀ a, post (gs_kd (gs_kF ak av ac ek ev ex ey (4 * n + v))) (f_fresh, f_many, f_tells, f_last, f_runs, f_stopped, a_actKind, a_actV, a_actC, a_endKind, a_endV, a_endX, a_endY, a_number, a_before, a_behind, a_reached, a_todo, a_words, a_coming, a, a_told, a_variables)) : ∃ m, wY_known_53 post (nI n) (nI v) m 1 f_fresh f_many f_tells f_last f_runs f_stopped a_actKind a_actV a_actC a_endKind a_endV a_endX a_endY a_number a_before a_behind a_reached a_todo a_words a_coming a_values a_told a_variables := by
  have hx := GE.2.1
  have hy := GE.2.2.1
  have hac := GA.2.2.1
  have hc3 := GA.2.2.2.1
  refine loop_m (fun m (s : (Nat → Nat) × Int32 × (Nat → Int32)) => wY_known_53 post (nI n) (nI v) m s.2.1 f_fresh f_many f_tells f_last f_runs f_stopped a_actKind a_actV a_actC a_endKind a_endV a_endX a_endY a_number a_before a_behind a_reached a_todo a_words a_coming s.2.2 a_told a_variables) (fun s => (∃ i, gs_it (gs_ks ak av ac ek ev ex ey) i gs_k0 = s.1) ∧ (∀ j, j < 64 → s.2.2 j = gs_kd (s.1 j)) ∧ (s.2.1 = 0 → gs_ks ak av ac ek ev ex ey s.1 = s.1)) (fun s => 2 * (80 - gs_kc s.1) + (if s.2.1 = 0 then 0 else 1)) ?_ (gs_k0, 1, a_values) ⟨⟨0, rfl⟩, hK, fun z => absurd (show (1 : Int32) = 0 from z) (by decide)⟩
  rintro m ⟨kv, f, a⟩ ⟨⟨i, hi⟩, hK, hF⟩ ih
  dsimp only at hK hF ih hi
  have KI := gs_kit_KI (ek := ek) (ev := ev) (av := av) hac hc3 hx hy i
  have fin := gs_kF_end (ek := ek) (ev := ev) (av := av) hac hc3 hx hy (i := i)
  have st := gs_it_s (gs_ks ak av ac ek ev ex ey) i gs_k0
  rw [hi] at KI fin st
  have ok := gs_ks1_ok (ek := ek) (ev := ev) (av := av) hac hc3 hx hy KI 16 (Nat.le_refl _)
  rw [gs_ks_eq] at ok
  refine br_c (fun z => ?_) (fun z => ?_)
  · have e := fin (hF z)
    rw [gy_ix4, nI_clamp (by omega)]
    refine ⟨vp_in_nI (by omega) (by decide), ?_⟩
    have hc : a (4 * n + v) = gs_kd (gs_kF ak av ac ek ev ex ey (4 * n + v)) := by
      rw [← e]
      exact hK _ (by omega)
    dsimp only
    rw [hc]
    exact h a
  · have z : ¬ f = 0 := z
    refine gy_known_62 GE GA KI hK (fun b hb => ?_)
    rw [gs_ks_eq] at hb ⊢
    generalize hkw : gs_ks ak av ac ek ev ex ey kv = kw at hb st ok
    refine ih (kw, gs_fl kv kw, b) ⟨⟨i + 1, st⟩, hb, fun w => ?_⟩ ?_
    · have w' : kw = kv := gs_fl_z.mp w
      dsimp only
      rw [w']
      exact hkw.trans w'
    · dsimp only
      rw [if_neg z]
      have c1 := gs_kc_le kw
      rcases ok.2 with o | o
      · rw [gs_fl_0 o, if_pos rfl, o]
        omega
      · split <;> omega
theorem gs_k0_lo {i : Nat} (h : i < 4) : gs_kd (gs_k0 i) = 0 := by
  unfold gs_k0
  rw [if_pos h]
  rfl
theorem gs_k0_hi {i : Nat} (h : 4 ≤ i) : gs_kd (gs_k0 i) = -1 := by
  unfold gs_k0
  rw [if_neg (by omega)]
  rfl
theorem gy_known_23 {post : Int32 → SY → Prop} {x1 x2 : Int32} (h : ∀ a, (∀ i, i < 64 → a i = gs_kd (gs_k0 i)) → ∃ m, wY_known_53 post x1 x2 m 1 f_fresh f_many f_tells f_last f_runs f_stopped a_actKind a_actV a_actC a_endKind a_endV a_endX a_endY a_number a_before a_behind a_reached a_todo a_words a_coming a a_told a_variables) : ∃ m, wY_known_23 post x1 x2 f_fresh f_many f_tells f_last f_runs f_stopped m 0 a_actKind a_actV a_actC a_endKind a_endV a_endX a_endY a_number a_before a_behind a_reached a_todo a_words a_coming a_values a_told a_variables := by
  refine pk_loop (fun m i (s : Nat → Int32) => wY_known_23 post x1 x2 f_fresh f_many f_tells f_last f_runs f_stopped m (nI i) a_actKind a_actV a_actC a_endKind a_endV a_endX a_endY a_number a_before a_behind a_reached a_todo a_words a_coming s a_told a_variables) (fun i s => ∀ j, j < i → s j = gs_kd (gs_k0 j)) 64 0 a_values (by omega) (fun j hj => absurd hj (Nat.not_lt_zero j)) ?_ ?_
  · rintro m l hl
    exact br_t (by decide) (h l hl)
  · rintro m i s hi hI ih
    have put : ∀ w, w = gs_kd (gs_k0 i) → ∀ j, j < i + 1 → upd s i w j = gs_kd (gs_k0 j) := by
      intro w hw j hj
      by_cases e : j = i
      · subst e
        rw [pk_us]
        exact hw
      · rw [pk_un e]
        exact hI j (by omega)
    exact br_f (nI_ge (b := 64) hi (by decide)) (pk_le 4 i (fun z => ⟨vp_in_nI hi (by decide), nm_r (e' := upd s i (-1)) (by rw [nI_clamp (by omega)]) (nm_r (nI_1 i) (ih _ (put _ (gs_k0_hi z).symm)))⟩) (fun z => ⟨vp_in_nI hi (by decide), nm_r (e' := upd s i 0) (by rw [nI_clamp (by omega)]) (nm_r (nI_1 i) (ih _ (put _ (gs_k0_lo z).symm)))⟩))
end
