/-! known values: cells 0 (not entered), a + 1 (the value a), 17 (several) -/
def gs_kd (a : Nat) : Int32 := if a = 0 then -1 else nI (a - 1)
def gs_un1 (f : Nat → Nat) (k x : Nat) : Nat → Nat := fun j => if j = k then x else f j
section
variable (ak av ac ek ev ex ey : Nat → Nat)
def gs_md (kv : Nat → Nat) (n v : Nat) : Nat :=
  if v ≠ av n then kv (4 * n + v) else if ak n = 1 then ac n + 1 else if ak n = 2 then (if kv (4 * n + v) = 17 then 17 else (kv (4 * n + v) - 1 + ac n) % 16 + 1) else if ak n = 3 then kv (4 * n + ac n) else if ak n = 5 then 17 else kv (4 * n + v)
def gs_jn (h g : Nat) : Nat := if h = 0 ∨ h = g then g else 17
/-- the first w variables given from a node to another -/
def gs_gw (kv : Nat → Nat) (n t w : Nat) : Nat → Nat := fun i => if 4 * t ≤ i ∧ i < 4 * t + w then gs_jn (kv i) (gs_md ak av ac kv n (i - 4 * t)) else kv i
def gs_gv (kv : Nat → Nat) (n t : Nat) : Nat → Nat := gs_gw ak av ac kv n t 4
def gs_go (kv : Nat → Nat) (n : Nat) : Nat → Nat :=
  if ek n = 0 then kv else if ek n = 1 ∨ ex n = ey n then gs_gv ak av ac kv n (ex n)
  else if gs_md ak av ac kv n (ev n) = 17 then gs_gv ak av ac (gs_gv ak av ac kv n (ex n)) n (ey n)
  else if gs_md ak av ac kv n (ev n) = 1 then gs_gv ak av ac kv n (ex n) else gs_gv ak av ac kv n (ey n)
def gs_ks1 (kv : Nat → Nat) : Nat → Nat → Nat
  | 0 => kv
  | n + 1 => if gs_ks1 kv n (4 * n) = 0 then gs_ks1 kv n else gs_go ak av ac ek ev ex ey (gs_ks1 kv n) n
def gs_ks (kv : Nat → Nat) : Nat → Nat := gs_ks1 ak av ac ek ev ex ey kv 16
def gs_k0 : Nat → Nat := fun i => if i < 4 then 1 else 0
noncomputable def gs_kF : Nat → Nat := gs_seal (gs_it (gs_ks ak av ac ek ev ex ey) 81 gs_k0)
theorem gs_kF_eq : gs_kF ak av ac ek ev ex ey = gs_it (gs_ks ak av ac ek ev ex ey) 81 gs_k0 := gs_seal_eq _
/-- cells are codes; a node has all four or none -/
def gs_KI (kv : Nat → Nat) : Prop := (∀ i, kv i ≤ 17) ∧ ∀ n, n < 16 → (∀ v, v < 4 → kv (4 * n + v) = 0) ∨ (∀ v, v < 4 → kv (4 * n + v) ≠ 0)
def gs_kc (kv : Nat → Nat) : Nat := gs_cn (fun n => decide (kv (4 * n) ≠ 0)) 16 + gs_cn (fun i => decide (kv i = 17)) 64
variable {ak av ac ek ev ex ey}
theorem gs_kc_le (kv : Nat → Nat) : gs_kc kv ≤ 80 := by
  have h1 := gs_cn_le (fun n => decide (kv (4 * n) ≠ 0)) 16
  have h2 := gs_cn_le (fun i => decide (kv i = 17)) 64
  unfold gs_kc
  omega
theorem gs_md_le (hac : ∀ n, ac n < 16) {kv : Nat → Nat} (h : ∀ i, kv i ≤ 17) (n v : Nat) : gs_md ak av ac kv n v ≤ 17 := by
  have h1 := hac n
  have h2 := h (4 * n + v)
  have h3 := h (4 * n + ac n)
  unfold gs_md
  repeat' split
  all_goals omega
theorem gs_md_pos (hc3 : ∀ n, ak n = 3 → ac n < 4) {kv : Nat → Nat} {n v : Nat} (hv : v < 4) (h : ∀ v, v < 4 → kv (4 * n + v) ≠ 0) : gs_md ak av ac kv n v ≠ 0 := by
  have h2 := h v hv
  unfold gs_md
  split
  · exact h2
  · split
    · omega
    · split
      · split <;> omega
      · split
        · rename_i e
          exact h (ac n) (hc3 n e)
        · split
          · omega
          · exact h2
theorem gs_jn_le {h g : Nat} (hg : g ≤ 17) : gs_jn h g ≤ 17 := by
  unfold gs_jn
  split <;> omega
/-- what is made of v doesn't change while the node gives to itself -/
theorem gs_md_in (kv : Nat → Nat) (n t v w : Nat) (hv : v < 4) (hvw : w ≤ v) (hc3 : ∀ n, ak n = 3 → ac n < 4) : gs_md ak av ac (gs_gw ak av ac kv n t w) n v = gs_md ak av ac kv n v := by
  have key : ∀ u, u < 4 → (u ≠ av n ∨ w ≤ u) → gs_gw ak av ac kv n t w (4 * n + u) = kv (4 * n + u) := by
    intro u hu h
    unfold gs_gw
    by_cases z : 4 * t ≤ 4 * n + u ∧ 4 * n + u < 4 * t + w
    · rw [if_pos z]
      by_cases e : n = t
      · subst e
        have e2 : 4 * n + u - 4 * n = u := by omega
        rw [e2]
        have e3 : u ≠ av n := by
          rcases h with h | h
          · exact h
          · omega
        have e4 : gs_md ak av ac kv n u = kv (4 * n + u) := if_pos e3
        rw [e4]
        unfold gs_jn
        rw [if_pos (Or.inr rfl)]
      · omega
    · rw [if_neg z]
  have k1 := key v hv (Or.inr hvw)
  unfold gs_md
  rw [k1]
  by_cases e : v ≠ av n
  · rw [if_pos e, if_pos e]
  · rw [if_neg e, if_neg e]
    by_cases e1 : ak n = 1
    · rw [if_pos e1, if_pos e1]
    · rw [if_neg e1, if_neg e1]
      by_cases e2 : ak n = 2
      · rw [if_pos e2, if_pos e2]
      · rw [if_neg e2, if_neg e2]
        by_cases e3 : ak n = 3
        · rw [if_pos e3, if_pos e3]
          apply key (ac n) (hc3 n e3)
          by_cases q : ac n = av n
          · right; omega
          · exact Or.inl q
        · rw [if_neg e3, if_neg e3]
theorem gs_gw_0 (kv : Nat → Nat) (n t : Nat) : gs_gw ak av ac kv n t 0 = kv := by
  funext i
  unfold gs_gw
  rw [if_neg (by omega)]
theorem gs_gw_s (kv : Nat → Nat) (n t w : Nat) : gs_gw ak av ac kv n t (w + 1) = gs_un1 (gs_gw ak av ac kv n t w) (4 * t + w) (gs_jn (kv (4 * t + w)) (gs_md ak av ac kv n w)) := by
  funext i
  unfold gs_gw gs_un1
  by_cases e : i = 4 * t + w
  · rw [if_pos e, if_pos (by omega), e, show 4 * t + w - 4 * t = w by omega]
  · rw [if_neg e]
    dsimp only
    by_cases z : 4 * t ≤ i ∧ i < 4 * t + w
    · rw [if_pos z, if_pos (by omega)]
    · rw [if_neg z, if_neg (by omega)]
theorem gs_gw_at (kv : Nat → Nat) (n t w : Nat) : gs_gw ak av ac kv n t w (4 * t + w) = kv (4 * t + w) := by
  unfold gs_gw
  rw [if_neg (by omega)]
theorem gs_gv_c (kv : Nat → Nat) (n t v : Nat) (hv : v < 4) : gs_gv ak av ac kv n t (4 * t + v) = gs_jn (kv (4 * t + v)) (gs_md ak av ac kv n v) := by
  unfold gs_gv gs_gw
  rw [if_pos (by omega), show 4 * t + v - 4 * t = v by omega]
theorem gs_gv_o (kv : Nat → Nat) (n t m v : Nat) (hv : v < 4) (h : m ≠ t) : gs_gv ak av ac kv n t (4 * m + v) = kv (4 * m + v) := by
  unfold gs_gv gs_gw
  rw [if_neg (by omega)]
theorem gs_gv_KI (hac : ∀ n, ac n < 16) (hc3 : ∀ n, ak n = 3 → ac n < 4) {kv : Nat → Nat} (h : gs_KI kv) {n t : Nat} (hn : n < 16) (he : kv (4 * n) ≠ 0) : gs_KI (gs_gv ak av ac kv n t) := by
  have hall : ∀ v, v < 4 → kv (4 * n + v) ≠ 0 := by
    rcases h.2 n hn with z | z
    · exact absurd (z 0 (by omega)) he
    · exact z
  refine ⟨fun i => ?_, fun m hm => ?_⟩
  · unfold gs_gv gs_gw
    split
    · exact gs_jn_le (gs_md_le hac h.1 n _)
    · exact h.1 i
  · by_cases e : m = t
    · subst e
      right
      intro v hv
      rw [gs_gv_c _ _ _ _ hv]
      have hp := gs_md_pos (av := av) hc3 hv hall
      unfold gs_jn
      split <;> omega
    · rcases h.2 m hm with z | z
      · left
        intro v hv
        rw [gs_gv_o _ _ _ _ _ hv e]
        exact z v hv
      · right
        intro v hv
        rw [gs_gv_o _ _ _ _ _ hv e]
        exact z v hv
/-- a change counts -/
theorem gs_gv_grow (hc3 : ∀ n, ak n = 3 → ac n < 4) {kv : Nat → Nat} (h : gs_KI kv) {n t : Nat} (hn : n < 16) (ht : t < 16) (he : kv (4 * n) ≠ 0) : gs_gv ak av ac kv n t = kv ∨ gs_kc kv < gs_kc (gs_gv ak av ac kv n t) := by
  have hall : ∀ v, v < 4 → kv (4 * n + v) ≠ 0 := by
    rcases h.2 n hn with z | z
    · exact absurd (z 0 (by omega)) he
    · exact z
  have up : ∀ i, kv i ≠ 0 → gs_gv ak av ac kv n t i = kv i ∨ gs_gv ak av ac kv n t i = 17 := by
    intro i hi
    unfold gs_gv gs_gw
    split
    · unfold gs_jn
      split
      · rename_i z
        rcases z with z | z
        · exact absurd z hi
        · exact Or.inl z.symm
      · exact Or.inr rfl
    · exact Or.inl rfl
  have m1 : ∀ i, i < 16 → decide (kv (4 * i) ≠ 0) = true → decide (gs_gv ak av ac kv n t (4 * i) ≠ 0) = true := by
    intro i _ z
    rw [decide_eq_true_iff] at z ⊢
    rcases up (4 * i) z with q | q
    · rw [q]; exact z
    · rw [q]; decide
  have m2 : ∀ i, i < 64 → decide (kv i = 17) = true → decide (gs_gv ak av ac kv n t i = 17) = true := by
    intro i _ z
    rw [decide_eq_true_iff] at z ⊢
    rcases up i (by omega) with q | q
    · rw [q]; exact z
    · exact q
  have c1 := gs_cn_mono 16 m1
  have c2 := gs_cn_mono 64 m2
  by_cases z : ∃ i, gs_gv ak av ac kv n t i ≠ kv i
  · right
    obtain ⟨i, hi⟩ := z
    have hin : 4 * t ≤ i ∧ i < 4 * t + 4 := by
      apply Classical.byContradiction
      intro q
      apply hi
      unfold gs_gv gs_gw
      rw [if_neg q]
    obtain ⟨v, hv, rfl⟩ : ∃ v, v < 4 ∧ i = 4 * t + v := ⟨i - 4 * t, by omega, by omega⟩
    by_cases q : kv (4 * t + v) = 0
    · have hz : ∀ v, v < 4 → kv (4 * t + v) = 0 := by
        rcases h.2 t ht with w | w
        · exact w
        · exact absurd q (w v hv)
      have h0 := hz 0 (by omega)
      have hp := gs_md_pos (av := av) hc3 (v := 0) (by omega) hall
      have hg := gs_gv_c (ak := ak) (av := av) (ac := ac) kv n t 0 (by omega)
      have c3 := gs_cn_lt (P := fun n => decide (kv (4 * n) ≠ 0)) (Q := fun m => decide (gs_gv ak av ac kv n t (4 * m) ≠ 0)) 16 m1 ⟨t, ht, by
        rw [decide_eq_true_iff]
        show gs_gv ak av ac kv n t (4 * t + 0) ≠ 0
        rw [hg, h0]
        unfold gs_jn
        rw [if_pos (Or.inl rfl)]
        exact hp, by
        rw [decide_eq_true_iff]
        exact fun w => w h0⟩
      unfold gs_kc
      omega
    · have c3 := gs_cn_lt (P := fun i => decide (kv i = 17)) (Q := fun i => decide (gs_gv ak av ac kv n t i = 17)) 64 m2 ⟨4 * t + v, by omega, by
        rw [decide_eq_true_iff]
        rcases up (4 * t + v) q with w | w
        · exact absurd w hi
        · exact w, by
        rw [decide_eq_true_iff]
        intro w
        rcases up (4 * t + v) q with y | y
        · exact hi y
        · exact hi (y.trans w.symm)⟩
      unfold gs_kc
      omega
  · left
    funext i
    apply Classical.byContradiction
    exact fun q => z ⟨i, q⟩
/-- to the same node twice -/
theorem gs_gv_twice (hc3 : ∀ n, ak n = 3 → ac n < 4) {kv : Nat → Nat} (h : gs_KI kv) {n t : Nat} (hn : n < 16) (he : kv (4 * n) ≠ 0) : gs_gv ak av ac (gs_gv ak av ac kv n t) n t = gs_gv ak av ac kv n t := by
  have hall : ∀ v, v < 4 → kv (4 * n + v) ≠ 0 := by
    rcases h.2 n hn with z | z
    · exact absurd (z 0 (by omega)) he
    · exact z
  have jj : ∀ h g, gs_jn (gs_jn h g) g = gs_jn h g := by
    intro h g
    unfold gs_jn
    by_cases z : h = 0 ∨ h = g
    · rw [if_pos z, if_pos (Or.inr rfl)]
    · rw [if_neg z]
      split
      · rename_i q
        rcases q with q | q
        · omega
        · exact q.symm
      · rfl
  funext i
  by_cases z : 4 * t ≤ i ∧ i < 4 * t + 4
  · obtain ⟨v, hv, rfl⟩ : ∃ v, v < 4 ∧ i = 4 * t + v := ⟨i - 4 * t, by omega, by omega⟩
    rw [gs_gv_c _ _ _ _ hv, gs_gv_c _ _ _ _ hv]
    by_cases e : n = t
    · subst e
      have hu : ∀ u, u < 4 → u ≠ av n → gs_gv ak av ac kv n n (4 * n + u) = kv (4 * n + u) := by
        intro u hu hne
        rw [gs_gv_c _ _ _ _ hu]
        have e4 : gs_md ak av ac kv n u = kv (4 * n + u) := if_pos hne
        rw [e4]
        unfold gs_jn
        rw [if_pos (Or.inr rfl)]
      by_cases q : v = av n
      · have hh := hall v hv
        have hg := gs_gv_c (ak := ak) (av := av) (ac := ac) kv n n v hv
        by_cases e1 : ak n = 1
        · have g1 : ∀ kv', gs_md ak av ac kv' n v = ac n + 1 := fun kv' => by unfold gs_md; rw [if_neg (fun w => w q), if_pos e1]
          rw [g1, g1, jj]
        · by_cases e2 : ak n = 2
          · have g1 : ∀ kv' : Nat → Nat, gs_md ak av ac kv' n v = if kv' (4 * n + v) = 17 then 17 else (kv' (4 * n + v) - 1 + ac n) % 16 + 1 := fun kv' => by unfold gs_md; rw [if_neg (fun w => w q), if_neg e1, if_pos e2]
            rw [g1 kv, g1 (gs_gv ak av ac kv n n), hg, g1 kv]
            generalize kv (4 * n + v) = x at hh
            by_cases x17 : x = 17
            · subst x17
              simp [gs_jn]
            · rw [if_neg x17]
              by_cases x2 : x = (x - 1 + ac n) % 16 + 1
              · have x3 : gs_jn x ((x - 1 + ac n) % 16 + 1) = x := by
                  unfold gs_jn
                  rw [if_pos (Or.inr x2), ← x2]
                rw [x3, if_neg x17, x3]
              · have x3 : gs_jn x ((x - 1 + ac n) % 16 + 1) = 17 := by
                  unfold gs_jn
                  rw [if_neg]
                  rintro (w | w)
                  · exact hh w
                  · exact x2 w
                rw [x3]
                simp [gs_jn]
          · by_cases e3 : ak n = 3
            · have g1 : ∀ kv', gs_md ak av ac kv' n v = kv' (4 * n + ac n) := fun kv' => by unfold gs_md; rw [if_neg (fun w => w q), if_neg e1, if_neg e2, if_pos e3]
              rw [g1, g1]
              by_cases q2 : ac n = av n
              · have q3 : ac n = v := q2.trans q.symm
                rw [q3, hg, g1, q3]
                have j1 : ∀ x, gs_jn x x = x := fun x => by unfold gs_jn; rw [if_pos (Or.inr rfl)]
                rw [j1, j1]
              · rw [hu (ac n) (hc3 n e3) q2, jj]
            · by_cases e5 : ak n = 5
              · have g1 : ∀ kv', gs_md ak av ac kv' n v = 17 := fun kv' => by unfold gs_md; rw [if_neg (fun w => w q), if_neg e1, if_neg e2, if_neg e3, if_pos e5]
                rw [g1, g1, jj]
              · have g1 : ∀ kv', gs_md ak av ac kv' n v = kv' (4 * n + v) := fun kv' => by unfold gs_md; rw [if_neg (fun w => w q), if_neg e1, if_neg e2, if_neg e3, if_neg e5]
                rw [g1, g1, hg, g1]
                have j1 : ∀ x, gs_jn x x = x := fun x => by unfold gs_jn; rw [if_pos (Or.inr rfl)]
                rw [j1, j1]
      · have g1 : ∀ kv', gs_md ak av ac kv' n v = kv' (4 * n + v) := fun kv' => if_pos q
        rw [g1, g1, hu v hv q]
        have j1 : ∀ x, gs_jn x x = x := fun x => by unfold gs_jn; rw [if_pos (Or.inr rfl)]
        rw [j1, j1]
    · have g2 : gs_md ak av ac (gs_gv ak av ac kv n t) n v = gs_md ak av ac kv n v := by
        unfold gs_md
        rw [gs_gv_o _ _ _ _ _ hv e]
        by_cases w : ak n = 3
        · rw [gs_gv_o _ _ _ _ _ (hc3 n w) e]
        · simp only [w, if_false]
      rw [g2, jj]
  · have o : ∀ kv', gs_gv ak av ac kv' n t i = kv' i := fun kv' => by unfold gs_gv gs_gw; rw [if_neg z]
    rw [o]
theorem gs_go_ok (hac : ∀ n, ac n < 16) (hc3 : ∀ n, ak n = 3 → ac n < 4) (hx : ∀ n, ex n < 16) (hy : ∀ n, ey n < 16) {kv : Nat → Nat} (h : gs_KI kv) {n : Nat} (hn : n < 16) (he : kv (4 * n) ≠ 0) : gs_KI (gs_go ak av ac ek ev ex ey kv n) ∧ (gs_go ak av ac ek ev ex ey kv n = kv ∨ gs_kc kv < gs_kc (gs_go ak av ac ek ev ex ey kv n)) := by
  have one : ∀ t, t < 16 → gs_KI (gs_gv ak av ac kv n t) ∧ (gs_gv ak av ac kv n t = kv ∨ gs_kc kv < gs_kc (gs_gv ak av ac kv n t)) := fun t ht => ⟨gs_gv_KI hac hc3 h hn he, gs_gv_grow hc3 h hn ht he⟩
  unfold gs_go
  split
  · exact ⟨h, Or.inl rfl⟩
  · split
    · exact one _ (hx n)
    · split
      · have a := one _ (hx n)
        have he2 : gs_gv ak av ac kv n (ex n) (4 * n) ≠ 0 := by
          rcases a.1.2 n hn with z | z
          · by_cases q : n = ex n
            · have hall : ∀ v, v < 4 → kv (4 * n + v) ≠ 0 := by
                rcases h.2 n hn with z | z
                · exact absurd (z 0 (by omega)) he
                · exact z
              have hp := gs_md_pos (av := av) hc3 (v := 0) (by omega) hall
              have hg := gs_gv_c (ak := ak) (av := av) (ac := ac) kv n n 0 (by omega)
              have z0 := z 0 (by omega)
              rw [← q, hg] at z0
              unfold gs_jn at z0
              split at z0 <;> omega
            · have := gs_gv_o (ak := ak) (av := av) (ac := ac) kv n (ex n) n 0 (by omega) q
              exact fun w => he (this.symm.trans w)
          · exact z 0 (by omega)
        have b1 := gs_gv_KI (av := av) (t := ey n) hac hc3 a.1 hn he2
        have b2 := gs_gv_grow (av := av) (t := ey n) hc3 a.1 hn (hy n) he2
        refine ⟨b1, ?_⟩
        rcases b2 with b2 | b2
        · rw [b2]
          exact a.2
        · rcases a.2 with a2 | a2
          · right
            rw [a2] at b2 ⊢
            exact b2
          · right
            omega
      · split
        · exact one _ (hx n)
        · exact one _ (hy n)
theorem gs_ks1_ok (hac : ∀ n, ac n < 16) (hc3 : ∀ n, ak n = 3 → ac n < 4) (hx : ∀ n, ex n < 16) (hy : ∀ n, ey n < 16) {kv : Nat → Nat} (h : gs_KI kv) : ∀ m, m ≤ 16 → gs_KI (gs_ks1 ak av ac ek ev ex ey kv m) ∧ (gs_ks1 ak av ac ek ev ex ey kv m = kv ∨ gs_kc kv < gs_kc (gs_ks1 ak av ac ek ev ex ey kv m))
  | 0, _ => ⟨h, Or.inl rfl⟩
  | m + 1, hm => by
    have ih := gs_ks1_ok hac hc3 hx hy h m (by omega)
    unfold gs_ks1
    split
    · exact ih
    · rename_i z
      have g := gs_go_ok (ek := ek) (ev := ev) (av := av) hac hc3 hx hy ih.1 (n := m) (by omega) z
      refine ⟨g.1, ?_⟩
      rcases g.2 with g2 | g2
      · rw [g2]
        exact ih.2
      · rcases ih.2 with i2 | i2
        · right
          rw [i2] at g2 ⊢
          exact g2
        · right
          omega
theorem gs_k0_KI : gs_KI gs_k0 := by
  refine ⟨fun i => ?_, fun n hn => ?_⟩
  · unfold gs_k0
    split <;> omega
  · unfold gs_k0
    by_cases z : n = 0
    · right
      intro v hv
      rw [if_pos (by omega)]
      omega
    · left
      intro v hv
      rw [if_neg (by omega)]
theorem gs_kit_KI (hac : ∀ n, ac n < 16) (hc3 : ∀ n, ak n = 3 → ac n < 4) (hx : ∀ n, ex n < 16) (hy : ∀ n, ey n < 16) (i : Nat) : gs_KI (gs_it (gs_ks ak av ac ek ev ex ey) i gs_k0) :=
  gs_it_inv (f := gs_ks ak av ac ek ev ex ey) gs_KI (fun x hx' => (gs_ks1_ok hac hc3 hx hy hx' 16 (by omega)).1) i gs_k0 gs_k0_KI
theorem gs_kF_fix (hac : ∀ n, ac n < 16) (hc3 : ∀ n, ak n = 3 → ac n < 4) (hx : ∀ n, ex n < 16) (hy : ∀ n, ey n < 16) : gs_ks ak av ac ek ev ex ey (gs_kF ak av ac ek ev ex ey) = gs_kF ak av ac ek ev ex ey := by
  rw [gs_kF_eq]
  exact gs_fx (gs_ks ak av ac ek ev ex ey) gs_KI gs_kc 80 (fun x hx' => (gs_ks1_ok hac hc3 hx hy hx' 16 (by omega)).1) (fun x _ => gs_kc_le x) (fun x hx' hne => ((gs_ks1_ok hac hc3 hx hy hx' 16 (by omega)).2).elim (fun z => absurd z hne) id) 81 gs_k0 gs_k0_KI (by omega)
theorem gs_kF_end (hac : ∀ n, ac n < 16) (hc3 : ∀ n, ak n = 3 → ac n < 4) (hx : ∀ n, ex n < 16) (hy : ∀ n, ey n < 16) {i : Nat} (h : gs_ks ak av ac ek ev ex ey (gs_it (gs_ks ak av ac ek ev ex ey) i gs_k0) = gs_it (gs_ks ak av ac ek ev ex ey) i gs_k0) : gs_it (gs_ks ak av ac ek ev ex ey) i gs_k0 = gs_kF ak av ac ek ev ex ey := by
  rcases Nat.le_total i 81 with z | z
  · have e : gs_kF ak av ac ek ev ex ey = gs_it (gs_ks ak av ac ek ev ex ey) ((81 - i) + i) gs_k0 := by rw [show 81 - i + i = 81 by omega]; exact gs_kF_eq ak av ac ek ev ex ey
    rw [e, gs_it_add, gs_it_fix h]
  · have e : gs_it (gs_ks ak av ac ek ev ex ey) i gs_k0 = gs_it (gs_ks ak av ac ek ev ex ey) ((i - 81) + 81) gs_k0 := by rw [show i - 81 + 81 = i by omega]
    rw [e, gs_it_add, ← gs_kF_eq]
    exact gs_it_fix (gs_kF_fix hac hc3 hx hy) _
end
