/-! the code: a machine of words and tasks; each node is written once; it ends, within bounds -/
section
variable (ek ex ey ev : Nat → Nat)
def gs_ch (m n : Nat) : Prop := gs_near (gs_bf ek ex ey) m n ∧ ∀ e, e < n → ¬ gs_near (gs_bf ek ex ey) m e
noncomputable def gs_way (n s : Nat) : Nat := if gs_nu ek ex ey s ≤ gs_nu ek ex ey n then 96 + s else if gs_B (gs_mt ek ex ey s) = true then 112 + s else 256 + s
noncomputable def gs_gon (n : Nat) : List Nat := if ek n = 0 then [128] else if ek n = 1 ∨ ex n = ey n then [gs_way ek ex ey n (ex n)] else [48 + ev n, gs_way ek ex ey n (ex n), 64, gs_way ek ex ey n (ey n), 80]
noncomputable def gs_kid (n m : Nat) : Bool := gs_B (gs_mt ek ex ey m ∧ gs_ch ek ex ey m n)
noncomputable def gs_hd (n : Nat) : Bool := gs_B (∃ p, gs_ret ek ex ey n p)
noncomputable def gs_ob (n : Nat) : Nat → List Nat × List Nat → List Nat × List Nat
  | 0, s => s
  | k + 1, s => gs_ob n k (if gs_kid ek ex ey n (gs_at (gs_lv ek ex ey) k) = true then ((32 + gs_at (gs_lv ek ex ey) k) :: s.1, 80 :: (256 + gs_at (gs_lv ek ex ey) k) :: s.2) else s)
noncomputable def gs_o1 (n : Nat) (s : List Nat × List Nat) : List Nat × List Nat := if gs_hd ek ex ey n = true then ((16 + n) :: s.1, 80 :: s.2) else s
noncomputable def gs_op (n : Nat) (s : List Nat × List Nat) : List Nat × List Nat :=
  (n :: (gs_ob ek ex ey n (gs_lv ek ex ey).length (gs_o1 ek ex ey n s)).1, gs_gon ek ex ey ev n ++ (gs_ob ek ex ey n (gs_lv ek ex ey).length (gs_o1 ek ex ey n s)).2)
noncomputable def gs_cs (s : List Nat × List Nat) : List Nat × List Nat :=
  match s with
  | (wd, []) => (wd, [])
  | (wd, t :: r) => if t < 256 then (t :: wd, r) else gs_op ek ex ey ev (t - 256) (wd, r)
def gs_Pa (p n : Nat) : Prop := (gs_mt ek ex ey n ∧ gs_ch ek ex ey n p) ∨ (¬ gs_mt ek ex ey n ∧ gs_sn ek ex ey p = true ∧ gs_E ek ex ey p n ∧ gs_nu ek ex ey p < gs_nu ek ex ey n)
def gs_pn : List Nat → List Nat
  | [] => []
  | t :: r => if t < 256 then gs_pn r else (t - 256) :: gs_pn r
def gs_p1 : List Nat → Nat
  | [] => 0
  | t :: r => (if t < 256 then 1 else 8) + gs_p1 r
def gs_p2 : List Nat → Nat
  | [] => 0
  | t :: r => (if t < 256 then 1 else 7) + gs_p2 r
def gs_un (Wr : Nat → Bool) (tk : List Nat) : Nat := gs_cn (fun n => !Wr n && !decide (n ∈ gs_pn tk)) 16
def gs_CI (Wr : Nat → Bool) (tk : List Nat) : Prop :=
  (∀ t, t ∈ tk → t < 256 ∨ (256 ≤ t ∧ gs_sn ek ex ey (t - 256) = true)) ∧ gs_nd (gs_pn tk) ∧ (∀ n, n ∈ gs_pn tk → Wr n = false) ∧
  (∀ n, n ∈ gs_pn tk ∨ Wr n = true → ∀ p, gs_Pa ek ex ey p n → Wr p = true)
variable {ek ex ey ev}
theorem gs_p1_len : ∀ tk, tk.length ≤ gs_p1 tk
  | [] => Nat.le_refl 0
  | t :: r => by
    have := gs_p1_len r
    simp only [gs_p1, List.length_cons]
    split <;> omega
theorem gs_pn_w {t : Nat} {r : List Nat} (h : t < 256) : gs_pn (t :: r) = gs_pn r := if_pos h
theorem gs_pn_c {n : Nat} {r : List Nat} : gs_pn ((256 + n) :: r) = n :: gs_pn r := by
  show (if 256 + n < 256 then _ else _) = _
  rw [if_neg (by omega), Nat.add_sub_cancel_left]
theorem gs_p1_w {t : Nat} {r : List Nat} (h : t < 256) : gs_p1 (t :: r) = 1 + gs_p1 r := by
  show (if t < 256 then 1 else 8) + gs_p1 r = _
  rw [if_pos h]
theorem gs_p1_c {n : Nat} {r : List Nat} : gs_p1 ((256 + n) :: r) = 8 + gs_p1 r := by
  show (if 256 + n < 256 then 1 else 8) + gs_p1 r = _
  rw [if_neg (by omega)]
theorem gs_p2_w {t : Nat} {r : List Nat} (h : t < 256) : gs_p2 (t :: r) = 1 + gs_p2 r := by
  show (if t < 256 then 1 else 7) + gs_p2 r = _
  rw [if_pos h]
theorem gs_p2_c {n : Nat} {r : List Nat} : gs_p2 ((256 + n) :: r) = 7 + gs_p2 r := by
  show (if 256 + n < 256 then 1 else 7) + gs_p2 r = _
  rw [if_neg (by omega)]
theorem gs_un_w {Wr : Nat → Bool} {t : Nat} {r : List Nat} (h : t < 256) : gs_un Wr (t :: r) = gs_un Wr r := by
  unfold gs_un
  rw [gs_pn_w h]
theorem gs_un_c {Wr : Nat → Bool} {c : Nat} {r : List Nat} (hc : c < 16) (h1 : c ∉ gs_pn r) (h2 : Wr c = false) : gs_un Wr r = gs_un Wr ((256 + c) :: r) + 1 := by
  unfold gs_un
  rw [gs_pn_c]
  apply gs_cn_ins (s := c) 16 hc
  · simp
  · intro i _
    by_cases e : i = c
    · subst e
      simp [h1, h2]
    · simp [e]
theorem gs_CI_w {Wr : Nat → Bool} {t : Nat} {r : List Nat} (h : gs_CI ek ex ey Wr r) (ht : t < 256) : gs_CI ek ex ey Wr (t :: r) := by
  obtain ⟨h1, h2, h3, h4⟩ := h
  unfold gs_CI
  rw [gs_pn_w ht]
  refine ⟨fun q hq => ?_, h2, h3, h4⟩
  rcases List.mem_cons.mp hq with rfl | hq
  · exact Or.inl ht
  · exact h1 q hq
theorem gs_CI_w' {Wr : Nat → Bool} {t : Nat} {r : List Nat} (h : gs_CI ek ex ey Wr (t :: r)) (ht : t < 256) : gs_CI ek ex ey Wr r := by
  obtain ⟨h1, h2, h3, h4⟩ := h
  rw [gs_pn_w ht] at h2 h3 h4
  exact ⟨fun q hq => h1 q (List.mem_cons_of_mem _ hq), h2, h3, h4⟩
theorem gs_Pa_uniq (hx : ∀ n, ex n < 16) (hy : ∀ n, ey n < 16) {p q n : Nat} (h : gs_Pa ek ex ey p n) (h' : gs_Pa ek ex ey q n) : p = q := by
  rcases h with ⟨h1, h2⟩ | ⟨h1, h2⟩
  · rcases h' with ⟨_, h3⟩ | ⟨h3, _⟩
    · rcases Nat.lt_trichotomy p q with z | z | z
      · exact absurd h2.1 (h3.2 p z)
      · exact z
      · exact absurd h3.1 (h2.2 q z)
    · exact absurd h1 h3
  · rcases h' with ⟨h3, _⟩ | ⟨_, h3⟩
    · exact absurd h3 h1
    · apply Classical.byContradiction
      intro z
      apply h1
      show 1 < gs_cn (gs_mtc ek ex ey n) 16
      have hp : gs_mtc ek ex ey n p = true := gs_B_t.mpr h2
      have hq : gs_mtc ek ex ey n q = true := gs_B_t.mpr h3
      have p16 := gs_sn_lt hx hy h2.1
      have q16 := gs_sn_lt hx hy h3.1
      have c1 := gs_cn_pos (P := fun i => decide (i = p)) (i := p) 16 p16 (decide_eq_true rfl)
      have c2 := gs_cn_lt (P := fun i => decide (i = p)) (Q := gs_mtc ek ex ey n) 16 (fun i _ hi => by rw [decide_eq_true_iff] at hi; rw [hi]; exact hp) ⟨q, q16, hq, fun w => z (decide_eq_true_iff.mp w).symm⟩
      omega
theorem gs_mt_0 (hx : ∀ n, ex n < 16) (hy : ∀ n, ey n < 16) : ¬ gs_mt ek ex ey 0 := by
  intro h
  have : gs_cn (gs_mtc ek ex ey 0) 16 = 0 := by
    apply gs_cn_0
    intro i _
    apply gs_B_f.mpr
    rintro ⟨_, _, h3⟩
    rw [gs_nu_0 hx hy] at h3
    omega
  unfold gs_mt at h
  omega
theorem gs_Pa_0 (hx : ∀ n, ex n < 16) (hy : ∀ n, ey n < 16) {p : Nat} : ¬ gs_Pa ek ex ey p 0 := by
  rintro (⟨h, _⟩ | ⟨_, _, _, h⟩)
  · exact gs_mt_0 hx hy h
  · rw [gs_nu_0 hx hy] at h
    omega
theorem gs_Pa_self {p : Nat} : ¬ gs_Pa ek ex ey p p := by
  rintro (⟨_, h⟩ | ⟨_, _, _, h⟩)
  · exact h.1.1 rfl
  · omega
theorem gs_CI_c (hx : ∀ n, ex n < 16) (hy : ∀ n, ey n < 16) {Wr : Nat → Bool} {n c : Nat} {r : List Nat} (h : gs_CI ek ex ey Wr r) (hs : gs_sn ek ex ey c = true) (hp : gs_Pa ek ex ey n c) (hn : Wr n = true) (h1 : c ∉ gs_pn r) (h2 : Wr c = false) : gs_CI ek ex ey Wr ((256 + c) :: r) := by
  obtain ⟨a1, a2, a3, a4⟩ := h
  unfold gs_CI
  rw [gs_pn_c]
  refine ⟨fun q hq => ?_, ⟨h1, a2⟩, fun m hm => ?_, fun m hm p hpm => ?_⟩
  · rcases List.mem_cons.mp hq with rfl | hq
    · exact Or.inr ⟨by omega, by rw [Nat.add_sub_cancel_left]; exact hs⟩
    · exact a1 q hq
  · rcases List.mem_cons.mp hm with rfl | hm
    · exact h2
    · exact a3 m hm
  · by_cases e : m = c
    · subst e
      rw [gs_Pa_uniq hx hy hpm hp]
      exact hn
    · refine a4 m (hm.imp (fun z => ?_) id) p hpm
      rcases List.mem_cons.mp z with z | z
      · exact absurd z e
      · exact z
/-- taking a node from the tasks: it counts as written -/
theorem gs_CI_take {Wr : Nat → Bool} {n : Nat} {r : List Nat} (h : gs_CI ek ex ey Wr ((256 + n) :: r)) : gs_CI ek ex ey (fun i => Wr i || decide (i = n)) r ∧ gs_un (fun i => Wr i || decide (i = n)) r = gs_un Wr ((256 + n) :: r) ∧ (∀ c, gs_Pa ek ex ey n c → c ∉ gs_pn r ∧ (Wr c || decide (c = n)) = false) := by
  obtain ⟨a1, a2, a3, a4⟩ := h
  rw [gs_pn_c] at a2 a3 a4
  have hn : Wr n = false := a3 n List.mem_cons_self
  refine ⟨⟨fun q hq => a1 q (List.mem_cons_of_mem _ hq), a2.2, fun m hm => ?_, fun m hm p hp => ?_⟩, ?_, fun c hc => ⟨fun z => ?_, ?_⟩⟩
  · show (Wr m || decide (m = n)) = false
    rw [a3 m (List.mem_cons_of_mem _ hm), Bool.false_or]
    exact decide_eq_false (show ¬ m = n from fun z => a2.1 (z ▸ hm))
  · have : Wr p = true := by
      rcases hm with hm | hm
      · exact a4 m (Or.inl (List.mem_cons_of_mem _ hm)) p hp
      · have hm : (Wr m || decide (m = n)) = true := hm
        rw [Bool.or_eq_true, decide_eq_true_iff] at hm
        rcases hm with hm | rfl
        · exact a4 m (Or.inr hm) p hp
        · exact a4 m (Or.inl List.mem_cons_self) p hp
    show (Wr p || decide (p = n)) = true
    rw [this, Bool.true_or]
  · unfold gs_un
    rw [gs_pn_c]
    apply gs_cn_congr
    intro i _
    by_cases e : i = n
    · subst e
      simp
    · simp [e]
  · have := a4 c (Or.inl (List.mem_cons_of_mem _ z)) n hc
    rw [hn] at this
    exact nomatch this
  · rw [Bool.or_eq_false_iff]
    constructor
    · cases q : Wr c
      · rfl
      · have := a4 c (Or.inr q) n hc
        rw [hn] at this
        exact nomatch this
    · exact decide_eq_false (show ¬ c = n from fun z => gs_Pa_self (z ▸ hc))
/-- lists only grow -/
theorem gs_ob_len (n : Nat) : ∀ k s, s.1.length ≤ (gs_ob ek ex ey n k s).1.length ∧ s.2.length ≤ (gs_ob ek ex ey n k s).2.length
  | 0, s => ⟨Nat.le_refl _, Nat.le_refl _⟩
  | k + 1, s => by
    have h := gs_ob_len n k (if gs_kid ek ex ey n (gs_at (gs_lv ek ex ey) k) = true then ((32 + gs_at (gs_lv ek ex ey) k) :: s.1, 80 :: (256 + gs_at (gs_lv ek ex ey) k) :: s.2) else s)
    unfold gs_ob
    by_cases z : gs_kid ek ex ey n (gs_at (gs_lv ek ex ey) k) = true
    · rw [if_pos z] at h ⊢
      simp only [List.length_cons] at h
      exact ⟨by omega, by omega⟩
    · rw [if_neg z] at h ⊢
      exact h
theorem gs_ob_ok (hx : ∀ n, ex n < 16) (hy : ∀ n, ey n < 16) {Wr : Nat → Bool} {n : Nat} {r : List Nat} (hn : Wr n = true) (hf : ∀ c, gs_Pa ek ex ey n c → c ∉ gs_pn r ∧ Wr c = false) : ∀ k s, k ≤ (gs_lv ek ex ey).length → gs_CI ek ex ey Wr s.2 → (∀ w, w ∈ s.1 → w < 256) → (∀ c, c ∈ gs_pn s.2 → c ∈ gs_pn r ∨ (gs_mt ek ex ey c ∧ k ≤ gs_nu ek ex ey c)) →
    gs_CI ek ex ey Wr (gs_ob ek ex ey n k s).2 ∧ (∀ w, w ∈ (gs_ob ek ex ey n k s).1 → w < 256) ∧ (∀ c, c ∈ gs_pn (gs_ob ek ex ey n k s).2 → c ∈ gs_pn r ∨ gs_mt ek ex ey c) ∧
    (gs_ob ek ex ey n k s).1.length + gs_p1 (gs_ob ek ex ey n k s).2 + 10 * gs_un Wr (gs_ob ek ex ey n k s).2 = s.1.length + gs_p1 s.2 + 10 * gs_un Wr s.2 ∧
    gs_p2 (gs_ob ek ex ey n k s).2 + 8 * gs_un Wr (gs_ob ek ex ey n k s).2 = gs_p2 s.2 + 8 * gs_un Wr s.2
  | 0, s, _, h1, h2, h3 => ⟨h1, h2, fun c hc => (h3 c hc).imp id (fun z => z.1), rfl, rfl⟩
  | k + 1, s, hk, h1, h2, h3 => by
    unfold gs_ob
    by_cases z : gs_kid ek ex ey n (gs_at (gs_lv ek ex ey) k) = true
    · rw [if_pos z]
      have hz := gs_B_t.mp z
      have hm : gs_at (gs_lv ek ex ey) k ∈ gs_lv ek ex ey := gs_at_mem _ k hk
      have hs : gs_sn ek ex ey (gs_at (gs_lv ek ex ey) k) = true := (gs_sn_lv hx hy).mpr hm
      have hnu : gs_nu ek ex ey (gs_at (gs_lv ek ex ey) k) = k := gs_ix_at _ k (gs_lv_nd hx hy) hk
      have h16 := gs_sn_lt hx hy hs
      generalize gs_at (gs_lv ek ex ey) k = m at hz hm hs hnu h16
      have hpa : gs_Pa ek ex ey n m := Or.inl hz
      have hfr : m ∉ gs_pn s.2 := by
        intro q
        rcases h3 m q with q | q
        · exact (hf m hpa).1 q
        · omega
      have hw := (hf m hpa).2
      have hc := gs_CI_w (t := 80) (gs_CI_c hx hy h1 hs hpa hn hfr hw) (by omega)
      have hu := gs_un_c (r := s.2) h16 hfr hw
      have hu2 : gs_un Wr (80 :: (256 + m) :: s.2) = gs_un Wr ((256 + m) :: s.2) := gs_un_w (by omega)
      have hq1 : gs_p1 (80 :: (256 + m) :: s.2) = 1 + (8 + gs_p1 s.2) := by rw [gs_p1_w (by omega), gs_p1_c]
      have hq2 : gs_p2 (80 :: (256 + m) :: s.2) = 1 + (7 + gs_p2 s.2) := by rw [gs_p2_w (by omega), gs_p2_c]
      have ih := gs_ob_ok hx hy hn hf k ((32 + m) :: s.1, 80 :: (256 + m) :: s.2) (by omega) hc ?_ ?_
      · obtain ⟨i1, i2, i3, i4, i5⟩ := ih
        refine ⟨i1, i2, i3, ?_, ?_⟩
        · rw [i4]
          simp only [List.length_cons]
          omega
        · rw [i5]
          simp only []
          omega
      · intro w hw
        rcases List.mem_cons.mp hw with rfl | hw
        · omega
        · exact h2 w hw
      · intro c hc
        have hc : c ∈ gs_pn (80 :: (256 + m) :: s.2) := hc
        rw [gs_pn_w (by omega), gs_pn_c] at hc
        rcases List.mem_cons.mp hc with rfl | hc
        · exact Or.inr ⟨hz.1, by omega⟩
        · exact (h3 c hc).imp id (fun z => ⟨z.1, by omega⟩)
    · rw [if_neg z]
      exact gs_ob_ok hx hy hn hf k s (by omega) h1 h2 (fun c hc => (h3 c hc).imp id (fun z => ⟨z.1, by omega⟩))
/-- a way's task on top -/
theorem gs_way_ok (hx : ∀ n, ex n < 16) (hy : ∀ n, ey n < 16) {Wr : Nat → Bool} {n s : Nat} {r : List Nat} (hn : Wr n = true) (hs : gs_sn ek ex ey n = true) (hE : gs_E ek ex ey n s) (hc : gs_CI ek ex ey Wr r) (hf : ¬ gs_mt ek ex ey s → gs_Pa ek ex ey n s → s ∉ gs_pn r ∧ Wr s = false) :
    gs_CI ek ex ey Wr (gs_way ek ex ey n s :: r) ∧ gs_p1 (gs_way ek ex ey n s :: r) + 10 * gs_un Wr (gs_way ek ex ey n s :: r) ≤ 1 + gs_p1 r + 10 * gs_un Wr r ∧ gs_p2 (gs_way ek ex ey n s :: r) + 8 * gs_un Wr (gs_way ek ex ey n s :: r) ≤ 1 + gs_p2 r + 8 * gs_un Wr r ∧ (∀ c, c ∈ gs_pn (gs_way ek ex ey n s :: r) → c = s ∨ c ∈ gs_pn r) := by
  have hs2 := gs_sn_E hx hy hs hE
  have h16 := gs_sn_lt hx hy hs2
  unfold gs_way
  by_cases z : gs_nu ek ex ey s ≤ gs_nu ek ex ey n
  · rw [if_pos z]
    have h : 96 + s < 256 := by omega
    exact ⟨gs_CI_w hc h, by rw [gs_p1_w h, gs_un_w h]; omega, by rw [gs_p2_w h, gs_un_w h]; omega, fun c hc => Or.inr (by rw [gs_pn_w h] at hc; exact hc)⟩
  · rw [if_neg z]
    by_cases q : gs_B (gs_mt ek ex ey s) = true
    · rw [if_pos q]
      have h : 112 + s < 256 := by omega
      exact ⟨gs_CI_w hc h, by rw [gs_p1_w h, gs_un_w h]; omega, by rw [gs_p2_w h, gs_un_w h]; omega, fun c hc => Or.inr (by rw [gs_pn_w h] at hc; exact hc)⟩
    · rw [if_neg q]
      have hm : ¬ gs_mt ek ex ey s := fun w => q (gs_B_t.mpr w)
      have hp : gs_Pa ek ex ey n s := Or.inr ⟨hm, hs, hE, by omega⟩
      have hfr := hf hm hp
      have hu := gs_un_c (r := r) h16 hfr.1 hfr.2
      refine ⟨gs_CI_c hx hy hc hs2 hp hn hfr.1 hfr.2, by rw [gs_p1_c]; omega, by rw [gs_p2_c]; omega, fun c hc => ?_⟩
      rw [gs_pn_c] at hc
      exact List.mem_cons.mp hc
theorem gs_op_ok (hk : ∀ n, ek n ≤ 2) (hx : ∀ n, ex n < 16) (hy : ∀ n, ey n < 16) (hv : ∀ n, ev n < 4) {Wr : Nat → Bool} {n : Nat} {wd r : List Nat} (h : gs_CI ek ex ey Wr ((256 + n) :: r)) (hw : ∀ w, w ∈ wd → w < 256) :
    ∃ Wr', gs_CI ek ex ey Wr' (gs_op ek ex ey ev n (wd, r)).2 ∧ (∀ w, w ∈ (gs_op ek ex ey ev n (wd, r)).1 → w < 256) ∧
    (gs_op ek ex ey ev n (wd, r)).1.length + gs_p1 (gs_op ek ex ey ev n (wd, r)).2 + 10 * gs_un Wr' (gs_op ek ex ey ev n (wd, r)).2 ≤ wd.length + gs_p1 ((256 + n) :: r) + 10 * gs_un Wr ((256 + n) :: r) ∧
    gs_p2 (gs_op ek ex ey ev n (wd, r)).2 + 8 * gs_un Wr' (gs_op ek ex ey ev n (wd, r)).2 + 1 ≤ gs_p2 ((256 + n) :: r) + 8 * gs_un Wr ((256 + n) :: r) := by
  have hs : gs_sn ek ex ey n = true := by
    rcases h.1 (256 + n) List.mem_cons_self with z | z
    · omega
    · rw [Nat.add_sub_cancel_left] at z
      exact z.2
  have h16 := gs_sn_lt hx hy hs
  obtain ⟨hc, hun, hf⟩ := gs_CI_take h
  refine ⟨fun i => Wr i || decide (i = n), ?_⟩
  rw [← hun, gs_p1_c, gs_p2_c]
  have hn : (fun i => Wr i || decide (i = n)) n = true := by simp
  have hf : ∀ c, gs_Pa ek ex ey n c → c ∉ gs_pn r ∧ (fun i => Wr i || decide (i = n)) c = false := hf
  generalize (fun i => Wr i || decide (i = n)) = V at hc hn hf ⊢
  -- the loop's words
  have s1 : gs_CI ek ex ey V (gs_o1 ek ex ey n (wd, r)).2 ∧ (∀ w, w ∈ (gs_o1 ek ex ey n (wd, r)).1 → w < 256) ∧ gs_pn (gs_o1 ek ex ey n (wd, r)).2 = gs_pn r ∧ (gs_o1 ek ex ey n (wd, r)).1.length + gs_p1 (gs_o1 ek ex ey n (wd, r)).2 ≤ wd.length + gs_p1 r + 2 ∧ gs_p2 (gs_o1 ek ex ey n (wd, r)).2 ≤ gs_p2 r + 1 ∧ gs_un V (gs_o1 ek ex ey n (wd, r)).2 = gs_un V r := by
    unfold gs_o1
    by_cases z : gs_hd ek ex ey n = true
    · rw [if_pos z]
      refine ⟨gs_CI_w hc (by omega), fun w hq => ?_, gs_pn_w (by omega), ?_, ?_, gs_un_w (by omega)⟩
      · rcases List.mem_cons.mp hq with rfl | hq
        · omega
        · exact hw w hq
      · rw [gs_p1_w (by omega)]
        simp only [List.length_cons]
        omega
      · rw [gs_p2_w (by omega)]
        show 1 + gs_p2 r ≤ gs_p2 r + 1
        omega
    · rw [if_neg z]
      exact ⟨hc, hw, rfl, by simp only []; omega, by simp only []; omega, rfl⟩
  obtain ⟨a1, a2, a3, a4, a5, a6⟩ := s1
  have s2 := gs_ob_ok hx hy (r := r) hn hf (gs_lv ek ex ey).length (gs_o1 ek ex ey n (wd, r)) (Nat.le_refl _) a1 a2 (fun c q => Or.inl (a3 ▸ q))
  unfold gs_op
  generalize gs_ob ek ex ey n (gs_lv ek ex ey).length (gs_o1 ek ex ey n (wd, r)) = s at s2
  obtain ⟨b1, b2, b3, b4, b5⟩ := s2
  obtain ⟨w2, t2⟩ := s
  simp only at b1 b2 b3 b4 b5
  have hww : ∀ w, w ∈ n :: w2 → w < 256 := fun w q => by
    rcases List.mem_cons.mp q with rfl | q
    · omega
    · exact b2 w q
  have fr : ∀ c, ¬ gs_mt ek ex ey c → gs_Pa ek ex ey n c → c ∉ gs_pn t2 ∧ V c = false := by
    intro c hm hp
    refine ⟨fun q => ?_, (hf c hp).2⟩
    rcases b3 c q with q | q
    · exact (hf c hp).1 q
    · exact hm q
  simp only [List.length_cons]
  unfold gs_gon
  by_cases k0 : ek n = 0
  · rw [if_pos k0]
    refine ⟨gs_CI_w b1 (by omega), hww, ?_, ?_⟩
    · show w2.length + 1 + gs_p1 (128 :: t2) + 10 * gs_un V (128 :: t2) ≤ _
      rw [gs_p1_w (by omega), gs_un_w (by omega)]
      omega
    · show gs_p2 (128 :: t2) + 8 * gs_un V (128 :: t2) + 1 ≤ _
      rw [gs_p2_w (by omega), gs_un_w (by omega)]
      omega
  · rw [if_neg k0]
    have hk2 := hk n
    have hEx : gs_E ek ex ey n (ex n) := by
      by_cases k1 : ek n = 1
      · exact Or.inl ⟨k1, rfl⟩
      · exact Or.inr ⟨by omega, Or.inl rfl⟩
    by_cases k1 : ek n = 1 ∨ ex n = ey n
    · rw [if_pos k1]
      obtain ⟨c1, c2, c3, _⟩ := gs_way_ok hx hy hn hs hEx b1 (fr (ex n))
      refine ⟨c1, hww, ?_, ?_⟩
      · show w2.length + 1 + gs_p1 (gs_way ek ex ey n (ex n) :: t2) + 10 * gs_un V (gs_way ek ex ey n (ex n) :: t2) ≤ _
        omega
      · show gs_p2 (gs_way ek ex ey n (ex n) :: t2) + 8 * gs_un V (gs_way ek ex ey n (ex n) :: t2) + 1 ≤ _
        omega
    · rw [if_neg k1]
      have hEy : gs_E ek ex ey n (ey n) := Or.inr ⟨by omega, Or.inr rfl⟩
      have hxy : ex n ≠ ey n := fun z => k1 (Or.inr z)
      have d1 := gs_CI_w (t := 80) b1 (by omega)
      obtain ⟨e1, e2, e3, e4⟩ := gs_way_ok hx hy (s := ey n) hn hs hEy d1 (fun q w => by rw [gs_pn_w (by omega)]; exact fr (ey n) q w)
      rw [gs_p1_w (by omega : 80 < 256), gs_un_w (by omega : 80 < 256)] at e2
      rw [gs_p2_w (by omega : 80 < 256), gs_un_w (by omega : 80 < 256)] at e3
      have f1 := gs_CI_w (t := 64) e1 (by omega)
      obtain ⟨g1, g2, g3, _⟩ := gs_way_ok hx hy (s := ex n) hn hs hEx f1 (fun q w => by
        rw [gs_pn_w (by omega)]
        refine ⟨fun y => ?_, (fr (ex n) q w).2⟩
        rcases e4 (ex n) y with y | y
        · exact hxy y
        · rw [gs_pn_w (by omega)] at y
          exact (fr (ex n) q w).1 y)
      rw [gs_p1_w (by omega : 64 < 256), gs_un_w (by omega : 64 < 256)] at g2
      rw [gs_p2_w (by omega : 64 < 256), gs_un_w (by omega : 64 < 256)] at g3
      have hev := hv n
      refine ⟨gs_CI_w g1 (by omega), hww, ?_, ?_⟩
      · show w2.length + 1 + gs_p1 ((48 + ev n) :: gs_way ek ex ey n (ex n) :: 64 :: gs_way ek ex ey n (ey n) :: 80 :: t2) + 10 * gs_un V ((48 + ev n) :: gs_way ek ex ey n (ex n) :: 64 :: gs_way ek ex ey n (ey n) :: 80 :: t2) ≤ _
        rw [gs_p1_w (by omega), gs_un_w (by omega)]
        omega
      · show gs_p2 ((48 + ev n) :: gs_way ek ex ey n (ex n) :: 64 :: gs_way ek ex ey n (ey n) :: 80 :: t2) + 8 * gs_un V ((48 + ev n) :: gs_way ek ex ey n (ex n) :: 64 :: gs_way ek ex ey n (ey n) :: 80 :: t2) + 1 ≤ _
        rw [gs_p2_w (by omega), gs_un_w (by omega)]
        omega
/-- the state of the machine: words below 256, tasks in order, potentials -/
def gs_CS (ek ex ey : Nat → Nat) (b : Nat) (s : List Nat × List Nat) : Prop := ∃ Wr, gs_CI ek ex ey Wr s.2 ∧ (∀ w, w ∈ s.1 → w < 256) ∧ s.1.length + gs_p1 s.2 + 10 * gs_un Wr s.2 ≤ 158 ∧ gs_p2 s.2 + 8 * gs_un Wr s.2 ≤ b
theorem gs_CS_0 (hx : ∀ n, ex n < 16) (hy : ∀ n, ey n < 16) : gs_CS ek ex ey 127 ([], [256]) := by
  refine ⟨fun _ => false, ⟨fun t ht => ?_, ?_, fun _ _ => rfl, fun n hn p hp => ?_⟩, (fun w hw => nomatch hw), by decide, by decide⟩
  · rcases List.mem_cons.mp ht with rfl | ht
    · exact Or.inr ⟨by omega, gs_sn_0 hx hy⟩
    · cases ht
  · exact ⟨(fun z => nomatch z), trivial⟩
  · rcases hn with hn | hn
    · rcases List.mem_cons.mp (show n ∈ [0] from hn) with rfl | hn
      · exact absurd hp (gs_Pa_0 hx hy)
      · cases hn
    · exact nomatch hn
theorem gs_CS_s (hk : ∀ n, ek n ≤ 2) (hx : ∀ n, ex n < 16) (hy : ∀ n, ey n < 16) (hv : ∀ n, ev n < 4) {b : Nat} {s : List Nat × List Nat} (h : gs_CS ek ex ey b s) (hne : s.2 ≠ []) : 1 ≤ b ∧ gs_CS ek ex ey (b - 1) (gs_cs ek ex ey ev s) := by
  obtain ⟨wd, tk⟩ := s
  obtain ⟨Wr, h1, h2, h3, h4⟩ := h
  cases tk with
  | nil => exact absurd rfl hne
  | cons t r =>
    simp only at h1 h2 h3 h4
    show 1 ≤ b ∧ gs_CS ek ex ey (b - 1) (if t < 256 then (t :: wd, r) else gs_op ek ex ey ev (t - 256) (wd, r))
    by_cases z : t < 256
    · rw [if_pos z]
      rw [gs_p1_w z, gs_un_w z] at h3
      rw [gs_p2_w z, gs_un_w z] at h4
      refine ⟨by omega, Wr, gs_CI_w' h1 z, fun w hw => ?_, ?_, ?_⟩
      · rcases List.mem_cons.mp hw with rfl | hw
        · exact z
        · exact h2 w hw
      · simp only [List.length_cons]
        omega
      · simp only []
        omega
    · rw [if_neg z]
      obtain ⟨n, rfl⟩ : ∃ n, t = 256 + n := ⟨t - 256, by omega⟩
      rw [Nat.add_sub_cancel_left]
      obtain ⟨V, o1, o2, o3, o4⟩ := gs_op_ok (ev := ev) hk hx hy hv h1 h2
      exact ⟨by omega, V, o1, o2, by omega, by omega⟩
theorem gs_CS_len {b : Nat} {s : List Nat × List Nat} (h : gs_CS ek ex ey b s) : s.1.length ≤ 158 ∧ s.2.length ≤ 158 := by
  obtain ⟨Wr, _, _, h3, _⟩ := h
  have := gs_p1_len s.2
  exact ⟨by omega, by omega⟩
theorem gs_cs_nil {s : List Nat × List Nat} (h : s.2 = []) : gs_cs ek ex ey ev s = s := by
  obtain ⟨wd, tk⟩ := s
  cases h
  rfl
variable (ek ex ey ev)
noncomputable def gs_cF : List Nat × List Nat := gs_seal (gs_it (gs_cs ek ex ey ev) 176 ([], [256]))
theorem gs_cF_eq : gs_cF ek ex ey ev = gs_it (gs_cs ek ex ey ev) 176 ([], [256]) := gs_seal_eq _
variable {ek ex ey ev}
theorem gs_CS_i (hk : ∀ n, ek n ≤ 2) (hx : ∀ n, ex n < 16) (hy : ∀ n, ey n < 16) (hv : ∀ n, ev n < 4) : ∀ i, ∃ b, gs_CS ek ex ey b (gs_it (gs_cs ek ex ey ev) i ([], [256])) ∧ ((gs_it (gs_cs ek ex ey ev) i ([], [256])).2 = [] ∨ b + i ≤ 127)
  | 0 => ⟨127, gs_CS_0 hx hy, Or.inr (by omega)⟩
  | i + 1 => by
    rw [gs_it_s]
    obtain ⟨b, h1, h2⟩ := gs_CS_i hk hx hy hv i
    by_cases z : (gs_it (gs_cs ek ex ey ev) i ([], [256])).2 = []
    · rw [gs_cs_nil z]
      exact ⟨b, h1, Or.inl z⟩
    · have h3 := gs_CS_s hk hx hy hv h1 z
      refine ⟨b - 1, h3.2, Or.inr ?_⟩
      rcases h2 with h2 | h2
      · exact absurd h2 z
      · omega
theorem gs_cF_nil (hk : ∀ n, ek n ≤ 2) (hx : ∀ n, ex n < 16) (hy : ∀ n, ey n < 16) (hv : ∀ n, ev n < 4) : (gs_cF ek ex ey ev).2 = [] := by
  rw [gs_cF_eq]
  obtain ⟨b, _, h⟩ := gs_CS_i (ev := ev) hk hx hy hv 176
  rcases h with h | h
  · exact h
  · omega
theorem gs_cF_end (hk : ∀ n, ek n ≤ 2) (hx : ∀ n, ex n < 16) (hy : ∀ n, ey n < 16) (hv : ∀ n, ev n < 4) {i : Nat} (h : (gs_it (gs_cs ek ex ey ev) i ([], [256])).2 = []) : gs_it (gs_cs ek ex ey ev) i ([], [256]) = gs_cF ek ex ey ev := by
  rcases Nat.le_total i 176 with z | z
  · have e : gs_cF ek ex ey ev = gs_it (gs_cs ek ex ey ev) ((176 - i) + i) ([], [256]) := by rw [show 176 - i + i = 176 by omega]; exact gs_cF_eq ek ex ey ev
    rw [e, gs_it_add, gs_it_fix (gs_cs_nil h)]
  · have e : gs_it (gs_cs ek ex ey ev) i ([], [256]) = gs_it (gs_cs ek ex ey ev) ((i - 176) + 176) ([], [256]) := by rw [show i - 176 + 176 = i by omega]
    rw [e, gs_it_add, ← gs_cF_eq]
    exact gs_it_fix (gs_cs_nil (gs_cF_nil hk hx hy hv)) _
variable (ek ex ey ev)
noncomputable def gs_ci (i : Nat) : List Nat × List Nat := gs_seal (gs_it (gs_cs ek ex ey ev) i ([], [256]))
theorem gs_ci_eq (i : Nat) : gs_ci ek ex ey ev i = gs_it (gs_cs ek ex ey ev) i ([], [256]) := gs_seal_eq _
theorem gs_ci_0 : gs_ci ek ex ey ev 0 = ([], [256]) := gs_ci_eq ek ex ey ev 0
theorem gs_ci_s (i : Nat) : gs_ci ek ex ey ev (i + 1) = gs_cs ek ex ey ev (gs_ci ek ex ey ev i) := by
  rw [gs_ci_eq, gs_ci_eq, gs_it_s]
theorem gs_ci_F : gs_ci ek ex ey ev 176 = gs_cF ek ex ey ev := by
  rw [gs_ci_eq, gs_cF_eq]
variable {ek ex ey ev}
theorem gs_ci_CS (hk : ∀ n, ek n ≤ 2) (hx : ∀ n, ex n < 16) (hy : ∀ n, ey n < 16) (hv : ∀ n, ev n < 4) (i : Nat) : ∃ b, gs_CS ek ex ey b (gs_ci ek ex ey ev i) := by
  obtain ⟨b, h, _⟩ := gs_CS_i (ev := ev) hk hx hy hv i
  exact ⟨b, by rw [gs_ci_eq]; exact h⟩
theorem gs_ci_end (hk : ∀ n, ek n ≤ 2) (hx : ∀ n, ex n < 16) (hy : ∀ n, ey n < 16) (hv : ∀ n, ev n < 4) {i : Nat} (h : (gs_ci ek ex ey ev i).2 = []) : gs_ci ek ex ey ev i = gs_cF ek ex ey ev := by
  rw [gs_ci_eq] at h ⊢
  exact gs_cF_end hk hx hy hv h
end
