/-! live variables: X's rounds against ways -/
theorem gs_fx2 {α : Type} (f : α → α) (St : α → Prop) (c : α → Nat) (M : Nat) (hI : ∀ x, St x → St (f x)) (hM : ∀ x, c x ≤ M) (hs : ∀ x, ¬ St x → c x < c (f x)) : ∀ k x, M ≤ c x + k → St (gs_it f k x) := by
  intro k
  induction k with
  | zero =>
    intro x hk
    apply Classical.byContradiction
    intro hn
    have h1 := hs x hn
    have h2 := hM (f x)
    omega
  | succ k ih =>
    intro x hk
    by_cases e : St x
    · exact gs_it_inv St hI (k + 1) x e
    · have h1 := hs x e
      exact ih (f x) (by omega)
section
variable (su rp : Nat → Int32)
def gs_lb (l : Nat → Int32) (n : Nat) : Nat → Int32
  | 0 => 0
  | s + 1 => if bt (su n) s = true then gs_lb l n s ||| l s else gs_lb l n s
def gs_ls1 (l : Nat → Int32) : Nat → Nat → Int32
  | 0 => l
  | n + 1 => upd (gs_ls1 l n) n (gs_ls1 l n n ||| (gs_lb su (gs_ls1 l n) n 16 &&& (rp n ^^^ (-1))))
def gs_ls (l : Nat → Int32) : Nat → Int32 := gs_ls1 su rp l 16
def gs_lc (v : Nat) (l : Nat → Int32) : Prop := ∀ n, n < 16 → ∀ s, s < 16 → bt (su n) s = true → ¬ bt (rp n) v = true → bt (l s) v = true → bt (l n) v = true
variable {su rp}
theorem gs_lb_bit {l : Nat → Int32} {n v : Nat} : ∀ m, bt (gs_lb su l n m) v = true ↔ ∃ s, s < m ∧ bt (su n) s = true ∧ bt (l s) v = true
  | 0 => by
    unfold gs_lb
    rw [b_0]
    exact ⟨(fun z => nomatch z), fun ⟨s, h, _⟩ => absurd h (Nat.not_lt_zero s)⟩
  | m + 1 => by
    unfold gs_lb
    have ih := gs_lb_bit (l := l) (n := n) (v := v) m
    by_cases z : bt (su n) m = true
    · rw [if_pos z, b_or, Bool.or_eq_true, ih]
      constructor
      · rintro (⟨s, h1, h2⟩ | h)
        · exact ⟨s, by omega, h2⟩
        · exact ⟨m, by omega, z, h⟩
      · rintro ⟨s, h1, h2, h3⟩
        by_cases e : s = m
        · exact Or.inr (e ▸ h3)
        · exact Or.inl ⟨s, by omega, h2, h3⟩
    · rw [if_neg z, ih]
      constructor
      · rintro ⟨s, h1, h2⟩
        exact ⟨s, by omega, h2⟩
      · rintro ⟨s, h1, h2, h3⟩
        by_cases e : s = m
        · exact absurd (e ▸ h2) z
        · exact ⟨s, by omega, h2, h3⟩
theorem gs_lstep {l : Nat → Int32} {v : Nat} (hv : v < 32) (m i : Nat) : bt (gs_ls1 su rp l (m + 1) i) v = true ↔ bt (gs_ls1 su rp l m i) v = true ∨ (i = m ∧ ¬ bt (rp m) v = true ∧ ∃ s, s < 16 ∧ bt (su m) s = true ∧ bt (gs_ls1 su rp l m s) v = true) := by
  show bt (upd (gs_ls1 su rp l m) m (gs_ls1 su rp l m m ||| (gs_lb su (gs_ls1 su rp l m) m 16 &&& (rp m ^^^ (-1)))) i) v = true ↔ _
  by_cases e : i = m
  · subst e
    rw [pk_us, b_or, b_and, gs_not _ _ hv, Bool.or_eq_true, Bool.and_eq_true, gs_lb_bit 16, Bool.not_eq_true', ← Bool.not_eq_true]
    constructor
    · rintro (h | ⟨h1, h2⟩)
      · exact Or.inl h
      · exact Or.inr ⟨rfl, h2, h1⟩
    · rintro (h | ⟨_, h2, h1⟩)
      · exact Or.inl h
      · exact Or.inr ⟨h1, h2⟩
  · rw [pk_un e]
    constructor
    · exact Or.inl
    · rintro (h | h)
      · exact h
      · exact absurd h.1 e
theorem gs_lmono {l : Nat → Int32} {v i : Nat} (hv : v < 32) {m : Nat} : ∀ k, m ≤ k → bt (gs_ls1 su rp l m i) v = true → bt (gs_ls1 su rp l k i) v = true := by
  intro k
  induction k with
  | zero => intro h; cases Nat.le_zero.mp h; exact id
  | succ k ih =>
    intro h hb
    by_cases e : m = k + 1
    · exact e ▸ hb
    · exact (gs_lstep hv k i).mpr (Or.inl (ih (by omega) hb))
theorem gs_lkeep {l : Nat → Int32} {v : Nat} (hv : v < 32) (hc : gs_lc su rp v l) : ∀ m, m ≤ 16 → ∀ i, (bt (gs_ls1 su rp l m i) v = true ↔ bt (l i) v = true) := by
  intro m
  induction m with
  | zero => intro _ i; exact Iff.rfl
  | succ m ih =>
    intro hm i
    rw [gs_lstep hv, ih (by omega) i]
    constructor
    · rintro (h | ⟨rfl, h2, s, h3, h4, h5⟩)
      · exact h
      · exact hc i (by omega) s h3 h4 h2 ((ih (by omega) s).mp h5)
    · exact Or.inl
theorem gs_lsnd {l : Nat → Int32} {v : Nat} (hv : v < 32) (S : Nat → Prop) (h0 : ∀ i, i < 16 → bt (l i) v = true → S i) (h1 : ∀ n s, n < 16 → s < 16 → bt (su n) s = true → ¬ bt (rp n) v = true → S s → S n) : ∀ m, m ≤ 16 → ∀ i, i < 16 → bt (gs_ls1 su rp l m i) v = true → S i := by
  intro m
  induction m with
  | zero => intro _ i hi h; exact h0 i hi h
  | succ m ih =>
    intro hm i hi h
    rcases (gs_lstep hv m i).mp h with h | ⟨rfl, h2, s, h3, h4, h5⟩
    · exact ih (by omega) i hi h
    · exact h1 i s hi h3 h4 h2 (ih (by omega) s h3 h5)
theorem gs_lgrow {l : Nat → Int32} {v : Nat} (hv : v < 32) (hn : ¬ gs_lc su rp v l) : gs_cn (fun n => bt (l n) v) 16 < gs_cn (fun n => bt (gs_ls su rp l n) v) 16 := by
  apply gs_cn_lt 16 (fun i _ h => gs_lmono (m := 0) hv 16 (by omega) h)
  apply Classical.byContradiction
  intro hx
  apply hn
  intro n hn1 s hs h1 h2 h3
  apply Classical.byContradiction
  intro h4
  apply hx
  refine ⟨n, hn1, ?_, h4⟩
  exact gs_lmono hv 16 (by omega : n + 1 ≤ 16) ((gs_lstep hv n n).mpr (Or.inr ⟨rfl, h2, s, hs, h1, gs_lmono (m := 0) hv n (by omega) h3⟩))
/-- after 15 rounds -/
theorem gs_live_ok {l : Nat → Int32} {v : Nat} (hv : v < 32) {n : Nat} (hn : n < 16) : bt (gs_it (gs_ls su rp) 15 l n) v = true ↔ ∃ m, m < 16 ∧ gs_cl (fun x => x = n) (fun j k => j < 16 ∧ k < 16 ∧ bt (su j) k = true ∧ ¬ bt (rp j) v = true) m ∧ bt (l m) v = true := by
  have hcl : gs_lc su rp v (gs_it (gs_ls su rp) 15 l) := by
    by_cases z : ∃ i, i < 16 ∧ bt (l i) v = true
    · obtain ⟨i, hi, hb⟩ := z
      have := gs_cn_pos (P := fun n => bt (l n) v) 16 hi hb
      refine gs_fx2 (gs_ls su rp) (gs_lc su rp v) (fun l => gs_cn (fun n => bt (l n) v) 16) 16 ?_ (fun _ => gs_cn_le _ 16) (fun x h => gs_lgrow hv h) 15 l (by omega)
      intro x hc a ha s hs h1 h2 h3
      have hk := gs_lkeep hv hc 16 (by omega)
      exact (hk a).mpr (hc a ha s hs h1 h2 ((hk s).mp h3))
    · have key := gs_it_inv (f := gs_ls su rp) (fun l => ∀ i, i < 16 → ¬ bt (l i) v = true) (fun x hx i hi h => gs_lsnd hv (fun _ => False) (fun i hi h => hx i hi h) (fun _ _ _ _ _ _ h => h) 16 (by omega) i hi h) 15 l (fun i hi h => z ⟨i, hi, h⟩)
      intro a _ s hs _ _ h3
      exact absurd h3 (key s hs)
  have hup : ∀ i, bt (l i) v = true → bt (gs_it (gs_ls su rp) 15 l i) v = true := fun i h => gs_it_inv (f := gs_ls su rp) (fun x => bt (x i) v = true) (fun x h => gs_lmono (m := 0) hv 16 (by omega) h) 15 l h
  constructor
  · have key := gs_it_inv (f := gs_ls su rp) (fun x => ∀ i, i < 16 → bt (x i) v = true → ∃ m, m < 16 ∧ gs_cl (fun x => x = i) (fun j k => j < 16 ∧ k < 16 ∧ bt (su j) k = true ∧ ¬ bt (rp j) v = true) m ∧ bt (l m) v = true) ?_ 15 l (fun i hi h => ⟨i, hi, gs_cl_b rfl, h⟩)
    · exact key n hn
    · intro x hx i hi h
      refine gs_lsnd hv (fun i => ∃ m, m < 16 ∧ gs_cl (fun x => x = i) (fun j k => j < 16 ∧ k < 16 ∧ bt (su j) k = true ∧ ¬ bt (rp j) v = true) m ∧ bt (l m) v = true) hx ?_ 16 (by omega) i hi h
      rintro a s ha hs h1 h2 ⟨m, hm, h3, h4⟩
      exact ⟨m, hm, gs_cl_tr h3 (gs_cl_s (gs_cl_b rfl) ⟨ha, hs, h1, h2⟩), h4⟩
  · rintro ⟨m, _, h1, h2⟩
    refine gs_cl_i h1 (fun m => bt (gs_it (gs_ls su rp) 15 l m) v = true → bt (gs_it (gs_ls su rp) 15 l n) v = true) ?_ ?_ (hup m h2)
    · rintro j rfl
      exact id
    · rintro j k _ s ⟨e1, e2, e3, e4⟩ h
      exact s (hcl j e1 k e2 e3 e4 h)
end
