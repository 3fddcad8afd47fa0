/-! what is before, behind, in a loop: as closures; X goes backward where Y goes forward -/
noncomputable def gs_B (P : Prop) : Bool := @decide P (Classical.propDecidable P)
theorem gs_B_t {P : Prop} : gs_B P = true ↔ P := @decide_eq_true_iff P (Classical.propDecidable P)
theorem gs_B_f {P : Prop} : gs_B P = false ↔ ¬ P := by
  rw [← Bool.not_eq_true]
  exact not_congr gs_B_t
theorem gs_B_congr {P Q : Prop} (h : P ↔ Q) : gs_B P = gs_B Q := Bool.eq_iff_iff.mpr (gs_B_t.trans (h.trans gs_B_t.symm))
/-- the first node with a property, or -1 -/
def gs_Fst (r : Int32) (P : Nat → Prop) : Prop := (∃ d, d < 16 ∧ r = nI d ∧ P d ∧ ∀ e, e < d → ¬ P e) ∨ (r = -1 ∧ ∀ d, d < 16 → ¬ P d)
theorem gs_Fst_uniq {r s : Int32} {P Q : Nat → Prop} (h : gs_Fst r P) (h' : gs_Fst s Q) (e : ∀ i, i < 16 → (P i ↔ Q i)) : r = s := by
  rcases h with ⟨d, hd, rfl, hp, hl⟩ | ⟨rfl, hl⟩
  · rcases h' with ⟨d', hd', rfl, hp', hl'⟩ | ⟨rfl, hl'⟩
    · rcases Nat.lt_trichotomy d d' with z | z | z
      · exact absurd ((e d hd).mp hp) (hl' d z)
      · rw [z]
      · exact absurd ((e d' hd').mpr hp') (hl d' z)
    · exact absurd ((e d hd).mp hp) (hl' d hd)
  · rcases h' with ⟨d', hd', rfl, hp', hl'⟩ | ⟨rfl, hl'⟩
    · exact absurd ((e d' hd').mpr hp') (hl d' hd')
    · rfl
theorem gs_Fst_iff {r : Int32} {P Q : Nat → Prop} (h : gs_Fst r P) (e : ∀ i, i < 16 → (P i ↔ Q i)) : gs_Fst r Q := by
  rcases h with ⟨d, hd, hr, hp, hl⟩ | ⟨hr, hl⟩
  · exact Or.inl ⟨d, hd, hr, (e d hd).mp hp, fun x hx q => hl x hx ((e x (by omega)).mpr q)⟩
  · exact Or.inr ⟨hr, fun d hd q => hl d hd ((e d hd).mpr q)⟩
section
variable (ek ex ey : Nat → Nat)
/-- a way from a to m without nodes of W -/
def gs_W (W : Nat → Prop) (a m : Nat) : Prop := gs_cl (fun x => x = a ∧ ¬ W a) (fun j k => gs_E ek ex ey j k ∧ ¬ W k) m
/-- d is before n -/
def gs_bf (d n : Nat) : Prop := gs_sn ek ex ey n = true ∧ ¬ gs_W ek ex ey (fun x => x = d) 0 n
/-- a way from n to a STOP without W -/
def gs_Sp (W : Nat → Prop) (n : Nat) : Prop := ∃ m, gs_W ek ex ey W n m ∧ ek m = 0
/-- d is behind n -/
def gs_bh (d n : Nat) : Prop := gs_sn ek ex ey n = true ∧ gs_Sp ek ex ey (fun _ => False) n ∧ ¬ gs_Sp ek ex ey (fun x => x = d) n
/-- n is in the loop of h -/
def gs_ret (h p : Nat) : Prop := gs_sn ek ex ey p = true ∧ gs_E ek ex ey p h ∧ gs_bf ek ex ey h p
def gs_lp (h n : Nat) : Prop := ∃ p, gs_ret ek ex ey h p ∧ (n = h ∨ (gs_sn ek ex ey n = true ∧ gs_W ek ex ey (fun x => x = h) n p))
def gs_edge (m n : Nat) : Prop := (n = m ∨ ¬ gs_bf ek ex ey m n) ∧ ∃ p, p < 16 ∧ gs_sn ek ex ey p = true ∧ gs_E ek ex ey p n ∧ gs_bf ek ex ey m p
def gs_rul (n m : Nat) : Prop := (m = n ∨ ¬ gs_bh ek ex ey n m) ∧ ∃ s, s < 16 ∧ gs_sn ek ex ey m = true ∧ gs_E ek ex ey m s ∧ gs_bh ek ex ey n s
def gs_strt : Prop := ∀ n, n < 16 → ∀ s, s < 16 → gs_sn ek ex ey n = true → gs_E ek ex ey n s → gs_nu ek ex ey s ≤ gs_nu ek ex ey n → gs_bf ek ex ey s n
noncomputable def gs_mtc (s : Nat) : Nat → Bool := fun p => gs_B (gs_sn ek ex ey p = true ∧ gs_E ek ex ey p s ∧ gs_nu ek ex ey p < gs_nu ek ex ey s)
def gs_mt (s : Nat) : Prop := 1 < gs_cn (gs_mtc ek ex ey s) 16
/-- the nearest, by a relation C d n 'd is a cut of n' -/
def gs_near (C : Nat → Nat → Prop) (n d : Nat) : Prop := d ≠ n ∧ C d n ∧ ∀ e, e < 16 → e ≠ n → C e n → C e d
variable {ek ex ey}
theorem gs_W_nW {W : Nat → Prop} {a m : Nat} (h : gs_W ek ex ey W a m) : ¬ W m :=
  gs_cl_i h (fun m => ¬ W m) (fun j e => e.1 ▸ e.2) (fun _ _ _ _ e => e.2)
theorem gs_W_a {W : Nat → Prop} {a m : Nat} (h : gs_W ek ex ey W a m) : ¬ W a :=
  gs_cl_i h (fun _ => ¬ W a) (fun _ e => e.2) (fun _ _ _ s _ => s)
theorem gs_W_r {W : Nat → Prop} {a : Nat} (h : ¬ W a) : gs_W ek ex ey W a a := gs_cl_b ⟨rfl, h⟩
theorem gs_W_tr {W : Nat → Prop} {a b c : Nat} (h : gs_W ek ex ey W a b) (h' : gs_W ek ex ey W b c) : gs_W ek ex ey W a c :=
  gs_cl_i h' (fun c => gs_W ek ex ey W a c) (fun _ e => e.1 ▸ h) (fun _ _ _ s e => gs_cl_s s e)
theorem gs_W_h {W : Nat → Prop} {a b c : Nat} (ha : ¬ W a) (e : gs_E ek ex ey a b) (h : gs_W ek ex ey W b c) : gs_W ek ex ey W a c :=
  gs_W_tr (gs_cl_s (gs_W_r ha) ⟨e, gs_W_a h⟩) h
theorem gs_W_sub {W W' : Nat → Prop} {a m : Nat} (h : gs_W ek ex ey W a m) (hw : ∀ x, W' x → W x) : gs_W ek ex ey W' a m :=
  gs_cl_i h (fun m => gs_W ek ex ey W' a m) (fun _ e => by rw [e.1]; exact gs_W_r (fun z => e.2 (hw _ z))) (fun _ _ _ s e => gs_cl_s s ⟨e.1, fun z => e.2 (hw _ z)⟩)
theorem gs_W_congr {W W' : Nat → Prop} (hx : ∀ n, ex n < 16) (hy : ∀ n, ey n < 16) {a m : Nat} (ha : a < 16) (hw : ∀ x, x < 16 → (W x ↔ W' x)) (h : gs_W ek ex ey W a m) : gs_W ek ex ey W' a m :=
  gs_cl_i h (fun m => gs_W ek ex ey W' a m) (fun _ e => by rw [e.1]; exact gs_W_r (fun z => e.2 ((hw _ ha).mpr z))) (fun _ _ _ s e => gs_cl_s s ⟨e.1, fun z => e.2 ((hw _ (gs_E_lt ek ex ey hx hy e.1)).mpr z)⟩)
theorem gs_W_sn (hx : ∀ n, ex n < 16) (hy : ∀ n, ey n < 16) {W : Nat → Prop} {a m : Nat} (h : gs_W ek ex ey W a m) (ha : gs_sn ek ex ey a = true) : gs_sn ek ex ey m = true :=
  gs_cl_i h (fun m => gs_sn ek ex ey m = true) (fun _ e => e.1 ▸ ha) (fun _ _ _ s e => gs_sn_E hx hy s e.1)
theorem gs_sn_W (hx : ∀ n, ex n < 16) (hy : ∀ n, ey n < 16) {n : Nat} : gs_sn ek ex ey n = true ↔ gs_W ek ex ey (fun _ => False) 0 n := by
  rw [gs_sn_cl hx hy]
  constructor
  · exact fun h => gs_cl_mono h (fun j e => gs_cl_b ⟨e, id⟩) (fun j k _ s e => gs_cl_s s ⟨e, id⟩)
  · exact fun h => gs_cl_mono h (fun j e => gs_cl_b e.1) (fun j k _ s e => gs_cl_s s e.1)
/-- forward from node 0 along the links of seen nodes -/
theorem gs_fwd (hx : ∀ n, ex n < 16) (hy : ∀ n, ey n < 16) {W : Nat → Prop} {n : Nat} :
    gs_cl (fun i => i < 16 ∧ i = 0 ∧ ¬ W i) (fun j k => j < 16 ∧ k < 16 ∧ (gs_sn ek ex ey j = true ∧ gs_E ek ex ey j k) ∧ ¬ W k) n ↔ gs_W ek ex ey W 0 n := by
  constructor
  · exact fun h => gs_cl_mono h (fun j e => gs_cl_b ⟨e.2.1, e.2.1 ▸ e.2.2⟩) (fun j k _ s e => gs_cl_s s ⟨e.2.2.1.2, e.2.2.2⟩)
  · intro h
    apply gs_cl_mono h
    · rintro j ⟨rfl, e⟩
      exact gs_cl_b ⟨by omega, rfl, e⟩
    · intro j k hj s e
      have hs := gs_W_sn hx hy hj (gs_sn_0 hx hy)
      exact gs_cl_s s ⟨gs_sn_lt hx hy hs, gs_E_lt ek ex ey hx hy e.1, ⟨hs, e.1⟩, e.2⟩
/-- backward along the links of seen nodes -/
theorem gs_back (hx : ∀ n, ex n < 16) (hy : ∀ n, ey n < 16) {W F : Nat → Prop} (hF : ∀ i, F i → gs_sn ek ex ey i = true) {n : Nat} :
    gs_cl (fun i => i < 16 ∧ F i ∧ ¬ W i) (fun j k => j < 16 ∧ k < 16 ∧ (gs_sn ek ex ey k = true ∧ gs_E ek ex ey k j) ∧ ¬ W k) n ↔ gs_sn ek ex ey n = true ∧ ∃ m, F m ∧ gs_W ek ex ey W n m := by
  constructor
  · intro h
    refine gs_cl_i h (fun n => gs_sn ek ex ey n = true ∧ ∃ m, F m ∧ gs_W ek ex ey W n m) ?_ ?_
    · rintro j ⟨_, h1, h2⟩
      exact ⟨hF j h1, j, h1, gs_W_r h2⟩
    · rintro j k _ ⟨_, m, h1, h2⟩ ⟨_, _, h3, h4⟩
      exact ⟨h3.1, m, h1, gs_W_h h4 h3.2 h2⟩
  · rintro ⟨hn, m, h1, h2⟩
    have key := gs_cl_i h2 (fun m => (gs_sn ek ex ey m = true ∧ ¬ W m) ∧ (gs_cl (fun i => i < 16 ∧ F i ∧ ¬ W i) (fun j k => j < 16 ∧ k < 16 ∧ (gs_sn ek ex ey k = true ∧ gs_E ek ex ey k j) ∧ ¬ W k) m → gs_cl (fun i => i < 16 ∧ F i ∧ ¬ W i) (fun j k => j < 16 ∧ k < 16 ∧ (gs_sn ek ex ey k = true ∧ gs_E ek ex ey k j) ∧ ¬ W k) n)) ?_ ?_
    · exact key.2 (gs_cl_b ⟨gs_sn_lt hx hy key.1.1, h1, key.1.2⟩)
    · rintro j ⟨rfl, e⟩
      exact ⟨⟨hn, e⟩, id⟩
    · rintro j k _ ⟨⟨s1, s2⟩, s3⟩ ⟨e1, e2⟩
      exact ⟨⟨gs_sn_E hx hy s1 e1, e2⟩, fun c => s3 (gs_cl_s c ⟨gs_E_lt ek ex ey hx hy e1, gs_sn_lt hx hy s1, ⟨s1, e1⟩, s2⟩)⟩
theorem gs_bf_sn (hx : ∀ n, ex n < 16) (hy : ∀ n, ey n < 16) {d n : Nat} (h : gs_bf ek ex ey d n) : gs_sn ek ex ey d = true := by
  apply Classical.byContradiction
  intro hd
  apply h.2
  refine gs_cl_mono ((gs_sn_W hx hy).mp h.1) ?_ ?_
  · rintro j ⟨rfl, _⟩
    exact gs_cl_b ⟨rfl, fun z => hd (z ▸ gs_sn_0 hx hy)⟩
  · rintro j k hj s ⟨e, _⟩
    exact gs_cl_s s ⟨e, fun z => hd (z ▸ gs_sn_E hx hy ((gs_sn_W hx hy).mpr hj) e)⟩
theorem gs_bf_refl {d : Nat} (h : gs_sn ek ex ey d = true) : gs_bf ek ex ey d d := ⟨h, fun z => gs_W_nW z rfl⟩
theorem gs_bf_0 {d : Nat} (h : gs_bf ek ex ey d 0) : d = 0 := by
  apply Classical.byContradiction
  intro z
  exact h.2 (gs_W_r (fun q => z q.symm))
theorem gs_bh_sn (hx : ∀ n, ex n < 16) (hy : ∀ n, ey n < 16) {d n : Nat} (h : gs_bh ek ex ey d n) : gs_sn ek ex ey d = true := by
  apply Classical.byContradiction
  intro hd
  obtain ⟨h1, ⟨m, h2, h3⟩, h4⟩ := h
  apply h4
  refine ⟨m, ?_, h3⟩
  refine gs_cl_mono h2 ?_ ?_
  · rintro j ⟨rfl, _⟩
    exact gs_cl_b ⟨rfl, fun z => hd (z ▸ h1)⟩
  · rintro j k hj s ⟨e, _⟩
    exact gs_cl_s s ⟨e, fun z => hd (z ▸ gs_sn_E hx hy (gs_W_sn (W := fun _ => False) hx hy hj h1) e)⟩
/-- who is behind something has ways to a STOP -/
theorem gs_bh_sp (hx : ∀ n, ex n < 16) (hy : ∀ n, ey n < 16) {d n : Nat} (h : gs_bh ek ex ey d n) : gs_bh ek ex ey d d := by
  have hd := gs_bh_sn hx hy h
  obtain ⟨h1, ⟨m, h2, h3⟩, h4⟩ := h
  refine ⟨hd, ?_, fun ⟨q, hq, _⟩ => gs_W_a hq rfl⟩
  have key := gs_cl_i h2 (fun m => gs_W ek ex ey (fun x => x = d) n m ∨ gs_W ek ex ey (fun _ => False) d m) ?_ ?_
  · rcases key with k | k
    · exact absurd ⟨m, k, h3⟩ h4
    · exact ⟨m, k, h3⟩
  · rintro j ⟨rfl, _⟩
    by_cases z : j = d
    · exact Or.inr (z ▸ gs_W_r id)
    · exact Or.inl (gs_W_r z)
  · rintro j k _ (s | s) ⟨e, _⟩
    · by_cases z : k = d
      · exact Or.inr (z ▸ gs_W_r id)
      · exact Or.inl (gs_cl_s s ⟨e, z⟩)
    · exact Or.inr (gs_cl_s s ⟨e, id⟩)
theorem gs_lp_0 {h : Nat} : (∀ p, p < 16 → ¬ gs_ret ek ex ey h p) → (hx : ∀ n, ex n < 16) → (hy : ∀ n, ey n < 16) → ∀ n, ¬ gs_lp ek ex ey h n := by
  rintro h1 hx hy n ⟨p, hp, _⟩
  exact h1 p (gs_sn_lt hx hy hp.1) hp
theorem gs_lp_h {h p : Nat} (hp : gs_ret ek ex ey h p) : gs_lp ek ex ey h h := ⟨p, hp, Or.inl rfl⟩
end
