/-! the graph: ek n its end's kind, ex n and ey n where it goes; going through it deeper first -/
theorem gs_it_add {α : Type} (f : α → α) (m : Nat) : ∀ (n : Nat) (x : α), gs_it f (m + n) x = gs_it f m (gs_it f n x)
  | 0, _ => rfl
  | n + 1, x => gs_it_add f m n (f x)
theorem gs_sealed {α : Type} (x : α) : ∃ y, y = x := ⟨x, rfl⟩
noncomputable def gs_seal {α : Type} (x : α) : α := Classical.choose (gs_sealed x)
theorem gs_seal_eq {α : Type} (x : α) : gs_seal x = x := Classical.choose_spec (gs_sealed x)
def gs_nd : List Nat → Prop
  | [] => True
  | x :: t => x ∉ t ∧ gs_nd t
def gs_ix : List Nat → Nat → Nat
  | [], _ => 0
  | x :: t, n => if x = n then 0 else gs_ix t n + 1
theorem gs_ix_lt : ∀ (l : List Nat) (n : Nat), n ∈ l → gs_ix l n < l.length
  | [], _, h => by cases h
  | x :: t, n, h => by
    unfold gs_ix
    by_cases e : x = n
    · rw [if_pos e]; exact Nat.succ_pos _
    · rw [if_neg e]
      have h2 : n ∈ t := by
        rcases List.mem_cons.mp h with h | h
        · exact absurd h.symm e
        · exact h
      have := gs_ix_lt t n h2
      simp only [List.length_cons]
      omega
theorem gs_ix_inj : ∀ (l : List Nat) (m n : Nat), m ∈ l → n ∈ l → gs_ix l m = gs_ix l n → m = n
  | [], _, _, h, _, _ => by cases h
  | x :: t, m, n, hm, hn, h => by
    unfold gs_ix at h
    by_cases e : x = m
    · by_cases e' : x = n
      · exact e.symm.trans e'
      · rw [if_pos e, if_neg e'] at h; omega
    · by_cases e' : x = n
      · rw [if_neg e, if_pos e'] at h; omega
      · rw [if_neg e, if_neg e'] at h
        have hm2 : m ∈ t := (List.mem_cons.mp hm).elim (fun z => absurd z.symm e) id
        have hn2 : n ∈ t := (List.mem_cons.mp hn).elim (fun z => absurd z.symm e') id
        exact gs_ix_inj t m n hm2 hn2 (by omega)
/-- the k-th of a list, counted from its head -/
def gs_at : List Nat → Nat → Nat
  | [], _ => 0
  | x :: _, 0 => x
  | _ :: t, k + 1 => gs_at t k
theorem gs_at_mem : ∀ (l : List Nat) (k : Nat), k < l.length → gs_at l k ∈ l
  | [], _, h => absurd h (by simp)
  | x :: t, 0, _ => List.mem_cons_self
  | x :: t, k + 1, h => List.mem_cons_of_mem x (gs_at_mem t k (by simp only [List.length_cons] at h; omega))
theorem gs_at_ix : ∀ (l : List Nat) (n : Nat), n ∈ l → gs_at l (gs_ix l n) = n
  | [], _, h => by cases h
  | x :: t, n, h => by
    unfold gs_ix
    by_cases e : x = n
    · rw [if_pos e]; exact e
    · rw [if_neg e]
      exact gs_at_ix t n ((List.mem_cons.mp h).elim (fun z => absurd z.symm e) id)
theorem gs_ix_at : ∀ (l : List Nat) (k : Nat), gs_nd l → k < l.length → gs_ix l (gs_at l k) = k
  | [], _, _, h => absurd h (by simp)
  | x :: t, 0, _, _ => if_pos rfl
  | x :: t, k + 1, hn, h => by
    have hk : k < t.length := by simp only [List.length_cons] at h; omega
    have hm := gs_at_mem t k hk
    show (if x = gs_at t k then 0 else gs_ix t (gs_at t k) + 1) = k + 1
    rw [if_neg (show ¬ x = gs_at t k from fun z => hn.1 (z ▸ hm)), gs_ix_at t k hn.2 hk]
/-- a stack in an array: the head of the list lies on top -/
def gs_st (a : Nat → Int32) : List Nat → Prop
  | [] => True
  | x :: t => a t.length = nI x ∧ gs_st a t
theorem gs_st_upd {a : Nat → Int32} {k : Nat} {v : Int32} : ∀ (l : List Nat), l.length ≤ k → gs_st a l → gs_st (upd a k v) l
  | [], _, _ => trivial
  | x :: t, hk, h => by
    simp only [List.length_cons] at hk
    exact ⟨(pk_un (by omega)).trans h.1, gs_st_upd t (by omega) h.2⟩
theorem gs_st_push {a : Nat → Int32} {l : List Nat} {x : Nat} (h : gs_st a l) : gs_st (upd a l.length (nI x)) (x :: l) :=
  ⟨pk_us, gs_st_upd l (Nat.le_refl _) h⟩
/-- a list in an array by its places, the head last: a (length - 1 - k) is the k-th -/
theorem gs_st_at {a : Nat → Int32} : ∀ (l : List Nat) (k : Nat), gs_st a l → k < l.length → a (l.length - 1 - k) = nI (gs_at l k)
  | [], _, _, h => absurd h (by simp)
  | x :: t, 0, h, _ => by
    simp only [List.length_cons]
    exact h.1
  | x :: t, k + 1, h, hk => by
    simp only [List.length_cons] at hk ⊢
    have := gs_st_at t k h.2 (by omega)
    rw [show t.length + 1 - 1 - (k + 1) = t.length - 1 - k by omega]
    exact this
section
variable (ek ex ey : Nat → Nat)
def gs_E (n s : Nat) : Prop := (ek n = 1 ∧ ex n = s) ∨ (ek n = 2 ∧ (ex n = s ∨ ey n = s))
def gs_sc (n k : Nat) : Option Nat := if ek n = 2 then (if k = 0 then some (ex n) else some (ey n)) else if ek n = 1 ∧ k = 0 then some (ex n) else none
def gs_af (n : Nat) : Nat := if ek n = 0 then 0 else if ek n = 1 ∨ ex n = ey n then 1 else 2
def gs_ns (n k : Nat) : Nat := if k = 0 then ex n else ey n
theorem gs_af_le (n : Nat) : gs_af ek ex ey n ≤ 2 := by
  unfold gs_af
  split
  · omega
  · split <;> omega
theorem gs_E_sc {n s : Nat} : gs_E ek ex ey n s ↔ ∃ k, k < 2 ∧ gs_sc ek ex ey n k = some s := by
  unfold gs_E gs_sc
  constructor
  · rintro (⟨h, rfl⟩ | ⟨h, rfl | rfl⟩)
    · exact ⟨0, by omega, by simp [h]⟩
    · exact ⟨0, by omega, by simp [h]⟩
    · exact ⟨1, by omega, by simp [h]⟩
  · rintro ⟨k, hk, h⟩
    by_cases h2 : ek n = 2
    · rw [if_pos h2] at h
      right
      refine ⟨h2, ?_⟩
      by_cases z : k = 0
      · rw [if_pos z] at h
        exact Or.inl (Option.some.inj h)
      · rw [if_neg z] at h
        exact Or.inr (Option.some.inj h)
    · rw [if_neg h2] at h
      by_cases h1 : ek n = 1 ∧ k = 0
      · rw [if_pos h1] at h
        exact Or.inl ⟨h1.1, Option.some.inj h⟩
      · rw [if_neg h1] at h
        exact nomatch h
theorem gs_E_af (hk : ∀ n, ek n ≤ 2) {n s : Nat} : gs_E ek ex ey n s ↔ ∃ k, k < gs_af ek ex ey n ∧ gs_ns ex ey n k = s := by
  have h3 := hk n
  unfold gs_E gs_af gs_ns
  constructor
  · rintro (⟨h, rfl⟩ | ⟨h, rfl | rfl⟩)
    · exact ⟨0, by simp [h], rfl⟩
    · refine ⟨0, ?_, rfl⟩
      rw [if_neg (by omega)]
      split <;> omega
    · by_cases z : ex n = ey n
      · exact ⟨0, by simp [h, z], by simp [z]⟩
      · exact ⟨1, by simp [h, z], rfl⟩
  · rintro ⟨k, hk, h⟩
    by_cases h0 : ek n = 0
    · rw [if_pos h0] at hk
      omega
    · rw [if_neg h0] at hk
      by_cases h1 : ek n = 1
      · rw [if_pos (Or.inl h1)] at hk
        rw [if_pos (by omega)] at h
        exact Or.inl ⟨h1, h⟩
      · refine Or.inr ⟨by omega, ?_⟩
        by_cases z : k = 0
        · rw [if_pos z] at h
          exact Or.inl h
        · rw [if_neg z] at h
          exact Or.inr h
theorem gs_E_lt (hx : ∀ n, ex n < 16) (hy : ∀ n, ey n < 16) {n s : Nat} (h : gs_E ek ex ey n s) : s < 16 := by
  rcases h with ⟨_, rfl⟩ | ⟨_, rfl | rfl⟩
  · exact hx n
  · exact hx n
  · exact hy n
/-- one look: (the nodes that are gone through with their next sides, those come to, those left) -/
def gs_ds (S : List (Nat × Nat) × (Nat → Bool) × List Nat) : List (Nat × Nat) × (Nat → Bool) × List Nat :=
  match S with
  | ([], sn, lv) => ([], sn, lv)
  | ((n, k) :: t, sn, lv) => if k = 2 then (t, sn, n :: lv) else
      match gs_sc ek ex ey n k with
      | none => ((n, k + 1) :: t, sn, lv)
      | some s => if sn s = true then ((n, k + 1) :: t, sn, lv) else ((s, 0) :: (n, k + 1) :: t, (fun i => sn i || decide (i = s)), lv)
def gs_d0 : List (Nat × Nat) × (Nat → Bool) × List Nat := ([(0, 0)], (fun i => decide (i = 0)), [])
def gs_sz : List (Nat × Nat) → Nat
  | [] => 0
  | e :: t => (3 - e.2) + gs_sz t
def gs_mu (S : List (Nat × Nat) × (Nat → Bool) × List Nat) : Nat := gs_sz S.1 + 3 * (16 - gs_cn S.2.1 16)
def gs_Inv (stk : List (Nat × Nat)) (sn : Nat → Bool) (lv : List Nat) : Prop :=
  (∀ e, e ∈ stk → e.1 < 16 ∧ e.2 ≤ 2 ∧ sn e.1 = true) ∧
  (∀ n, n ∈ lv → n < 16 ∧ sn n = true) ∧
  gs_nd (stk.map Prod.fst) ∧ gs_nd lv ∧ (∀ n, n ∈ stk.map Prod.fst → n ∉ lv) ∧
  (∀ n, sn n = true → n ∈ stk.map Prod.fst ∨ n ∈ lv) ∧
  (∀ e, e ∈ stk → ∀ j, j < e.2 → ∀ s, gs_sc ek ex ey e.1 j = some s → sn s = true) ∧
  (∀ n, n ∈ lv → ∀ j, j < 2 → ∀ s, gs_sc ek ex ey n j = some s → sn s = true) ∧
  (∀ n, sn n = true → gs_cl (fun x => x = 0) (gs_E ek ex ey) n) ∧
  sn 0 = true ∧
  ((stk = [] ∧ ∃ t, lv = 0 :: t) ∨ ∃ t k, stk = t ++ [(0, k)])
variable {ek ex ey}
theorem gs_Inv_pop {n : Nat} {t : List (Nat × Nat)} {sn : Nat → Bool} {lv : List Nat} (h : gs_Inv ek ex ey ((n, 2) :: t) sn lv) : gs_Inv ek ex ey t sn (n :: lv) := by
  obtain ⟨h1, h2, h3, h4, h5, h6, h7, h8, h9, h10, h11⟩ := h
  have hn := h1 (n, 2) List.mem_cons_self
  rw [List.map_cons] at h3 h5 h6
  refine ⟨fun e he => h1 e (List.mem_cons_of_mem _ he), ?_, h3.2, ⟨h5 n List.mem_cons_self, h4⟩, ?_, ?_, fun e he => h7 e (List.mem_cons_of_mem _ he), ?_, h9, h10, ?_⟩
  · intro m hm
    rcases List.mem_cons.mp hm with rfl | hm
    · exact ⟨hn.1, hn.2.2⟩
    · exact h2 m hm
  · intro m hm hx
    rcases List.mem_cons.mp hx with rfl | hx
    · exact h3.1 hm
    · exact h5 m (List.mem_cons_of_mem _ hm) hx
  · intro m hm
    rcases h6 m hm with z | z
    · rcases List.mem_cons.mp z with rfl | z
      · exact Or.inr List.mem_cons_self
      · exact Or.inl z
    · exact Or.inr (List.mem_cons_of_mem _ z)
  · intro m hm j hj s hs
    rcases List.mem_cons.mp hm with rfl | hm
    · exact h7 (m, 2) List.mem_cons_self j hj s hs
    · exact h8 m hm j hj s hs
  · rcases h11 with ⟨z, _⟩ | ⟨t', k, z⟩
    · exact nomatch z
    · cases t' with
      | nil =>
        have z1 := (List.cons.inj z).1
        have z2 := (List.cons.inj z).2
        have z3 : n = 0 := congrArg Prod.fst z1
        exact Or.inl ⟨z2, lv, by rw [z3]⟩
      | cons y t'' => exact Or.inr ⟨t'', k, (List.cons.inj z).2⟩
theorem gs_Inv_step {n k : Nat} {t : List (Nat × Nat)} {sn : Nat → Bool} {lv : List Nat} (h : gs_Inv ek ex ey ((n, k) :: t) sn lv) (hk : k < 2) (hs : ∀ s, gs_sc ek ex ey n k = some s → sn s = true) : gs_Inv ek ex ey ((n, k + 1) :: t) sn lv := by
  obtain ⟨h1, h2, h3, h4, h5, h6, h7, h8, h9, h10, h11⟩ := h
  refine ⟨?_, h2, h3, h4, h5, h6, ?_, h8, h9, h10, ?_⟩
  · intro e he
    rcases List.mem_cons.mp he with rfl | he
    · have := h1 (n, k) List.mem_cons_self
      exact ⟨this.1, (by omega : k + 1 ≤ 2), this.2.2⟩
    · exact h1 e (List.mem_cons_of_mem _ he)
  · intro e he j hj s hsc
    rcases List.mem_cons.mp he with rfl | he
    · by_cases z : j = k
      · subst z
        exact hs s hsc
      · have hj' : j < k + 1 := hj
        exact h7 (n, k) List.mem_cons_self j (by show j < k; omega) s hsc
    · exact h7 e (List.mem_cons_of_mem _ he) j hj s hsc
  · rcases h11 with ⟨z, _⟩ | ⟨t', k', z⟩
    · exact nomatch z
    · cases t' with
      | nil =>
        have z1 := (List.cons.inj z).1
        have z2 := (List.cons.inj z).2
        have z3 : n = 0 := congrArg Prod.fst z1
        exact Or.inr ⟨[], k + 1, by rw [z3, z2]; rfl⟩
      | cons y t'' => exact Or.inr ⟨(n, k + 1) :: t'', k', by rw [(List.cons.inj z).2]; rfl⟩
theorem gs_Inv_push (hx : ∀ n, ex n < 16) (hy : ∀ n, ey n < 16) {n k s : Nat} {t : List (Nat × Nat)} {sn : Nat → Bool} {lv : List Nat} (h : gs_Inv ek ex ey ((n, k) :: t) sn lv) (hk : k < 2) (hs : gs_sc ek ex ey n k = some s) (hn : ¬ sn s = true) : gs_Inv ek ex ey ((s, 0) :: (n, k + 1) :: t) (fun i => sn i || decide (i = s)) lv := by
  obtain ⟨h1, h2, h3, h4, h5, h6, h7, h8, h9, h10, h11⟩ := h
  have hE : gs_E ek ex ey n s := (gs_E_sc ek ex ey).mpr ⟨k, hk, hs⟩
  have hs16 : s < 16 := gs_E_lt ek ex ey hx hy hE
  have up : ∀ m, sn m = true → (sn m || decide (m = s)) = true := fun m hm => by rw [hm, Bool.true_or]
  have hsS : (sn s || decide (s = s)) = true := by rw [decide_eq_true rfl, Bool.or_true]
  have hnn := h1 (n, k) List.mem_cons_self
  have hsn : s ∉ ((n, k) :: t).map Prod.fst := by
    intro z
    obtain ⟨e, he, hes⟩ := List.mem_map.mp z
    exact hn (hes ▸ (h1 e he).2.2)
  have hsl : s ∉ lv := fun z => hn (h2 s z).2
  refine ⟨?_, fun m hm => ⟨(h2 m hm).1, up m (h2 m hm).2⟩, ⟨hsn, h3⟩, h4, ?_, ?_, ?_, fun m hm j hj q hq => up q (h8 m hm j hj q hq), ?_, up 0 h10, ?_⟩
  · intro e he
    rcases List.mem_cons.mp he with rfl | he
    · exact ⟨hs16, by show 0 ≤ 2; omega, hsS⟩
    · rcases List.mem_cons.mp he with rfl | he
      · exact ⟨hnn.1, (by omega : k + 1 ≤ 2), up n hnn.2.2⟩
      · have := h1 e (List.mem_cons_of_mem _ he)
        exact ⟨this.1, this.2.1, up _ this.2.2⟩
  · intro m hm
    rw [List.map_cons] at hm
    rcases List.mem_cons.mp hm with rfl | hm
    · exact hsl
    · exact h5 m hm
  · intro m hm
    rw [Bool.or_eq_true, decide_eq_true_iff] at hm
    rw [List.map_cons]
    rcases hm with hm | rfl
    · exact (h6 m hm).imp (fun z => List.mem_cons_of_mem _ z) id
    · exact Or.inl List.mem_cons_self
  · intro e he j hj q hq
    rcases List.mem_cons.mp he with rfl | he
    · exact absurd hj (Nat.not_lt_zero j)
    · rcases List.mem_cons.mp he with rfl | he
      · by_cases z : j = k
        · subst z
          have : some s = some q := hs.symm.trans hq
          cases this
          exact hsS
        · have hj' : j < k + 1 := hj
          exact up q (h7 (n, k) List.mem_cons_self j (by show j < k; omega) q hq)
      · exact up q (h7 e (List.mem_cons_of_mem _ he) j hj q hq)
  · intro m hm
    rw [Bool.or_eq_true, decide_eq_true_iff] at hm
    rcases hm with hm | rfl
    · exact h9 m hm
    · exact gs_cl_s (h9 n hnn.2.2) hE
  · rcases h11 with ⟨z, _⟩ | ⟨t', k', z⟩
    · exact nomatch z
    · cases t' with
      | nil =>
        have z1 := (List.cons.inj z).1
        have z2 := (List.cons.inj z).2
        have z3 : n = 0 := congrArg Prod.fst z1
        exact Or.inr ⟨[(s, 0)], k + 1, by rw [z3, z2]; rfl⟩
      | cons y t'' => exact Or.inr ⟨(s, 0) :: (n, k + 1) :: t'', k', by rw [(List.cons.inj z).2]; rfl⟩
theorem gs_Inv_0 : gs_Inv ek ex ey gs_d0.1 gs_d0.2.1 gs_d0.2.2 := by
  refine ⟨?_, ?_, ?_, trivial, ?_, ?_, ?_, ?_, ?_, rfl, Or.inr ⟨[], 0, rfl⟩⟩
  · intro e he
    rcases List.mem_cons.mp he with rfl | he
    · exact ⟨by decide, by decide, rfl⟩
    · cases he
  · intro n hn
    cases hn
  · exact ⟨(fun z => nomatch z), trivial⟩
  · intro n _ hn
    cases hn
  · intro n hn
    have z : n = 0 := decide_eq_true_iff.mp hn
    exact Or.inl (z ▸ List.mem_cons_self)
  · intro e he j hj
    rcases List.mem_cons.mp he with rfl | he
    · exact absurd hj (Nat.not_lt_zero j)
    · cases he
  · intro n hn
    cases hn
  · intro n hn
    have z : n = 0 := decide_eq_true_iff.mp hn
    exact gs_cl_b z
theorem gs_ds_pop {n : Nat} {t : List (Nat × Nat)} {sn : Nat → Bool} {lv : List Nat} : gs_ds ek ex ey ((n, 2) :: t, sn, lv) = (t, sn, n :: lv) := rfl
theorem gs_ds_step {n k : Nat} {t : List (Nat × Nat)} {sn : Nat → Bool} {lv : List Nat} (hk : k < 2) (hs : ∀ s, gs_sc ek ex ey n k = some s → sn s = true) : gs_ds ek ex ey ((n, k) :: t, sn, lv) = ((n, k + 1) :: t, sn, lv) := by
  show (if k = 2 then _ else _) = _
  rw [if_neg (by omega)]
  cases e : gs_sc ek ex ey n k with
  | none => rfl
  | some s => exact if_pos (hs s e)
theorem gs_ds_push {n k s : Nat} {t : List (Nat × Nat)} {sn : Nat → Bool} {lv : List Nat} (hk : k < 2) (hs : gs_sc ek ex ey n k = some s) (hn : ¬ sn s = true) : gs_ds ek ex ey ((n, k) :: t, sn, lv) = ((s, 0) :: (n, k + 1) :: t, (fun i => sn i || decide (i = s)), lv) := by
  show (if k = 2 then _ else _) = _
  rw [if_neg (by omega), hs]
  exact if_neg hn
/-- the three cases of a look -/
theorem gs_ds_cases {n k : Nat} (sn : Nat → Bool) (hk : k ≤ 2) : k = 2 ∨ (k < 2 ∧ ∀ s, gs_sc ek ex ey n k = some s → sn s = true) ∨ (k < 2 ∧ ∃ s, gs_sc ek ex ey n k = some s ∧ ¬ sn s = true) := by
  rcases Nat.lt_or_ge k 2 with h | h
  · right
    by_cases z : ∃ s, gs_sc ek ex ey n k = some s ∧ ¬ sn s = true
    · exact Or.inr ⟨h, z⟩
    · refine Or.inl ⟨h, fun s hs => ?_⟩
      apply Classical.byContradiction
      exact fun q => z ⟨s, hs, q⟩
  · left; omega
theorem gs_ds_inv (hx : ∀ n, ex n < 16) (hy : ∀ n, ey n < 16) (S : List (Nat × Nat) × (Nat → Bool) × List Nat) (h : gs_Inv ek ex ey S.1 S.2.1 S.2.2) : gs_Inv ek ex ey (gs_ds ek ex ey S).1 (gs_ds ek ex ey S).2.1 (gs_ds ek ex ey S).2.2 := by
  obtain ⟨stk, sn, lv⟩ := S
  cases stk with
  | nil => exact h
  | cons e t =>
    obtain ⟨n, k⟩ := e
    have hk : k ≤ 2 := (h.1 (n, k) List.mem_cons_self).2.1
    rcases gs_ds_cases (ek := ek) (ex := ex) (ey := ey) (n := n) sn hk with z | ⟨z, hs⟩ | ⟨z, s, hs, hn⟩
    · subst z
      rw [gs_ds_pop]
      exact gs_Inv_pop h
    · rw [gs_ds_step z hs]
      exact gs_Inv_step h z hs
    · rw [gs_ds_push z hs hn]
      exact gs_Inv_push hx hy h z hs hn
theorem gs_ds_mu (hx : ∀ n, ex n < 16) (hy : ∀ n, ey n < 16) (S : List (Nat × Nat) × (Nat → Bool) × List Nat) (h : gs_Inv ek ex ey S.1 S.2.1 S.2.2) (hne : S.1 ≠ []) : gs_mu (gs_ds ek ex ey S) < gs_mu S := by
  obtain ⟨stk, sn, lv⟩ := S
  cases stk with
  | nil => exact absurd rfl hne
  | cons e t =>
    obtain ⟨n, k⟩ := e
    have hk : k ≤ 2 := (h.1 (n, k) List.mem_cons_self).2.1
    rcases gs_ds_cases (ek := ek) (ex := ex) (ey := ey) (n := n) sn hk with z | ⟨z, hs⟩ | ⟨z, s, hs, hn⟩
    · subst z
      rw [gs_ds_pop]
      simp only [gs_mu, gs_sz]
      omega
    · rw [gs_ds_step z hs]
      simp only [gs_mu, gs_sz]
      omega
    · rw [gs_ds_push z hs hn]
      have hs16 : s < 16 := gs_E_lt ek ex ey hx hy ((gs_E_sc ek ex ey).mpr ⟨k, z, hs⟩)
      have hf : sn s = false := by cases q : sn s; rfl; exact absurd q hn
      have hc := gs_cn_ins (P := sn) (Q := fun i => sn i || decide (i = s)) 16 hs16 hf (fun _ _ => rfl)
      have hl := gs_cn_le (fun i => sn i || decide (i = s)) 16
      simp only [gs_mu, gs_sz]
      omega
variable (ek ex ey)
/-- how it stands when all is gone through -/
noncomputable def gs_F : List (Nat × Nat) × (Nat → Bool) × List Nat := gs_seal (gs_it (gs_ds ek ex ey) 48 gs_d0)
noncomputable def gs_sn (n : Nat) : Bool := (gs_F ek ex ey).2.1 n
noncomputable def gs_lv : List Nat := (gs_F ek ex ey).2.2
noncomputable def gs_nu (n : Nat) : Nat := gs_ix (gs_lv ek ex ey) n
variable {ek ex ey}
theorem gs_itinv (hx : ∀ n, ex n < 16) (hy : ∀ n, ey n < 16) (i : Nat) : gs_Inv ek ex ey (gs_it (gs_ds ek ex ey) i gs_d0).1 (gs_it (gs_ds ek ex ey) i gs_d0).2.1 (gs_it (gs_ds ek ex ey) i gs_d0).2.2 :=
  gs_it_inv (f := gs_ds ek ex ey) (fun S => gs_Inv ek ex ey S.1 S.2.1 S.2.2) (fun S h => gs_ds_inv hx hy S h) i gs_d0 gs_Inv_0
theorem gs_itmu (hx : ∀ n, ex n < 16) (hy : ∀ n, ey n < 16) : ∀ i, (gs_it (gs_ds ek ex ey) i gs_d0).1 = [] ∨ gs_mu (gs_it (gs_ds ek ex ey) i gs_d0) + i ≤ 48
  | 0 => Or.inr (by show gs_mu gs_d0 + 0 ≤ 48; decide)
  | i + 1 => by
    rw [gs_it_s]
    have hI := gs_itinv (ek := ek) hx hy i
    rcases gs_itmu hx hy i with h | h
    · left
      generalize gs_it (gs_ds ek ex ey) i gs_d0 = S at h
      obtain ⟨stk, sn, lv⟩ := S
      cases h
      rfl
    · by_cases z : (gs_it (gs_ds ek ex ey) i gs_d0).1 = []
      · left
        generalize gs_it (gs_ds ek ex ey) i gs_d0 = S at z
        obtain ⟨stk, sn, lv⟩ := S
        cases z
        rfl
      · right
        have := gs_ds_mu hx hy _ hI z
        omega
theorem gs_F_nil (hx : ∀ n, ex n < 16) (hy : ∀ n, ey n < 16) : (gs_F ek ex ey).1 = [] := by
  unfold gs_F
  rw [gs_seal_eq]
  rcases gs_itmu (ek := ek) hx hy 48 with h | h
  · exact h
  · have hI := (gs_itinv (ek := ek) hx hy 48).1
    generalize gs_it (gs_ds ek ex ey) 48 gs_d0 = S at h hI ⊢
    obtain ⟨stk, sn, lv⟩ := S
    cases stk with
    | nil => rfl
    | cons e t =>
      have := (hI e List.mem_cons_self).2.1
      simp only [gs_mu, gs_sz] at h
      omega
theorem gs_F_eq : gs_F ek ex ey = gs_it (gs_ds ek ex ey) 48 gs_d0 := gs_seal_eq _
theorem gs_ds_nil {S : List (Nat × Nat) × (Nat → Bool) × List Nat} (h : S.1 = []) : gs_ds ek ex ey S = S := by
  obtain ⟨stk, sn, lv⟩ := S
  cases h
  rfl
theorem gs_end (hx : ∀ n, ex n < 16) (hy : ∀ n, ey n < 16) {i : Nat} (h : (gs_it (gs_ds ek ex ey) i gs_d0).1 = []) : gs_it (gs_ds ek ex ey) i gs_d0 = gs_F ek ex ey := by
  rcases Nat.le_total i 48 with z | z
  · have e : gs_F ek ex ey = gs_it (gs_ds ek ex ey) ((48 - i) + i) gs_d0 := by rw [show 48 - i + i = 48 by omega]; exact gs_F_eq
    rw [e, gs_it_add, gs_it_fix (gs_ds_nil h)]
  · have e : gs_it (gs_ds ek ex ey) i gs_d0 = gs_it (gs_ds ek ex ey) ((i - 48) + 48) gs_d0 := by rw [show i - 48 + 48 = i by omega]
    rw [e, gs_it_add, ← gs_F_eq]
    exact gs_it_fix (gs_ds_nil (gs_F_nil hx hy)) _
theorem gs_FI (hx : ∀ n, ex n < 16) (hy : ∀ n, ey n < 16) : gs_Inv ek ex ey [] (gs_sn ek ex ey) (gs_lv ek ex ey) := by
  have h := gs_itinv (ek := ek) hx hy 48
  have e : (gs_F ek ex ey).1 = [] := gs_F_nil hx hy
  rw [← gs_F_eq, e] at h
  exact h
theorem gs_sn_lv (hx : ∀ n, ex n < 16) (hy : ∀ n, ey n < 16) {n : Nat} : gs_sn ek ex ey n = true ↔ n ∈ gs_lv ek ex ey := by
  have h := gs_FI (ek := ek) hx hy
  constructor
  · intro z
    rcases h.2.2.2.2.2.1 n z with q | q
    · cases q
    · exact q
  · exact fun z => (h.2.1 n z).2
theorem gs_sn_lt (hx : ∀ n, ex n < 16) (hy : ∀ n, ey n < 16) {n : Nat} (h : gs_sn ek ex ey n = true) : n < 16 :=
  ((gs_FI (ek := ek) hx hy).2.1 n ((gs_sn_lv hx hy).mp h)).1
theorem gs_sn_E (hx : ∀ n, ex n < 16) (hy : ∀ n, ey n < 16) {n s : Nat} (h : gs_sn ek ex ey n = true) (e : gs_E ek ex ey n s) : gs_sn ek ex ey s = true := by
  obtain ⟨k, hk, hs⟩ := (gs_E_sc ek ex ey).mp e
  exact (gs_FI (ek := ek) hx hy).2.2.2.2.2.2.2.1 n ((gs_sn_lv hx hy).mp h) k hk s hs
theorem gs_sn_0 (hx : ∀ n, ex n < 16) (hy : ∀ n, ey n < 16) : gs_sn ek ex ey 0 = true := (gs_FI (ek := ek) hx hy).2.2.2.2.2.2.2.2.2.1
theorem gs_sn_cl (hx : ∀ n, ex n < 16) (hy : ∀ n, ey n < 16) {n : Nat} : gs_sn ek ex ey n = true ↔ gs_cl (fun x => x = 0) (gs_E ek ex ey) n := by
  constructor
  · exact (gs_FI (ek := ek) hx hy).2.2.2.2.2.2.2.2.1 n
  · intro h
    exact gs_cl_i h (fun n => gs_sn ek ex ey n = true) (fun j e => e ▸ gs_sn_0 hx hy) (fun j k _ hj e => gs_sn_E hx hy hj e)
theorem gs_lv_nd (hx : ∀ n, ex n < 16) (hy : ∀ n, ey n < 16) : gs_nd (gs_lv ek ex ey) := (gs_FI (ek := ek) hx hy).2.2.2.1
theorem gs_lv_0 (hx : ∀ n, ex n < 16) (hy : ∀ n, ey n < 16) : ∃ t, gs_lv ek ex ey = 0 :: t := by
  rcases (gs_FI (ek := ek) hx hy).2.2.2.2.2.2.2.2.2.2 with h | ⟨t, k, h⟩
  · exact h.2
  · cases t <;> cases h
theorem gs_nu_0 (hx : ∀ n, ex n < 16) (hy : ∀ n, ey n < 16) : gs_nu ek ex ey 0 = 0 := by
  obtain ⟨t, h⟩ := gs_lv_0 (ek := ek) hx hy
  unfold gs_nu
  rw [h]
  rfl
theorem gs_nd_len : ∀ (l : List Nat) (P : Nat → Bool), gs_nd l → (∀ n, n ∈ l → n < 16 ∧ P n = true) → l.length ≤ gs_cn P 16
  | [], _, _, _ => Nat.zero_le _
  | x :: t, P, hn, h => by
    have hx := h x List.mem_cons_self
    have ih := gs_nd_len t (fun i => P i && !decide (i = x)) hn.2 (fun n hm => ⟨(h n (List.mem_cons_of_mem _ hm)).1, by
      rw [(h n (List.mem_cons_of_mem _ hm)).2, decide_eq_false (show ¬ n = x from fun z => hn.1 (z ▸ hm))]; rfl⟩)
    have hc := gs_cn_ins (P := fun i => P i && !decide (i = x)) (Q := P) 16 hx.1 (by simp) (fun i _ => by
      by_cases z : i = x
      · subst z; simp [hx.2]
      · simp [z])
    simp only [List.length_cons]
    omega
theorem gs_lv_len (hx : ∀ n, ex n < 16) (hy : ∀ n, ey n < 16) : (gs_lv ek ex ey).length ≤ 16 := by
  have h := gs_nd_len (gs_lv ek ex ey) (gs_sn ek ex ey) (gs_lv_nd hx hy) (gs_FI (ek := ek) hx hy).2.1
  exact Nat.le_trans h (gs_cn_le _ 16)
theorem gs_nu_lt (hx : ∀ n, ex n < 16) (hy : ∀ n, ey n < 16) {n : Nat} (h : gs_sn ek ex ey n = true) : gs_nu ek ex ey n < (gs_lv ek ex ey).length :=
  gs_ix_lt _ n ((gs_sn_lv hx hy).mp h)
theorem gs_nu_inj (hx : ∀ n, ex n < 16) (hy : ∀ n, ey n < 16) {m n : Nat} (hm : gs_sn ek ex ey m = true) (hn : gs_sn ek ex ey n = true) (h : gs_nu ek ex ey m = gs_nu ek ex ey n) : m = n :=
  gs_ix_inj _ m n ((gs_sn_lv hx hy).mp hm) ((gs_sn_lv hx hy).mp hn) h
end
