def bt (x : Int32) (i : Nat) : Bool := x.toBitVec.getLsbD i
theorem b_ext {x y : Int32} (h : ∀ i, i < 32 → bt x i = bt y i) : x = y := Int32.toBitVec_inj.mp (BitVec.eq_of_getLsbD_eq (fun i hi => h i hi))
theorem b_or (x y : Int32) (i : Nat) : bt (x ||| y) i = (bt x i || bt y i) := by unfold bt; rw [Int32.toBitVec_or, BitVec.getLsbD_or]
theorem b_and (x y : Int32) (i : Nat) : bt (x &&& y) i = (bt x i && bt y i) := by unfold bt; rw [Int32.toBitVec_and, BitVec.getLsbD_and]
theorem b_xor (x y : Int32) (i : Nat) : bt (x ^^^ y) i = (bt x i ^^ bt y i) := by unfold bt; rw [Int32.toBitVec_xor, BitVec.getLsbD_xor]
theorem b_big {x : Int32} {i : Nat} (h : 32 ≤ i) : bt x i = false := BitVec.getLsbD_of_ge _ _ h
theorem b_255 (i : Nat) : bt 255 i = decide (i < 8) := by
  rcases Nat.lt_or_ge i 32 with h | h
  · exact (by decide +kernel : ∀ i, i < 32 → bt 255 i = decide (i < 8)) i h
  · rw [b_big h, decide_eq_false (by omega)]
theorem b_65535 (i : Nat) : bt 65535 i = decide (i < 16) := by
  rcases Nat.lt_or_ge i 32 with h | h
  · exact (by decide +kernel : ∀ i, i < 32 → bt 65535 i = decide (i < 16)) i h
  · rw [b_big h, decide_eq_false (by omega)]
theorem b_m1 : ∀ i, i < 32 → bt (-1) i = true := by decide +kernel
theorem b_0 (i : Nat) : bt 0 i = false := BitVec.getLsbD_zero
theorem s_l : ∀ n, n < 32 → ((nI n &&& 31).toBitVec.smod 32).toNat = n := by decide +kernel
theorem s_u : ∀ n, n < 32 → (((nI n).toUInt32 &&& Int32.toUInt32 31).toBitVec % 32).toNat = n := by decide +kernel
theorem b_shl (n : Nat) (hn : n < 32) (x : Int32) {i : Nat} (hi : i < 32) : bt (x <<< (nI n &&& 31)) i = (decide (n ≤ i) && bt x (i - n)) := by
  unfold bt
  rw [Int32.toBitVec_shiftLeft]
  show (x.toBitVec <<< ((nI n &&& 31).toBitVec.smod 32).toNat).getLsbD i = _
  rw [s_l n hn, BitVec.getLsbD_shiftLeft]
  rcases Nat.lt_or_ge i n with h | h
  · simp [h, Nat.not_le.mpr h]
  · simp [hi, h, Nat.not_lt.mpr h]
theorem b_ushr (n : Nat) (hn : n < 32) (x : Int32) (i : Nat) : bt ((x.toUInt32 >>> ((nI n).toUInt32 &&& Int32.toUInt32 31)).toInt32) i = bt x (n + i) := by
  show (x.toUInt32 >>> ((nI n).toUInt32 &&& Int32.toUInt32 31)).toBitVec.getLsbD i = x.toUInt32.toBitVec.getLsbD (n + i)
  rw [UInt32.toBitVec_shiftRight]
  show (x.toUInt32.toBitVec >>> (((nI n).toUInt32 &&& Int32.toUInt32 31).toBitVec % 32).toNat).getLsbD i = _
  rw [s_u n hn, BitVec.getLsbD_ushiftRight]
theorem b_sshr (n : Nat) (hn : n < 32) (x : Int32) {i : Nat} (hi : i < 32) : bt (x >>> (nI n &&& 31)) i = if n + i < 32 then bt x (n + i) else bt x 31 := by
  unfold bt
  rw [Int32.toBitVec_shiftRight]
  show (x.toBitVec.sshiftRight ((nI n &&& 31).toBitVec.smod 32).toNat).getLsbD i = _
  rw [s_l n hn, BitVec.getLsbD_sshiftRight, BitVec.msb_eq_getLsbD_last]
  simp [hi]
theorem pk_us {f : Nat → Int32} {k : Nat} {x : Int32} : upd f k x k = x := if_pos rfl
theorem pk_un {f : Nat → Int32} {k j : Nat} {x : Int32} (h : j ≠ k) : upd f k x j = f j := if_neg h
theorem pk_sub {a b : Nat} (h : b ≤ a) : nI a - nI b = nI (a - b) := by
  obtain ⟨c, rfl⟩ : ∃ c, a = c + b := ⟨a - b, by omega⟩
  rw [← nI_add, Int32.add_sub_cancel, Nat.add_sub_cancel]
theorem pk_m1 (n : Nat) : nI (n + 1) + (-1) = nI n := by
  rw [← nI_1, Int32.add_assoc, show (1 : Int32) + (-1) = 0 from rfl, Int32.add_zero]
theorem pk_mul (a b : Nat) : nI a * nI b = nI (a * b) := (Int32.ofNat_mul a b).symm
theorem pk_div {a d : Nat} (ha : a < 2 ^ 31) (h0 : 0 < d) (hd : d < 2 ^ 31) : nI a / nI d = nI (a / d) := by
  apply Int32.toInt_inj.mp
  rw [lg_idiv_nonneg (by rw [nI_toInt ha]; omega) (by rw [nI_toInt hd]; omega), nI_toInt ha, nI_toInt hd, nI_toInt (Nat.lt_of_le_of_lt (Nat.div_le_self a d) ha)]
  first | rfl | exact (Int.natCast_ediv _ _).symm
theorem pk_rem {a d : Nat} (ha : a < 2 ^ 31) (h0 : 0 < d) (hd : d < 2 ^ 31) : nI a - nI a / nI d * nI d = nI (a % d) := by
  rw [pk_div ha h0 hd, pk_mul, pk_sub (Nat.div_mul_le_self a d)]
  exact congrArg nI (by have := Nat.div_add_mod' a d; omega)
theorem pk_ix (x : Int32) {n : Nat} (hn : n < 2 ^ 31) : x < 0 ∨ nI n ≤ x ∨ ∃ j : Nat, j < n ∧ x = nI j := by
  by_cases h : x < 0
  · exact Or.inl h
  · obtain ⟨j, hj, rfl⟩ := nI_of h
    by_cases h2 : j < n
    · exact Or.inr (Or.inr ⟨j, h2, rfl⟩)
    · exact Or.inr (Or.inl (nI_le (by omega) hj))
theorem pk_le {x y : Int32} {A B : Prop} (a b : Nat) (f : a ≤ b → A) (g : b < a → B) (hx : x = nI a := by rfl) (hy : y = nI b := by rfl) (ha : a < 2 ^ 31 := by omega) (hb : b < 2 ^ 31 := by omega) : (x ≤ y → A) ∧ (¬ x ≤ y → B) := by
  subst hx hy
  rw [nI_leI ha hb]
  exact ⟨f, fun z => g (by omega)⟩
theorem pk_lt {x y : Int32} {A B : Prop} (a b : Nat) (f : a < b → A) (g : b ≤ a → B) (hx : x = nI a := by rfl) (hy : y = nI b := by rfl) (ha : a < 2 ^ 31 := by omega) (hb : b < 2 ^ 31 := by omega) : (x < y → A) ∧ (¬ x < y → B) := by
  subst hx hy
  rw [nI_ltI ha hb]
  exact ⟨f, fun z => g (by omega)⟩
theorem pk_eq {x y : Int32} {A B : Prop} (a b : Nat) (f : a = b → A) (g : a ≠ b → B) (hx : x = nI a := by rfl) (hy : y = nI b := by rfl) (ha : a < 2 ^ 31 := by omega) (hb : b < 2 ^ 31 := by omega) : (x = y → A) ∧ (¬ x = y → B) := by
  subst hx hy
  rw [nI_eq ha hb]
  exact ⟨f, g⟩
theorem pk_in {x : Int32} (n N : Nat) (h : n < N) (hx : x = nI n := by rfl) (hN : N < 2 ^ 31 := by omega) : vp_in x N := by
  subst hx
  exact vp_in_nI h hN
theorem pk_cl {x : Int32} (n : Nat) (hx : x = nI n := by rfl) (h : n < 2 ^ 31 := by omega) : x.toNatClampNeg = n := by
  subst hx
  exact nI_clamp h
theorem pk_tn {n : Nat} (h : n < 2 ^ 32) : (nI n).toBitVec.toNat = n := Nat.mod_eq_of_lt h
theorem pk_and (x : Int32) {m : Int32} (k : Nat) (hm : m.toBitVec.toNat = 2 ^ k - 1) : x &&& m = nI (x.toBitVec.toNat % 2 ^ k) := by
  apply Int32.toBitVec_inj.mp
  apply BitVec.eq_of_toNat_eq
  rw [Int32.toBitVec_and, BitVec.toNat_and, hm, Nat.and_two_pow_sub_one_eq_mod]
  show _ = (BitVec.ofNat 32 _).toNat
  rw [BitVec.toNat_ofNat]
  exact (Nat.mod_eq_of_lt (Nat.lt_of_le_of_lt (Nat.mod_le _ _) x.toBitVec.isLt)).symm
theorem pk_andN {n : Nat} (h : n < 2 ^ 32) {m : Int32} (k : Nat) (hm : m.toBitVec.toNat = 2 ^ k - 1) : nI n &&& m = nI (n % 2 ^ k) := by
  rw [pk_and _ k hm, pk_tn h]
theorem pk_shl (a s : Int32) (k : Nat) (hs : (s.toBitVec.smod 32).toNat = k) : (a <<< s).toBitVec.toNat = a.toBitVec.toNat * 2 ^ k % 2 ^ 32 := by
  show (a.toBitVec <<< (s.toBitVec.smod 32).toNat).toNat = _
  rw [hs, BitVec.toNat_shiftLeft, Nat.shiftLeft_eq]
theorem pk_shlN {n : Nat} (s : Int32) (k : Nat) (hs : (s.toBitVec.smod 32).toNat = k) (h : n * 2 ^ k < 2 ^ 32) : nI n <<< s = nI (n * 2 ^ k) := by
  apply Int32.toBitVec_inj.mp
  apply BitVec.eq_of_toNat_eq
  have hn : n < 2 ^ 32 := Nat.lt_of_le_of_lt (Nat.le_mul_of_pos_right n (Nat.two_pow_pos k)) h
  rw [pk_shl _ _ k hs, pk_tn hn, pk_tn h, Nat.mod_eq_of_lt h]

/-! own: masks of nodes -/
theorem gs_one (i : Nat) : bt 1 i = decide (i = 0) := by
  rcases Nat.lt_or_ge i 32 with h | h
  · exact (by decide +kernel : ∀ i, i < 32 → bt 1 i = decide (i = 0)) i h
  · rw [b_big h, decide_eq_false (by omega)]
theorem gs_b1 (s : Nat) (hs : s < 32) (i : Nat) : bt ((1 : Int32) <<< (nI s &&& 31)) i = decide (i = s) := by
  rcases Nat.lt_or_ge i 32 with h | h
  · rw [b_shl s hs 1 h, gs_one]
    rcases Nat.lt_or_ge i s with z | z
    · rw [decide_eq_false (by omega : ¬ s ≤ i), decide_eq_false (by omega : ¬ i = s), Bool.false_and]
    · rw [decide_eq_true z, Bool.true_and]
      exact decide_eq_decide.mpr (by omega)
  · rw [b_big h, decide_eq_false (by omega)]
theorem gs_not (x : Int32) (i : Nat) (hi : i < 32) : bt (x ^^^ (-1)) i = !(bt x i) := by
  rw [b_xor, b_m1 i hi, Bool.xor_true]
theorem gs_has (m : Int32) {s : Nat} (hs : s < 32) : ((m >>> (nI s &&& 31)) &&& 1) = 0 ↔ bt m s = false := by
  constructor
  · intro h
    have t := congrArg (fun x => bt x 0) h
    simp only [b_and, b_0, gs_one, b_sshr s hs m (by decide : 0 < 32), Nat.add_zero, hs, if_true, decide_true, Bool.and_true] at t
    exact t
  · intro h
    apply b_ext
    intro i hi
    rw [b_and, b_0, gs_one, b_sshr s hs m hi]
    by_cases z : i = 0
    · subst z
      simp only [Nat.add_zero, hs, if_true, h, Bool.false_and]
    · rw [decide_eq_false z, Bool.and_false]
def gs_Mk (r : Int32) (P : Nat → Prop) : Prop := ∀ i, bt r i = true ↔ (i < 16 ∧ P i)
theorem gs_Mk_uniq {r s : Int32} {P : Nat → Prop} (h : gs_Mk r P) (h' : gs_Mk s P) : r = s :=
  b_ext (fun i _ => Bool.eq_iff_iff.mpr ((h i).trans (h' i).symm))
theorem gs_Mk_iff {r : Int32} {P Q : Nat → Prop} (h : gs_Mk r P) (e : ∀ i, i < 16 → (P i ↔ Q i)) : gs_Mk r Q := by
  intro i
  rw [h i]
  constructor
  · exact fun ⟨a, b⟩ => ⟨a, (e i a).mp b⟩
  · exact fun ⟨a, b⟩ => ⟨a, (e i a).mpr b⟩
theorem gs_Mk_u2 {r s : Int32} {P Q : Nat → Prop} (h : gs_Mk r P) (h' : gs_Mk s Q) (e : ∀ i, i < 16 → (P i ↔ Q i)) : r = s :=
  gs_Mk_uniq (gs_Mk_iff h e) h'
theorem gs_Mk_0 {P : Nat → Prop} (h : ∀ i, i < 16 → ¬ P i) : gs_Mk 0 P := by
  intro i
  rw [b_0]
  constructor
  · exact fun z => nomatch z
  · exact fun ⟨a, b⟩ => absurd b (h i a)
theorem gs_Mk_or {a b : Int32} {P Q : Nat → Prop} (h : gs_Mk a P) (h' : gs_Mk b Q) : gs_Mk (a ||| b) (fun i => P i ∨ Q i) := by
  intro i
  rw [b_or, Bool.or_eq_true, h i, h' i]
  constructor
  · rintro (⟨x, y⟩ | ⟨x, y⟩)
    · exact ⟨x, Or.inl y⟩
    · exact ⟨x, Or.inr y⟩
  · rintro ⟨x, y | y⟩
    · exact Or.inl ⟨x, y⟩
    · exact Or.inr ⟨x, y⟩
theorem gs_Mk_bit {s : Nat} (hs : s < 16) : gs_Mk ((1 : Int32) <<< (nI s &&& 31)) (fun i => i = s) := by
  intro i
  rw [gs_b1 s (by omega), decide_eq_true_iff]
  constructor
  · exact fun z => ⟨by omega, z⟩
  · exact fun z => z.2
theorem gs_Mk_set {a : Int32} {P : Nat → Prop} {s : Nat} (h : gs_Mk a P) (hs : s < 16) : gs_Mk (a ||| ((1 : Int32) <<< (nI s &&& 31))) (fun i => P i ∨ i = s) :=
  gs_Mk_or h (gs_Mk_bit hs)
theorem gs_Mk_andn {a b : Int32} {P Q : Nat → Prop} (h : gs_Mk a P) (h' : gs_Mk b Q) : gs_Mk (a &&& (b ^^^ (-1))) (fun i => P i ∧ ¬ Q i) := by
  intro i
  rcases Nat.lt_or_ge i 32 with z | z
  · rw [b_and, gs_not b i z, Bool.and_eq_true, h i, Bool.not_eq_true', ← Bool.not_eq_true, h' i]
    constructor
    · rintro ⟨⟨x, y⟩, w⟩
      exact ⟨x, y, fun q => w ⟨x, q⟩⟩
    · rintro ⟨x, y, w⟩
      exact ⟨⟨x, y⟩, fun q => w q.2⟩
  · rw [b_big z]
    constructor
    · exact fun z => nomatch z
    · rintro ⟨x, _⟩
      omega
theorem gs_Mk_and {a b : Int32} {P Q : Nat → Prop} (h : gs_Mk a P) (h' : gs_Mk b Q) : gs_Mk (a &&& b) (fun i => P i ∧ Q i) := by
  intro i
  rw [b_and, Bool.and_eq_true, h i, h' i]
  constructor
  · rintro ⟨⟨x, y⟩, _, w⟩
    exact ⟨x, y, w⟩
  · rintro ⟨x, y, w⟩
    exact ⟨⟨x, y⟩, x, w⟩
theorem gs_Mk_t {a : Int32} {P : Nat → Prop} {s : Nat} (h : gs_Mk a P) (hs : s < 16) : bt a s = true ↔ P s :=
  (h s).trans ⟨fun z => z.2, fun z => ⟨hs, z⟩⟩
theorem gs_Mk_has {a : Int32} {P : Nat → Prop} {s : Nat} (h : gs_Mk a P) (hs : s < 16) : ((a >>> (nI s &&& 31)) &&& 1) = 0 ↔ ¬ P s := by
  rw [gs_has a (by omega : s < 32), ← Bool.not_eq_true, gs_Mk_t h hs]
theorem gs_Mk_z {a : Int32} {P : Nat → Prop} (h : gs_Mk a P) : a = 0 ↔ ∀ i, i < 16 → ¬ P i := by
  constructor
  · intro z i hi hp
    have t := (h i).mpr ⟨hi, hp⟩
    rw [z, b_0] at t
    exact nomatch t
  · intro z
    exact gs_Mk_uniq h (gs_Mk_0 z)
/-! closures -/
def gs_cl (A : Nat → Prop) (E : Nat → Nat → Prop) (i : Nat) : Prop := ∀ S : Nat → Prop, (∀ j, A j → S j) → (∀ j k, S j → E j k → S k) → S i
section
variable {A A' : Nat → Prop} {E E' : Nat → Nat → Prop} {a b c i j k : Nat}
theorem gs_cl_b (h : A i) : gs_cl A E i := fun _ h0 _ => h0 i h
theorem gs_cl_s (h : gs_cl A E j) (e : E j k) : gs_cl A E k := fun S h0 h1 => h1 j k (h S h0 h1) e
theorem gs_cl_i (h : gs_cl A E i) (S : Nat → Prop) (h0 : ∀ j, A j → S j) (h1 : ∀ j k, gs_cl A E j → S j → E j k → S k) : S i :=
  (h (fun j => gs_cl A E j ∧ S j) (fun j a => ⟨gs_cl_b a, h0 j a⟩) (fun j k cs e => ⟨gs_cl_s cs.1 e, h1 j k cs.1 cs.2 e⟩)).2
theorem gs_cl_mono (h : gs_cl A E i) (hA : ∀ j, A j → gs_cl A' E' j) (hE : ∀ j k, gs_cl A E j → gs_cl A' E' j → E j k → gs_cl A' E' k) : gs_cl A' E' i :=
  gs_cl_i h _ hA hE
theorem gs_cl_tr (h : gs_cl (fun x => x = j) E i) (h' : gs_cl A E j) : gs_cl A E i :=
  gs_cl_i h (fun x => gs_cl A E x) (fun _ e => e ▸ h') (fun _ _ _ s e => gs_cl_s s e)
theorem gs_cl_rev (h : gs_cl (fun x => x = a) E b) : gs_cl (fun x => x = b) (fun x y => E y x) a :=
  gs_cl_i h (fun y => gs_cl (fun x => x = y) (fun x y => E y x) a) (fun _ e => gs_cl_b e.symm)
    (fun j k _ s e => gs_cl_tr s (gs_cl_s (gs_cl_b (A := fun x => x = k) rfl) e))
theorem gs_cl_ex : gs_cl A E b ↔ ∃ a, A a ∧ gs_cl (fun x => x = a) E b := by
  constructor
  · intro h
    exact gs_cl_i h (fun y => ∃ a, A a ∧ gs_cl (fun x => x = a) E y) (fun j hj => ⟨j, hj, gs_cl_b rfl⟩)
      (fun j k _ s e => by obtain ⟨a, ha, hs⟩ := s; exact ⟨a, ha, gs_cl_s hs e⟩)
  · rintro ⟨a, ha, h⟩
    exact gs_cl_tr h (gs_cl_b ha)
theorem gs_cl_last (h : gs_cl A E i) : A i ∨ ∃ j, gs_cl A E j ∧ E j i :=
  gs_cl_i h (fun i => A i ∨ ∃ j, gs_cl A E j ∧ E j i) (fun _ a => Or.inl a) (fun j _ c _ e => Or.inr ⟨j, c, e⟩)
end
/-! rounds to a fixed point -/
def gs_it {α : Type} (f : α → α) : Nat → α → α
  | 0, x => x
  | n + 1, x => gs_it f n (f x)
theorem gs_it_s {α : Type} (f : α → α) : ∀ (n : Nat) (x : α), gs_it f (n + 1) x = f (gs_it f n x)
  | 0, _ => rfl
  | n + 1, x => gs_it_s f n (f x)
theorem gs_it_fix {α : Type} {f : α → α} {x : α} (h : f x = x) : ∀ n, gs_it f n x = x
  | 0 => rfl
  | n + 1 => by
    show gs_it f n (f x) = x
    rw [h]
    exact gs_it_fix h n
theorem gs_it_inv {α : Type} {f : α → α} (I : α → Prop) (hI : ∀ x, I x → I (f x)) : ∀ n x, I x → I (gs_it f n x)
  | 0, _, h => h
  | n + 1, x, h => gs_it_inv I hI n (f x) (hI x h)
theorem gs_fx {α : Type} (f : α → α) (I : α → Prop) (c : α → Nat) (M : Nat) (hI : ∀ x, I x → I (f x)) (hM : ∀ x, I x → c x ≤ M) (hs : ∀ x, I x → f x ≠ x → c x < c (f x)) : ∀ k x, I x → M ≤ c x + k → f (gs_it f k x) = gs_it f k x := by
  intro k
  induction k with
  | zero =>
    intro x hx hk
    apply Classical.byContradiction
    intro hn
    have h1 := hs x hx hn
    have h2 := hM _ (hI x hx)
    omega
  | succ k ih =>
    intro x hx hk
    by_cases e : f x = x
    · rw [gs_it_fix e]
      exact e
    · have h1 := hs x hx e
      exact ih (f x) (hI x hx) (by omega)
def gs_cn (P : Nat → Bool) : Nat → Nat
  | 0 => 0
  | k + 1 => gs_cn P k + (if P k = true then 1 else 0)
theorem gs_cn_le (P : Nat → Bool) : ∀ k, gs_cn P k ≤ k
  | 0 => Nat.le_refl 0
  | k + 1 => by
    have h := gs_cn_le P k
    unfold gs_cn
    split <;> omega
theorem gs_cn_mono {P Q : Nat → Bool} : ∀ k, (∀ i, i < k → P i = true → Q i = true) → gs_cn P k ≤ gs_cn Q k
  | 0, _ => Nat.le_refl 0
  | k + 1, h => by
    have h1 := gs_cn_mono k (fun i hi => h i (by omega))
    have h2 := h k (by omega)
    unfold gs_cn
    by_cases z : P k = true
    · rw [if_pos z, if_pos (h2 z)]
      omega
    · rw [if_neg z]
      omega
theorem gs_cn_lt {P Q : Nat → Bool} : ∀ k, (∀ i, i < k → P i = true → Q i = true) → (∃ i, i < k ∧ Q i = true ∧ ¬ P i = true) → gs_cn P k < gs_cn Q k
  | 0, _, ⟨i, hi, _⟩ => absurd hi (by omega)
  | k + 1, h, ⟨i, hi, hq, hp⟩ => by
    have h0 := gs_cn_mono k (fun i hi => h i (by omega))
    have h2 := h k (by omega)
    unfold gs_cn
    by_cases e : i = k
    · subst e
      rw [if_pos hq, if_neg hp]
      omega
    · have h1 := gs_cn_lt k (fun i hi => h i (by omega)) ⟨i, by omega, hq, hp⟩
      by_cases z : P k = true
      · rw [if_pos z, if_pos (h2 z)]
        omega
      · rw [if_neg z]
        omega
theorem gs_cn_pos {P : Nat → Bool} {i : Nat} : ∀ k, i < k → P i = true → 0 < gs_cn P k := by
  intro k hi hp
  have h := gs_cn_lt (P := fun _ => false) (Q := P) k (fun _ _ z => nomatch z) ⟨i, hi, hp, fun z => nomatch z⟩
  omega
theorem gs_cn_congr {P Q : Nat → Bool} : ∀ k, (∀ i, i < k → P i = Q i) → gs_cn P k = gs_cn Q k
  | 0, _ => rfl
  | k + 1, h => by
    unfold gs_cn
    rw [gs_cn_congr k (fun i hi => h i (by omega)), h k (by omega)]
theorem gs_cn_ins {P Q : Nat → Bool} {s : Nat} : ∀ k, s < k → P s = false → (∀ i, i < k → Q i = (P i || decide (i = s))) → gs_cn Q k = gs_cn P k + 1
  | 0, h, _, _ => absurd h (by omega)
  | k + 1, h, hp, hq => by
    unfold gs_cn
    by_cases e : s = k
    · subst e
      rw [hq s (by omega), hp, gs_cn_congr (P := Q) (Q := P) s (fun i hi => by rw [hq i (by omega), decide_eq_false (by omega : ¬ i = s), Bool.or_false])]
      simp
    · rw [gs_cn_ins k (by omega) hp (fun i hi => hq i (by omega)), hq k (by omega), decide_eq_false (by omega : ¬ k = s), Bool.or_false]
      omega
theorem gs_cn_0 {P : Nat → Bool} : ∀ k, (∀ i, i < k → P i = false) → gs_cn P k = 0
  | 0, _ => rfl
  | k + 1, h => by
    unfold gs_cn
    rw [gs_cn_0 k (fun i hi => h i (by omega)), h k (by omega)]
    rfl
/-! sweeps over the nodes -/
def gs_sw1 (so : Int32) (e : Nat → Int32) (r : Int32) : Nat → Int32
  | 0 => r
  | n + 1 => if bt so n = true ∨ bt (gs_sw1 so e r n) n = true then gs_sw1 so e r n ||| e n else gs_sw1 so e r n
def gs_sw (so : Int32) (e : Nat → Int32) (r : Int32) : Int32 := gs_sw1 so e r 16
section
variable {so : Int32} {e : Nat → Int32} {r : Int32}
theorem gs_sw_up {i : Nat} (n : Nat) (h : bt (gs_sw1 so e r n) i = true) : bt (gs_sw1 so e r (n + 1)) i = true := by
  unfold gs_sw1
  split
  · rw [b_or, h, Bool.true_or]
  · exact h
theorem gs_sw_mono {i n : Nat} (h : bt (gs_sw1 so e r n) i = true) : ∀ m, n ≤ m → bt (gs_sw1 so e r m) i = true := by
  intro m
  induction m with
  | zero => intro hm; cases Nat.le_zero.mp hm; exact h
  | succ m ih =>
    intro hm
    by_cases z : n = m + 1
    · exact z ▸ h
    · exact gs_sw_up m (ih (by omega))
theorem gs_sw_get {n k m : Nat} (hn : n < m) (h : bt so n = true ∨ bt r n = true) (hk : bt (e n) k = true) : bt (gs_sw1 so e r m) k = true := by
  apply gs_sw_mono (n := n + 1) _ m hn
  unfold gs_sw1
  rw [if_pos (h.imp id (fun z => gs_sw_mono (n := 0) z n (by omega))), b_or, hk, Bool.or_true]
theorem gs_sw_snd (S : Nat → Prop) (h0 : ∀ i, bt r i = true → S i) (h1 : ∀ n k, n < 16 → bt so n = true → bt (e n) k = true → S k) (h2 : ∀ n k, n < 16 → S n → bt (e n) k = true → S k) : ∀ m, m ≤ 16 → ∀ i, bt (gs_sw1 so e r m) i = true → S i := by
  intro m
  induction m with
  | zero => intro _ i h; exact h0 i h
  | succ m ih =>
    intro hm i h
    unfold gs_sw1 at h
    split at h
    · rename_i z
      rw [b_or, Bool.or_eq_true] at h
      rcases h with h | h
      · exact ih (by omega) i h
      · rcases z with z | z
        · exact h1 m i (by omega) z h
        · exact h2 m i (by omega) (ih (by omega) m z) h
    · exact ih (by omega) i h
end
theorem gs_sw_grow {so : Int32} {e : Nat → Int32} {r : Int32} (he : ∀ n, n < 16 → ∀ i, bt (e n) i = true → i < 16) (hr : ∀ i, bt r i = true → i < 16) (hn : gs_sw so e r ≠ r) : gs_cn (bt r) 16 < gs_cn (bt (gs_sw so e r)) 16 := by
  apply gs_cn_lt 16 (fun i _ h => gs_sw_mono (n := 0) h 16 (by omega))
  apply Classical.byContradiction
  intro hx
  apply hn
  apply b_ext
  intro i _
  apply Bool.eq_iff_iff.mpr
  constructor
  · intro h
    apply Classical.byContradiction
    intro h3
    have hi : i < 16 := gs_sw_snd (fun i => i < 16) hr (fun n k h1 _ h2 => he n h1 k h2) (fun n k h1 _ h2 => he n h1 k h2) 16 (by omega) i h
    exact hx ⟨i, hi, h, h3⟩
  · intro h
    exact gs_sw_mono (n := 0) h 16 (by omega)
theorem gs_sw_main {so : Int32} {e : Nat → Int32} {r : Int32} {K : Nat} (he : ∀ n, n < 16 → ∀ i, bt (e n) i = true → i < 16) (hr : ∀ i, bt r i = true → i < 16) (hK : gs_sw so e r = r ∨ 16 ≤ gs_cn (bt r) 16 + K) : gs_Mk (gs_it (gs_sw so e) K r) (gs_cl (fun i => bt r i = true ∨ ∃ n, n < 16 ∧ bt so n = true ∧ bt (e n) i = true) (fun j k => j < 16 ∧ bt (e j) k = true)) := by
  have hfix : gs_sw so e (gs_it (gs_sw so e) K r) = gs_it (gs_sw so e) K r := by
    rcases hK with hK | hK
    · rw [gs_it_fix hK]; exact hK
    · exact gs_fx (gs_sw so e) (fun r => ∀ i, bt r i = true → i < 16) (fun r => gs_cn (bt r) 16) 16
        (fun x hx i h => gs_sw_snd (fun i => i < 16) hx (fun n k h1 _ h2 => he n h1 k h2) (fun n k h1 _ h2 => he n h1 k h2) 16 (by omega) i h)
        (fun x _ => gs_cn_le _ 16) (fun x hx hn => gs_sw_grow he hx hn) K r hr hK
  have hsnd : ∀ i, bt (gs_it (gs_sw so e) K r) i = true → gs_cl (fun i => bt r i = true ∨ ∃ n, n < 16 ∧ bt so n = true ∧ bt (e n) i = true) (fun j k => j < 16 ∧ bt (e j) k = true) i := by
    apply gs_it_inv (f := gs_sw so e) (fun x => ∀ i, bt x i = true → gs_cl (fun i => bt r i = true ∨ ∃ n, n < 16 ∧ bt so n = true ∧ bt (e n) i = true) (fun j k => j < 16 ∧ bt (e j) k = true) i)
    · intro x hx i h
      exact gs_sw_snd _ hx (fun n k h1 h2 h3 => gs_cl_b (Or.inr ⟨n, h1, h2, h3⟩)) (fun n k h1 h2 h3 => gs_cl_s h2 ⟨h1, h3⟩) 16 (by omega) i h
    · intro i h
      exact gs_cl_b (Or.inl h)
  have hup : ∀ i, bt r i = true → bt (gs_it (gs_sw so e) K r) i = true := by
    intro i hi
    exact gs_it_inv (f := gs_sw so e) (fun x => bt x i = true) (fun x h => gs_sw_mono (n := 0) h 16 (by omega)) K r hi
  intro i
  constructor
  · intro h
    refine ⟨?_, hsnd i h⟩
    exact gs_cl_i (hsnd i h) (fun i => i < 16) (fun j hj => hj.elim (hr j) (fun ⟨n, h1, _, h2⟩ => he n h1 j h2)) (fun j k _ _ h => he j h.1 k h.2)
  · rintro ⟨_, h⟩
    apply gs_cl_i h (fun i => bt (gs_it (gs_sw so e) K r) i = true)
    · rintro j (hj | ⟨n, h1, h2, h3⟩)
      · exact hup j hj
      · rw [← hfix]
        exact gs_sw_get h1 (Or.inl h2) h3
    · rintro j k _ hj ⟨h1, h2⟩
      rw [← hfix]
      exact gs_sw_get h1 (Or.inr hj) h2
theorem gs_sw_none {so : Int32} {e : Nat → Int32} {r : Int32} (h0 : ∀ i, i < 16 → bt so i = false) (hr : ∀ i, i < 16 → bt r i = false) : ∀ m, m ≤ 16 → gs_sw1 so e r m = r
  | 0, _ => rfl
  | m + 1, h => by
    unfold gs_sw1
    rw [gs_sw_none h0 hr m (by omega), if_neg]
    rw [h0 m (by omega), hr m (by omega)]
    exact fun z => z.elim (fun z => nomatch z) (fun z => nomatch z)
/-- what X's reach answers -/
def gs_rch (L : Nat → Int32) (fr wo : Int32) : Int32 := gs_it (gs_sw 0 (fun n => L n &&& (wo ^^^ (-1)))) 15 (fr &&& (wo ^^^ (-1)))
theorem gs_rch_ok {L : Nat → Int32} {fr wo : Int32} {F W : Nat → Prop} {G : Nat → Nat → Prop} (hL : ∀ n, n < 16 → gs_Mk (L n) (G n)) (hf : gs_Mk fr F) (hw : gs_Mk wo W) :
    gs_Mk (gs_rch L fr wo) (gs_cl (fun i => i < 16 ∧ F i ∧ ¬ W i) (fun j k => j < 16 ∧ k < 16 ∧ G j k ∧ ¬ W k)) := by
  have hr := gs_Mk_andn hf hw
  have he : ∀ n, n < 16 → gs_Mk (L n &&& (wo ^^^ (-1))) (fun k => G n k ∧ ¬ W k) := fun n hn => gs_Mk_andn (hL n hn) hw
  have hK : gs_sw 0 (fun n => L n &&& (wo ^^^ (-1))) (fr &&& (wo ^^^ (-1))) = fr &&& (wo ^^^ (-1)) ∨ 16 ≤ gs_cn (bt (fr &&& (wo ^^^ (-1)))) 16 + 15 := by
    by_cases z : ∃ i, i < 16 ∧ bt (fr &&& (wo ^^^ (-1))) i = true
    · obtain ⟨i, hi, hb⟩ := z
      have := gs_cn_pos 16 hi hb
      right
      omega
    · left
      apply gs_sw_none (fun i _ => b_0 i) _ 16 (by omega)
      intro i hi
      cases hb : bt (fr &&& (wo ^^^ (-1))) i
      · rfl
      · exact absurd ⟨i, hi, hb⟩ z
  have h := gs_sw_main (so := 0) (e := fun n => L n &&& (wo ^^^ (-1))) (r := fr &&& (wo ^^^ (-1))) (K := 15) (fun n hn i hb => ((he n hn i).mp hb).1) (fun i hb => ((hr i).mp hb).1) hK
  apply gs_Mk_iff h
  intro i _
  constructor
  · intro hc
    apply gs_cl_mono hc
    · rintro j (hj | ⟨n, _, h2, _⟩)
      · exact gs_cl_b ((hr j).mp hj)
      · rw [b_0] at h2
        exact nomatch h2
    · rintro j k _ hj ⟨h1, h2⟩
      have h3 := (he j h1 k).mp h2
      exact gs_cl_s hj ⟨h1, h3.1, h3.2⟩
  · intro hc
    apply gs_cl_mono hc
    · intro j hj
      exact gs_cl_b (Or.inl ((hr j).mpr hj))
    · rintro j k _ hj ⟨h1, h2, h3⟩
      exact gs_cl_s hj ⟨h1, (he j h1 k).mpr ⟨h2, h3⟩⟩
