section
def bt (x : Int32) (i : Nat) : Bool := x.toBitVec.getLsbD i
theorem b_ext {x y : Int32} (h : ∀ i, i < 32 → bt x i = bt y i) : x = y := Int32.toBitVec_inj.mp (BitVec.eq_of_getLsbD_eq (fun i hi => h i hi))
theorem b_or (x y : Int32) (i : Nat) : bt (x ||| y) i = (bt x i || bt y i) := by unfold bt; rw [Int32.toBitVec_or, BitVec.getLsbD_or]
theorem b_and (x y : Int32) (i : Nat) : bt (x &&& y) i = (bt x i && bt y i) := by unfold bt; rw [Int32.toBitVec_and, BitVec.getLsbD_and]
theorem b_xor (x y : Int32) (i : Nat) : bt (x ^^^ y) i = (bt x i ^^ bt y i) := by unfold bt; rw [Int32.toBitVec_xor, BitVec.getLsbD_xor]
theorem b_big {x : Int32} {i : Nat} (h : 32 ≤ i) : bt x i = false := BitVec.getLsbD_of_ge _ _ h
theorem b_255 (i : Nat) : bt 255 i = decide (i < 8) := by
  rcases Nat.lt_or_ge i 32 with h | h
  · exact (by decide +kernel : ∀ i, i < 32 → bt 255 i = decide (i < 8)) i h
  · rw [b_big h, decide_eq_false (by omega)]
theorem b_65535 (i : Nat) : bt 65535 i = decide (i < 16) := by
  rcases Nat.lt_or_ge i 32 with h | h
  · exact (by decide +kernel : ∀ i, i < 32 → bt 65535 i = decide (i < 16)) i h
  · rw [b_big h, decide_eq_false (by omega)]
theorem b_m1 : ∀ i, i < 32 → bt (-1) i = true := by decide +kernel
theorem b_0 (i : Nat) : bt 0 i = false := BitVec.getLsbD_zero
theorem s_l : ∀ n, n < 32 → ((nI n &&& 31).toBitVec.smod 32).toNat = n := by decide +kernel
theorem s_u : ∀ n, n < 32 → (((nI n).toUInt32 &&& Int32.toUInt32 31).toBitVec % 32).toNat = n := by decide +kernel
theorem b_shl (n : Nat) (hn : n < 32) (x : Int32) {i : Nat} (hi : i < 32) : bt (x <<< (nI n &&& 31)) i = (decide (n ≤ i) && bt x (i - n)) := by
  unfold bt
  rw [Int32.toBitVec_shiftLeft]
  show (x.toBitVec <<< ((nI n &&& 31).toBitVec.smod 32).toNat).getLsbD i = _
  rw [s_l n hn, BitVec.getLsbD_shiftLeft]
  rcases Nat.lt_or_ge i n with h | h
  · simp [h, Nat.not_le.mpr h]
  · simp [hi, h, Nat.not_lt.mpr h]
theorem b_ushr (n : Nat) (hn : n < 32) (x : Int32) (i : Nat) : bt ((x.toUInt32 >>> ((nI n).toUInt32 &&& Int32.toUInt32 31)).toInt32) i = bt x (n + i) := by
  show (x.toUInt32 >>> ((nI n).toUInt32 &&& Int32.toUInt32 31)).toBitVec.getLsbD i = x.toUInt32.toBitVec.getLsbD (n + i)
  rw [UInt32.toBitVec_shiftRight]
  show (x.toUInt32.toBitVec >>> (((nI n).toUInt32 &&& Int32.toUInt32 31).toBitVec % 32).toNat).getLsbD i = _
  rw [s_u n hn, BitVec.getLsbD_ushiftRight]
theorem b_sshr (n : Nat) (hn : n < 32) (x : Int32) {i : Nat} (hi : i < 32) : bt (x >>> (nI n &&& 31)) i = if n + i < 32 then bt x (n + i) else bt x 31 := by
  unfold bt
  rw [Int32.toBitVec_shiftRight]
  show (x.toBitVec.sshiftRight ((nI n &&& 31).toBitVec.smod 32).toNat).getLsbD i = _
  rw [s_l n hn, BitVec.getLsbD_sshiftRight, BitVec.msb_eq_getLsbD_last]
  simp [hi]
theorem pk_us {f : Nat → Int32} {k : Nat} {x : Int32} : upd f k x k = x := if_pos rfl
theorem pk_un {f : Nat → Int32} {k j : Nat} {x : Int32} (h : j ≠ k) : upd f k x j = f j := if_neg h
theorem pk_sub {a b : Nat} (h : b ≤ a) : nI a - nI b = nI (a - b) := by
  obtain ⟨c, rfl⟩ : ∃ c, a = c + b := ⟨a - b, by omega⟩
  rw [← nI_add, Int32.add_sub_cancel, Nat.add_sub_cancel]
theorem pk_m1 (n : Nat) : nI (n + 1) + (-1) = nI n := by
  rw [← nI_1, Int32.add_assoc, show (1 : Int32) + (-1) = 0 from rfl, Int32.add_zero]
theorem pk_mul (a b : Nat) : nI a * nI b = nI (a * b) := (Int32.ofNat_mul a b).symm
theorem pk_div {a d : Nat} (ha : a < 2 ^ 31) (h0 : 0 < d) (hd : d < 2 ^ 31) : nI a / nI d = nI (a / d) := by
  apply Int32.toInt_inj.mp
  rw [lg_idiv_nonneg (by rw [nI_toInt ha]; omega) (by rw [nI_toInt hd]; omega), nI_toInt ha, nI_toInt hd, nI_toInt (Nat.lt_of_le_of_lt (Nat.div_le_self a d) ha)]
  first | rfl | exact (Int.natCast_ediv _ _).symm
theorem pk_rem {a d : Nat} (ha : a < 2 ^ 31) (h0 : 0 < d) (hd : d < 2 ^ 31) : nI a - nI a / nI d * nI d = nI (a % d) := by
  rw [pk_div ha h0 hd, pk_mul, pk_sub (Nat.div_mul_le_self a d)]
  exact congrArg nI (by have := Nat.div_add_mod' a d; omega)
theorem pk_ix (x : Int32) {n : Nat} (hn : n < 2 ^ 31) : x < 0 ∨ nI n ≤ x ∨ ∃ j : Nat, j < n ∧ x = nI j := by
  by_cases h : x < 0
  · exact Or.inl h
  · obtain ⟨j, hj, rfl⟩ := nI_of h
    by_cases h2 : j < n
    · exact Or.inr (Or.inr ⟨j, h2, rfl⟩)
    · exact Or.inr (Or.inl (nI_le (by omega) hj))
theorem pk_le {x y : Int32} {A B : Prop} (a b : Nat) (f : a ≤ b → A) (g : b < a → B) (hx : x = nI a := by rfl) (hy : y = nI b := by rfl) (ha : a < 2 ^ 31 := by omega) (hb : b < 2 ^ 31 := by omega) : (x ≤ y → A) ∧ (¬ x ≤ y → B) := by
  subst hx hy
  rw [nI_leI ha hb]
  exact ⟨f, fun z => g (by omega)⟩
theorem pk_lt {x y : Int32} {A B : Prop} (a b : Nat) (f : a < b → A) (g : b ≤ a → B) (hx : x = nI a := by rfl) (hy : y = nI b := by rfl) (ha : a < 2 ^ 31 := by omega) (hb : b < 2 ^ 31 := by omega) : (x < y → A) ∧ (¬ x < y → B) := by
  subst hx hy
  rw [nI_ltI ha hb]
  exact ⟨f, fun z => g (by omega)⟩
theorem pk_eq {x y : Int32} {A B : Prop} (a b : Nat) (f : a = b → A) (g : a ≠ b → B) (hx : x = nI a := by rfl) (hy : y = nI b := by rfl) (ha : a < 2 ^ 31 := by omega) (hb : b < 2 ^ 31 := by omega) : (x = y → A) ∧ (¬ x = y → B) := by
  subst hx hy
  rw [nI_eq ha hb]
  exact ⟨f, g⟩
theorem pk_in {x : Int32} (n N : Nat) (h : n < N) (hx : x = nI n := by rfl) (hN : N < 2 ^ 31 := by omega) : vp_in x N := by
  subst hx
  exact vp_in_nI h hN
theorem pk_cl {x : Int32} (n : Nat) (hx : x = nI n := by rfl) (h : n < 2 ^ 31 := by omega) : x.toNatClampNeg = n := by
  subst hx
  exact nI_clamp h
theorem pk_tn {n : Nat} (h : n < 2 ^ 32) : (nI n).toBitVec.toNat = n := Nat.mod_eq_of_lt h
theorem pk_and (x : Int32) {m : Int32} (k : Nat) (hm : m.toBitVec.toNat = 2 ^ k - 1) : x &&& m = nI (x.toBitVec.toNat % 2 ^ k) := by
  apply Int32.toBitVec_inj.mp
  apply BitVec.eq_of_toNat_eq
  rw [Int32.toBitVec_and, BitVec.toNat_and, hm, Nat.and_two_pow_sub_one_eq_mod]
  show _ = (BitVec.ofNat 32 _).toNat
  rw [BitVec.toNat_ofNat]
  exact (Nat.mod_eq_of_lt (Nat.lt_of_le_of_lt (Nat.mod_le _ _) x.toBitVec.isLt)).symm
theorem pk_andN {n : Nat} (h : n < 2 ^ 32) {m : Int32} (k : Nat) (hm : m.toBitVec.toNat = 2 ^ k - 1) : nI n &&& m = nI (n % 2 ^ k) := by
  rw [pk_and _ k hm, pk_tn h]
theorem pk_shl (a s : Int32) (k : Nat) (hs : (s.toBitVec.smod 32).toNat = k) : (a <<< s).toBitVec.toNat = a.toBitVec.toNat * 2 ^ k % 2 ^ 32 := by
  show (a.toBitVec <<< (s.toBitVec.smod 32).toNat).toNat = _
  rw [hs, BitVec.toNat_shiftLeft, Nat.shiftLeft_eq]
theorem pk_shlN {n : Nat} (s : Int32) (k : Nat) (hs : (s.toBitVec.smod 32).toNat = k) (h : n * 2 ^ k < 2 ^ 32) : nI n <<< s = nI (n * 2 ^ k) := by
  apply Int32.toBitVec_inj.mp
  apply BitVec.eq_of_toNat_eq
  have hn : n < 2 ^ 32 := Nat.lt_of_le_of_lt (Nat.le_mul_of_pos_right n (Nat.two_pow_pos k)) h
  rw [pk_shl _ _ k hs, pk_tn hn, pk_tn h, Nat.mod_eq_of_lt h]

/-! own: masks of nodes -/
theorem gs_one (i : Nat) : bt 1 i = decide (i = 0) := by
  rcases Nat.lt_or_ge i 32 with h | h
  · exact (by decide +kernel : ∀ i, i < 32 → bt 1 i = decide (i = 0)) i h
  · rw [b_big h, decide_eq_false (by omega)]
theorem gs_b1 (s : Nat) (hs : s < 32) (i : Nat) : bt ((1 : Int32) <<< (nI s &&& 31)) i = decide (i = s) := by
  rcases Nat.lt_or_ge i 32 with h | h
  · rw [b_shl s hs 1 h, gs_one]
    rcases Nat.lt_or_ge i s with z | z
    · rw [decide_eq_false (by omega : ¬ s ≤ i), decide_eq_false (by omega : ¬ i = s), Bool.false_and]
    · rw [decide_eq_true z, Bool.true_and]
      exact decide_eq_decide.mpr (by omega)
  · rw [b_big h, decide_eq_false (by omega)]
theorem gs_not (x : Int32) (i : Nat) (hi : i < 32) : bt (x ^^^ (-1)) i = !(bt x i) := by
  rw [b_xor, b_m1 i hi, Bool.xor_true]
theorem gs_has (m : Int32) {s : Nat} (hs : s < 32) : ((m >>> (nI s &&& 31)) &&& 1) = 0 ↔ bt m s = false := by
  constructor
  · intro h
    have t := congrArg (fun x => bt x 0) h
    simp only [b_and, b_0, gs_one, b_sshr s hs m (by decide : 0 < 32), Nat.add_zero, hs, if_true, decide_true, Bool.and_true] at t
    exact t
  · intro h
    apply b_ext
    intro i hi
    rw [b_and, b_0, gs_one, b_sshr s hs m hi]
    by_cases z : i = 0
    · subst z
      simp only [Nat.add_zero, hs, if_true, h, Bool.false_and]
    · rw [decide_eq_false z, Bool.and_false]
def gs_Mk (r : Int32) (P : Nat → Prop) : Prop := ∀ i, bt r i = true ↔ (i < 16 ∧ P i)
theorem gs_Mk_uniq {r s : Int32} {P : Nat → Prop} (h : gs_Mk r P) (h' : gs_Mk s P) : r = s :=
  b_ext (fun i _ => Bool.eq_iff_iff.mpr ((h i).trans (h' i).symm))
theorem gs_Mk_iff {r : Int32} {P Q : Nat → Prop} (h : gs_Mk r P) (e : ∀ i, i < 16 → (P i ↔ Q i)) : gs_Mk r Q := by
  intro i
  rw [h i]
  constructor
  · exact fun ⟨a, b⟩ => ⟨a, (e i a).mp b⟩
  · exact fun ⟨a, b⟩ => ⟨a, (e i a).mpr b⟩
theorem gs_Mk_u2 {r s : Int32} {P Q : Nat → Prop} (h : gs_Mk r P) (h' : gs_Mk s Q) (e : ∀ i, i < 16 → (P i ↔ Q i)) : r = s :=
  gs_Mk_uniq (gs_Mk_iff h e) h'
theorem gs_Mk_0 {P : Nat → Prop} (h : ∀ i, i < 16 → ¬ P i) : gs_Mk 0 P := by
  intro i
  rw [b_0]
  constructor
  · exact fun z => nomatch z
  · exact fun ⟨a, b⟩ => absurd b (h i a)
theorem gs_Mk_or {a b : Int32} {P Q : Nat → Prop} (h : gs_Mk a P) (h' : gs_Mk b Q) : gs_Mk (a ||| b) (fun i => P i ∨ Q i) := by
  intro i
  rw [b_or, Bool.or_eq_true, h i, h' i]
  constructor
  · rintro (⟨x, y⟩ | ⟨x, y⟩)
    · exact ⟨x, Or.inl y⟩
    · exact ⟨x, Or.inr y⟩
  · rintro ⟨x, y | y⟩
    · exact Or.inl ⟨x, y⟩
    · exact Or.inr ⟨x, y⟩
theorem gs_Mk_bit {s : Nat} (hs : s < 16) : gs_Mk ((1 : Int32) <<< (nI s &&& 31)) (fun i => i = s) := by
  intro i
  rw [gs_b1 s (by omega), decide_eq_true_iff]
  constructor
  · exact fun z => ⟨by omega, z⟩
  · exact fun z => z.2
theorem gs_Mk_set {a : Int32} {P : Nat → Prop} {s : Nat} (h : gs_Mk a P) (hs : s < 16) : gs_Mk (a ||| ((1 : Int32) <<< (nI s &&& 31))) (fun i => P i ∨ i = s) :=
  gs_Mk_or h (gs_Mk_bit hs)
theorem gs_Mk_andn {a b : Int32} {P Q : Nat → Prop} (h : gs_Mk a P) (h' : gs_Mk b Q) : gs_Mk (a &&& (b ^^^ (-1))) (fun i => P i ∧ ¬ Q i) := by
  intro i
  rcases Nat.lt_or_ge i 32 with z | z
  · rw [b_and, gs_not b i z, Bool.and_eq_true, h i, Bool.not_eq_true', ← Bool.not_eq_true, h' i]
    constructor
    · rintro ⟨⟨x, y⟩, w⟩
      exact ⟨x, y, fun q => w ⟨x, q⟩⟩
    · rintro ⟨x, y, w⟩
      exact ⟨⟨x, y⟩, fun q => w q.2⟩
  · rw [b_big z]
    constructor
    · exact fun z => nomatch z
    · rintro ⟨x, _⟩
      omega
theorem gs_Mk_and {a b : Int32} {P Q : Nat → Prop} (h : gs_Mk a P) (h' : gs_Mk b Q) : gs_Mk (a &&& b) (fun i => P i ∧ Q i) := by
  intro i
  rw [b_and, Bool.and_eq_true, h i, h' i]
  constructor
  · rintro ⟨⟨x, y⟩, _, w⟩
    exact ⟨x, y, w⟩
  · rintro ⟨x, y, w⟩
    exact ⟨⟨x, y⟩, x, w⟩
theorem gs_Mk_t {a : Int32} {P : Nat → Prop} {s : Nat} (h : gs_Mk a P) (hs : s < 16) : bt a s = true ↔ P s :=
  (h s).trans ⟨fun z => z.2, fun z => ⟨hs, z⟩⟩
theorem gs_Mk_has {a : Int32} {P : Nat → Prop} {s : Nat} (h : gs_Mk a P) (hs : s < 16) : ((a >>> (nI s &&& 31)) &&& 1) = 0 ↔ ¬ P s := by
  rw [gs_has a (by omega : s < 32), ← Bool.not_eq_true, gs_Mk_t h hs]
theorem gs_Mk_z {a : Int32} {P : Nat → Prop} (h : gs_Mk a P) : a = 0 ↔ ∀ i, i < 16 → ¬ P i := by
  constructor
  · intro z i hi hp
    have t := (h i).mpr ⟨hi, hp⟩
    rw [z, b_0] at t
    exact nomatch t
  · intro z
    exact gs_Mk_uniq h (gs_Mk_0 z)
/-! closures -/
def gs_cl (A : Nat → Prop) (E : Nat → Nat → Prop) (i : Nat) : Prop := ∀ S : Nat → Prop, (∀ j, A j → S j) → (∀ j k, S j → E j k → S k) → S i
section
variable {A A' : Nat → Prop} {E E' : Nat → Nat → Prop} {a b c i j k : Nat}
theorem gs_cl_b (h : A i) : gs_cl A E i := fun _ h0 _ => h0 i h
theorem gs_cl_s (h : gs_cl A E j) (e : E j k) : gs_cl A E k := fun S h0 h1 => h1 j k (h S h0 h1) e
theorem gs_cl_i (h : gs_cl A E i) (S : Nat → Prop) (h0 : ∀ j, A j → S j) (h1 : ∀ j k, gs_cl A E j → S j → E j k → S k) : S i :=
  (h (fun j => gs_cl A E j ∧ S j) (fun j a => ⟨gs_cl_b a, h0 j a⟩) (fun j k cs e => ⟨gs_cl_s cs.1 e, h1 j k cs.1 cs.2 e⟩)).2
theorem gs_cl_mono (h : gs_cl A E i) (hA : ∀ j, A j → gs_cl A' E' j) (hE : ∀ j k, gs_cl A E j → gs_cl A' E' j → E j k → gs_cl A' E' k) : gs_cl A' E' i :=
  gs_cl_i h _ hA hE
theorem gs_cl_tr (h : gs_cl (fun x => x = j) E i) (h' : gs_cl A E j) : gs_cl A E i :=
  gs_cl_i h (fun x => gs_cl A E x) (fun _ e => e ▸ h') (fun _ _ _ s e => gs_cl_s s e)
theorem gs_cl_rev (h : gs_cl (fun x => x = a) E b) : gs_cl (fun x => x = b) (fun x y => E y x) a :=
  gs_cl_i h (fun y => gs_cl (fun x => x = y) (fun x y => E y x) a) (fun _ e => gs_cl_b e.symm)
    (fun j k _ s e => gs_cl_tr s (gs_cl_s (gs_cl_b (A := fun x => x = k) rfl) e))
theorem gs_cl_ex : gs_cl A E b ↔ ∃ a, A a ∧ gs_cl (fun x => x = a) E b := by
  constructor
  · intro h
    exact gs_cl_i h (fun y => ∃ a, A a ∧ gs_cl (fun x => x = a) E y) (fun j hj => ⟨j, hj, gs_cl_b rfl⟩)
      (fun j k _ s e => by obtain ⟨a, ha, hs⟩ := s; exact ⟨a, ha, gs_cl_s hs e⟩)
  · rintro ⟨a, ha, h⟩
    exact gs_cl_tr h (gs_cl_b ha)
theorem gs_cl_last (h : gs_cl A E i) : A i ∨ ∃ j, gs_cl A E j ∧ E j i :=
  gs_cl_i h (fun i => A i ∨ ∃ j, gs_cl A E j ∧ E j i) (fun _ a => Or.inl a) (fun j _ c _ e => Or.inr ⟨j, c, e⟩)
end
/-! rounds to a fixed point -/
def gs_it {α : Type} (f : α → α) : Nat → α → α
  | 0, x => x
  | n + 1, x => gs_it f n (f x)
theorem gs_it_s {α : Type} (f : α → α) : ∀ (n : Nat) (x : α), gs_it f (n + 1) x = f (gs_it f n x)
  | 0, _ => rfl
  | n + 1, x => gs_it_s f n (f x)
theorem gs_it_fix {α : Type} {f : α → α} {x : α} (h : f x = x) : ∀ n, gs_it f n x = x
  | 0 => rfl
  | n + 1 => by
    show gs_it f n (f x) = x
    rw [h]
    exact gs_it_fix h n
theorem gs_it_inv {α : Type} {f : α → α} (I : α → Prop) (hI : ∀ x, I x → I (f x)) : ∀ n x, I x → I (gs_it f n x)
  | 0, _, h => h
  | n + 1, x, h => gs_it_inv I hI n (f x) (hI x h)
theorem gs_fx {α : Type} (f : α → α) (I : α → Prop) (c : α → Nat) (M : Nat) (hI : ∀ x, I x → I (f x)) (hM : ∀ x, I x → c x ≤ M) (hs : ∀ x, I x → f x ≠ x → c x < c (f x)) : ∀ k x, I x → M ≤ c x + k → f (gs_it f k x) = gs_it f k x := by
  intro k
  induction k with
  | zero =>
    intro x hx hk
    apply Classical.byContradiction
    intro hn
    have h1 := hs x hx hn
    have h2 := hM _ (hI x hx)
    omega
  | succ k ih =>
    intro x hx hk
    by_cases e : f x = x
    · rw [gs_it_fix e]
      exact e
    · have h1 := hs x hx e
      exact ih (f x) (hI x hx) (by omega)
def gs_cn (P : Nat → Bool) : Nat → Nat
  | 0 => 0
  | k + 1 => gs_cn P k + (if P k = true then 1 else 0)
theorem gs_cn_le (P : Nat → Bool) : ∀ k, gs_cn P k ≤ k
  | 0 => Nat.le_refl 0
  | k + 1 => by
    have h := gs_cn_le P k
    unfold gs_cn
    split <;> omega
theorem gs_cn_mono {P Q : Nat → Bool} : ∀ k, (∀ i, i < k → P i = true → Q i = true) → gs_cn P k ≤ gs_cn Q k
  | 0, _ => Nat.le_refl 0
  | k + 1, h => by
    have h1 := gs_cn_mono k (fun i hi => h i (by omega))
    have h2 := h k (by omega)
    unfold gs_cn
    by_cases z : P k = true
    · rw [if_pos z, if_pos (h2 z)]
      omega
    · rw [if_neg z]
      omega
theorem gs_cn_lt {P Q : Nat → Bool} : ∀ k, (∀ i, i < k → P i = true → Q i = true) → (∃ i, i < k ∧ Q i = true ∧ ¬ P i = true) → gs_cn P k < gs_cn Q k
  | 0, _, ⟨i, hi, _⟩ => absurd hi (by omega)
  | k + 1, h, ⟨i, hi, hq, hp⟩ => by
    have h0 := gs_cn_mono k (fun i hi => h i (by omega))
    have h2 := h k (by omega)
    unfold gs_cn
    by_cases e : i = k
    · subst e
      rw [if_pos hq, if_neg hp]
      omega
    · have h1 := gs_cn_lt k (fun i hi => h i (by omega)) ⟨i, by omega, hq, hp⟩
      by_cases z : P k = true
      · rw [if_pos z, if_pos (h2 z)]
        omega
      · rw [if_neg z]
        omega
theorem gs_cn_pos {P : Nat → Bool} {i : Nat} : ∀ k, i < k → P i = true → 0 < gs_cn P k := by
  intro k hi hp
  have h := gs_cn_lt (P := fun _ => false) (Q := P) k (fun _ _ z => nomatch z) ⟨i, hi, hp, fun z => nomatch z⟩
  omega
theorem gs_cn_congr {P Q : Nat → Bool} : ∀ k, (∀ i, i < k → P i = Q i) → gs_cn P k = gs_cn Q k
  | 0, _ => rfl
  | k + 1, h => by
    unfold gs_cn
    rw [gs_cn_congr k (fun i hi => h i (by omega)), h k (by omega)]
theorem gs_cn_ins {P Q : Nat → Bool} {s : Nat} : ∀ k, s < k → P s = false → (∀ i, i < k → Q i = (P i || decide (i = s))) → gs_cn Q k = gs_cn P k + 1
  | 0, h, _, _ => absurd h (by omega)
  | k + 1, h, hp, hq => by
    unfold gs_cn
    by_cases e : s = k
    · subst e
      rw [hq s (by omega), hp, gs_cn_congr (P := Q) (Q := P) s (fun i hi => by rw [hq i (by omega), decide_eq_false (by omega : ¬ i = s), Bool.or_false])]
      simp
    · rw [gs_cn_ins k (by omega) hp (fun i hi => hq i (by omega)), hq k (by omega), decide_eq_false (by omega : ¬ k = s), Bool.or_false]
      omega
theorem gs_cn_0 {P : Nat → Bool} : ∀ k, (∀ i, i < k → P i = false) → gs_cn P k = 0
  | 0, _ => rfl
  | k + 1, h => by
    unfold gs_cn
    rw [gs_cn_0 k (fun i hi => h i (by omega)), h k (by omega)]
    rfl
/-! sweeps over the nodes -/
def gs_sw1 (so : Int32) (e : Nat → Int32) (r : Int32) : Nat → Int32
  | 0 => r
  | n + 1 => if bt so n = true ∨ bt (gs_sw1 so e r n) n = true then gs_sw1 so e r n ||| e n else gs_sw1 so e r n
def gs_sw (so : Int32) (e : Nat → Int32) (r : Int32) : Int32 := gs_sw1 so e r 16
section
variable {so : Int32} {e : Nat → Int32} {r : Int32}
theorem gs_sw_up {i : Nat} (n : Nat) (h : bt (gs_sw1 so e r n) i = true) : bt (gs_sw1 so e r (n + 1)) i = true := by
  unfold gs_sw1
  split
  · rw [b_or, h, Bool.true_or]
  · exact h
theorem gs_sw_mono {i n : Nat} (h : bt (gs_sw1 so e r n) i = true) : ∀ m, n ≤ m → bt (gs_sw1 so e r m) i = true := by
  intro m
  induction m with
  | zero => intro hm; cases Nat.le_zero.mp hm; exact h
  | succ m ih =>
    intro hm
    by_cases z : n = m + 1
    · exact z ▸ h
    · exact gs_sw_up m (ih (by omega))
theorem gs_sw_get {n k m : Nat} (hn : n < m) (h : bt so n = true ∨ bt r n = true) (hk : bt (e n) k = true) : bt (gs_sw1 so e r m) k = true := by
  apply gs_sw_mono (n := n + 1) _ m hn
  unfold gs_sw1
  rw [if_pos (h.imp id (fun z => gs_sw_mono (n := 0) z n (by omega))), b_or, hk, Bool.or_true]
theorem gs_sw_snd (S : Nat → Prop) (h0 : ∀ i, bt r i = true → S i) (h1 : ∀ n k, n < 16 → bt so n = true → bt (e n) k = true → S k) (h2 : ∀ n k, n < 16 → S n → bt (e n) k = true → S k) : ∀ m, m ≤ 16 → ∀ i, bt (gs_sw1 so e r m) i = true → S i := by
  intro m
  induction m with
  | zero => intro _ i h; exact h0 i h
  | succ m ih =>
    intro hm i h
    unfold gs_sw1 at h
    split at h
    · rename_i z
      rw [b_or, Bool.or_eq_true] at h
      rcases h with h | h
      · exact ih (by omega) i h
      · rcases z with z | z
        · exact h1 m i (by omega) z h
        · exact h2 m i (by omega) (ih (by omega) m z) h
    · exact ih (by omega) i h
end
theorem gs_sw_grow {so : Int32} {e : Nat → Int32} {r : Int32} (he : ∀ n, n < 16 → ∀ i, bt (e n) i = true → i < 16) (hr : ∀ i, bt r i = true → i < 16) (hn : gs_sw so e r ≠ r) : gs_cn (bt r) 16 < gs_cn (bt (gs_sw so e r)) 16 := by
  apply gs_cn_lt 16 (fun i _ h => gs_sw_mono (n := 0) h 16 (by omega))
  apply Classical.byContradiction
  intro hx
  apply hn
  apply b_ext
  intro i _
  apply Bool.eq_iff_iff.mpr
  constructor
  · intro h
    apply Classical.byContradiction
    intro h3
    have hi : i < 16 := gs_sw_snd (fun i => i < 16) hr (fun n k h1 _ h2 => he n h1 k h2) (fun n k h1 _ h2 => he n h1 k h2) 16 (by omega) i h
    exact hx ⟨i, hi, h, h3⟩
  · intro h
    exact gs_sw_mono (n := 0) h 16 (by omega)
theorem gs_sw_main {so : Int32} {e : Nat → Int32} {r : Int32} {K : Nat} (he : ∀ n, n < 16 → ∀ i, bt (e n) i = true → i < 16) (hr : ∀ i, bt r i = true → i < 16) (hK : gs_sw so e r = r ∨ 16 ≤ gs_cn (bt r) 16 + K) : gs_Mk (gs_it (gs_sw so e) K r) (gs_cl (fun i => bt r i = true ∨ ∃ n, n < 16 ∧ bt so n = true ∧ bt (e n) i = true) (fun j k => j < 16 ∧ bt (e j) k = true)) := by
  have hfix : gs_sw so e (gs_it (gs_sw so e) K r) = gs_it (gs_sw so e) K r := by
    rcases hK with hK | hK
    · rw [gs_it_fix hK]; exact hK
    · exact gs_fx (gs_sw so e) (fun r => ∀ i, bt r i = true → i < 16) (fun r => gs_cn (bt r) 16) 16
        (fun x hx i h => gs_sw_snd (fun i => i < 16) hx (fun n k h1 _ h2 => he n h1 k h2) (fun n k h1 _ h2 => he n h1 k h2) 16 (by omega) i h)
        (fun x _ => gs_cn_le _ 16) (fun x hx hn => gs_sw_grow he hx hn) K r hr hK
  have hsnd : ∀ i, bt (gs_it (gs_sw so e) K r) i = true → gs_cl (fun i => bt r i = true ∨ ∃ n, n < 16 ∧ bt so n = true ∧ bt (e n) i = true) (fun j k => j < 16 ∧ bt (e j) k = true) i := by
    apply gs_it_inv (f := gs_sw so e) (fun x => ∀ i, bt x i = true → gs_cl (fun i => bt r i = true ∨ ∃ n, n < 16 ∧ bt so n = true ∧ bt (e n) i = true) (fun j k => j < 16 ∧ bt (e j) k = true) i)
    · intro x hx i h
      exact gs_sw_snd _ hx (fun n k h1 h2 h3 => gs_cl_b (Or.inr ⟨n, h1, h2, h3⟩)) (fun n k h1 h2 h3 => gs_cl_s h2 ⟨h1, h3⟩) 16 (by omega) i h
    · intro i h
      exact gs_cl_b (Or.inl h)
  have hup : ∀ i, bt r i = true → bt (gs_it (gs_sw so e) K r) i = true := by
    intro i hi
    exact gs_it_inv (f := gs_sw so e) (fun x => bt x i = true) (fun x h => gs_sw_mono (n := 0) h 16 (by omega)) K r hi
  intro i
  constructor
  · intro h
    refine ⟨?_, hsnd i h⟩
    exact gs_cl_i (hsnd i h) (fun i => i < 16) (fun j hj => hj.elim (hr j) (fun ⟨n, h1, _, h2⟩ => he n h1 j h2)) (fun j k _ _ h => he j h.1 k h.2)
  · rintro ⟨_, h⟩
    apply gs_cl_i h (fun i => bt (gs_it (gs_sw so e) K r) i = true)
    · rintro j (hj | ⟨n, h1, h2, h3⟩)
      · exact hup j hj
      · rw [← hfix]
        exact gs_sw_get h1 (Or.inl h2) h3
    · rintro j k _ hj ⟨h1, h2⟩
      rw [← hfix]
      exact gs_sw_get h1 (Or.inr hj) h2
theorem gs_sw_none {so : Int32} {e : Nat → Int32} {r : Int32} (h0 : ∀ i, i < 16 → bt so i = false) (hr : ∀ i, i < 16 → bt r i = false) : ∀ m, m ≤ 16 → gs_sw1 so e r m = r
  | 0, _ => rfl
  | m + 1, h => by
    unfold gs_sw1
    rw [gs_sw_none h0 hr m (by omega), if_neg]
    rw [h0 m (by omega), hr m (by omega)]
    exact fun z => z.elim (fun z => nomatch z) (fun z => nomatch z)
/-- what X's reach answers -/
def gs_rch (L : Nat → Int32) (fr wo : Int32) : Int32 := gs_it (gs_sw 0 (fun n => L n &&& (wo ^^^ (-1)))) 15 (fr &&& (wo ^^^ (-1)))
theorem gs_rch_ok {L : Nat → Int32} {fr wo : Int32} {F W : Nat → Prop} {G : Nat → Nat → Prop} (hL : ∀ n, n < 16 → gs_Mk (L n) (G n)) (hf : gs_Mk fr F) (hw : gs_Mk wo W) :
    gs_Mk (gs_rch L fr wo) (gs_cl (fun i => i < 16 ∧ F i ∧ ¬ W i) (fun j k => j < 16 ∧ k < 16 ∧ G j k ∧ ¬ W k)) := by
  have hr := gs_Mk_andn hf hw
  have he : ∀ n, n < 16 → gs_Mk (L n &&& (wo ^^^ (-1))) (fun k => G n k ∧ ¬ W k) := fun n hn => gs_Mk_andn (hL n hn) hw
  have hK : gs_sw 0 (fun n => L n &&& (wo ^^^ (-1))) (fr &&& (wo ^^^ (-1))) = fr &&& (wo ^^^ (-1)) ∨ 16 ≤ gs_cn (bt (fr &&& (wo ^^^ (-1)))) 16 + 15 := by
    by_cases z : ∃ i, i < 16 ∧ bt (fr &&& (wo ^^^ (-1))) i = true
    · obtain ⟨i, hi, hb⟩ := z
      have := gs_cn_pos 16 hi hb
      right
      omega
    · left
      apply gs_sw_none (fun i _ => b_0 i) _ 16 (by omega)
      intro i hi
      cases hb : bt (fr &&& (wo ^^^ (-1))) i
      · rfl
      · exact absurd ⟨i, hi, hb⟩ z
  have h := gs_sw_main (so := 0) (e := fun n => L n &&& (wo ^^^ (-1))) (r := fr &&& (wo ^^^ (-1))) (K := 15) (fun n hn i hb => ((he n hn i).mp hb).1) (fun i hb => ((hr i).mp hb).1) hK
  apply gs_Mk_iff h
  intro i _
  constructor
  · intro hc
    apply gs_cl_mono hc
    · rintro j (hj | ⟨n, _, h2, _⟩)
      · exact gs_cl_b ((hr j).mp hj)
      · rw [b_0] at h2
        exact nomatch h2
    · rintro j k _ hj ⟨h1, h2⟩
      have h3 := (he j h1 k).mp h2
      exact gs_cl_s hj ⟨h1, h3.1, h3.2⟩
  · intro hc
    apply gs_cl_mono hc
    · intro j hj
      exact gs_cl_b (Or.inl ((hr j).mpr hj))
    · rintro j k _ hj ⟨h1, h2, h3⟩
      exact gs_cl_s hj ⟨h1, (he j h1 k).mpr ⟨h2, h3⟩⟩
end
section
/-! the graph: ek n its end's kind, ex n and ey n where it goes; going through it deeper first -/
theorem gs_it_add {α : Type} (f : α → α) (m : Nat) : ∀ (n : Nat) (x : α), gs_it f (m + n) x = gs_it f m (gs_it f n x)
  | 0, _ => rfl
  | n + 1, x => gs_it_add f m n (f x)
theorem gs_sealed {α : Type} (x : α) : ∃ y, y = x := ⟨x, rfl⟩
noncomputable def gs_seal {α : Type} (x : α) : α := Classical.choose (gs_sealed x)
theorem gs_seal_eq {α : Type} (x : α) : gs_seal x = x := Classical.choose_spec (gs_sealed x)
def gs_nd : List Nat → Prop
  | [] => True
  | x :: t => x ∉ t ∧ gs_nd t
def gs_ix : List Nat → Nat → Nat
  | [], _ => 0
  | x :: t, n => if x = n then 0 else gs_ix t n + 1
theorem gs_ix_lt : ∀ (l : List Nat) (n : Nat), n ∈ l → gs_ix l n < l.length
  | [], _, h => by cases h
  | x :: t, n, h => by
    unfold gs_ix
    by_cases e : x = n
    · rw [if_pos e]; exact Nat.succ_pos _
    · rw [if_neg e]
      have h2 : n ∈ t := by
        rcases List.mem_cons.mp h with h | h
        · exact absurd h.symm e
        · exact h
      have := gs_ix_lt t n h2
      simp only [List.length_cons]
      omega
theorem gs_ix_inj : ∀ (l : List Nat) (m n : Nat), m ∈ l → n ∈ l → gs_ix l m = gs_ix l n → m = n
  | [], _, _, h, _, _ => by cases h
  | x :: t, m, n, hm, hn, h => by
    unfold gs_ix at h
    by_cases e : x = m
    · by_cases e' : x = n
      · exact e.symm.trans e'
      · rw [if_pos e, if_neg e'] at h; omega
    · by_cases e' : x = n
      · rw [if_neg e, if_pos e'] at h; omega
      · rw [if_neg e, if_neg e'] at h
        have hm2 : m ∈ t := (List.mem_cons.mp hm).elim (fun z => absurd z.symm e) id
        have hn2 : n ∈ t := (List.mem_cons.mp hn).elim (fun z => absurd z.symm e') id
        exact gs_ix_inj t m n hm2 hn2 (by omega)
/-- the k-th of a list, counted from its head -/
def gs_at : List Nat → Nat → Nat
  | [], _ => 0
  | x :: _, 0 => x
  | _ :: t, k + 1 => gs_at t k
theorem gs_at_mem : ∀ (l : List Nat) (k : Nat), k < l.length → gs_at l k ∈ l
  | [], _, h => absurd h (by simp)
  | x :: t, 0, _ => List.mem_cons_self
  | x :: t, k + 1, h => List.mem_cons_of_mem x (gs_at_mem t k (by simp only [List.length_cons] at h; omega))
theorem gs_at_ix : ∀ (l : List Nat) (n : Nat), n ∈ l → gs_at l (gs_ix l n) = n
  | [], _, h => by cases h
  | x :: t, n, h => by
    unfold gs_ix
    by_cases e : x = n
    · rw [if_pos e]; exact e
    · rw [if_neg e]
      exact gs_at_ix t n ((List.mem_cons.mp h).elim (fun z => absurd z.symm e) id)
theorem gs_ix_at : ∀ (l : List Nat) (k : Nat), gs_nd l → k < l.length → gs_ix l (gs_at l k) = k
  | [], _, _, h => absurd h (by simp)
  | x :: t, 0, _, _ => if_pos rfl
  | x :: t, k + 1, hn, h => by
    have hk : k < t.length := by simp only [List.length_cons] at h; omega
    have hm := gs_at_mem t k hk
    show (if x = gs_at t k then 0 else gs_ix t (gs_at t k) + 1) = k + 1
    rw [if_neg (show ¬ x = gs_at t k from fun z => hn.1 (z ▸ hm)), gs_ix_at t k hn.2 hk]
/-- a stack in an array: the head of the list lies on top -/
def gs_st (a : Nat → Int32) : List Nat → Prop
  | [] => True
  | x :: t => a t.length = nI x ∧ gs_st a t
theorem gs_st_upd {a : Nat → Int32} {k : Nat} {v : Int32} : ∀ (l : List Nat), l.length ≤ k → gs_st a l → gs_st (upd a k v) l
  | [], _, _ => trivial
  | x :: t, hk, h => by
    simp only [List.length_cons] at hk
    exact ⟨(pk_un (by omega)).trans h.1, gs_st_upd t (by omega) h.2⟩
theorem gs_st_push {a : Nat → Int32} {l : List Nat} {x : Nat} (h : gs_st a l) : gs_st (upd a l.length (nI x)) (x :: l) :=
  ⟨pk_us, gs_st_upd l (Nat.le_refl _) h⟩
/-- a list in an array by its places, the head last: a (length - 1 - k) is the k-th -/
theorem gs_st_at {a : Nat → Int32} : ∀ (l : List Nat) (k : Nat), gs_st a l → k < l.length → a (l.length - 1 - k) = nI (gs_at l k)
  | [], _, _, h => absurd h (by simp)
  | x :: t, 0, h, _ => by
    simp only [List.length_cons]
    exact h.1
  | x :: t, k + 1, h, hk => by
    simp only [List.length_cons] at hk ⊢
    have := gs_st_at t k h.2 (by omega)
    rw [show t.length + 1 - 1 - (k + 1) = t.length - 1 - k by omega]
    exact this
section
variable (ek ex ey : Nat → Nat)
def gs_E (n s : Nat) : Prop := (ek n = 1 ∧ ex n = s) ∨ (ek n = 2 ∧ (ex n = s ∨ ey n = s))
def gs_sc (n k : Nat) : Option Nat := if ek n = 2 then (if k = 0 then some (ex n) else some (ey n)) else if ek n = 1 ∧ k = 0 then some (ex n) else none
def gs_af (n : Nat) : Nat := if ek n = 0 then 0 else if ek n = 1 ∨ ex n = ey n then 1 else 2
def gs_ns (n k : Nat) : Nat := if k = 0 then ex n else ey n
theorem gs_af_le (n : Nat) : gs_af ek ex ey n ≤ 2 := by
  unfold gs_af
  split
  · omega
  · split <;> omega
theorem gs_E_sc {n s : Nat} : gs_E ek ex ey n s ↔ ∃ k, k < 2 ∧ gs_sc ek ex ey n k = some s := by
  unfold gs_E gs_sc
  constructor
  · rintro (⟨h, rfl⟩ | ⟨h, rfl | rfl⟩)
    · exact ⟨0, by omega, by simp [h]⟩
    · exact ⟨0, by omega, by simp [h]⟩
    · exact ⟨1, by omega, by simp [h]⟩
  · rintro ⟨k, hk, h⟩
    by_cases h2 : ek n = 2
    · rw [if_pos h2] at h
      right
      refine ⟨h2, ?_⟩
      by_cases z : k = 0
      · rw [if_pos z] at h
        exact Or.inl (Option.some.inj h)
      · rw [if_neg z] at h
        exact Or.inr (Option.some.inj h)
    · rw [if_neg h2] at h
      by_cases h1 : ek n = 1 ∧ k = 0
      · rw [if_pos h1] at h
        exact Or.inl ⟨h1.1, Option.some.inj h⟩
      · rw [if_neg h1] at h
        exact nomatch h
theorem gs_E_af (hk : ∀ n, ek n ≤ 2) {n s : Nat} : gs_E ek ex ey n s ↔ ∃ k, k < gs_af ek ex ey n ∧ gs_ns ex ey n k = s := by
  have h3 := hk n
  unfold gs_E gs_af gs_ns
  constructor
  · rintro (⟨h, rfl⟩ | ⟨h, rfl | rfl⟩)
    · exact ⟨0, by simp [h], rfl⟩
    · refine ⟨0, ?_, rfl⟩
      rw [if_neg (by omega)]
      split <;> omega
    · by_cases z : ex n = ey n
      · exact ⟨0, by simp [h, z], by simp [z]⟩
      · exact ⟨1, by simp [h, z], rfl⟩
  · rintro ⟨k, hk, h⟩
    by_cases h0 : ek n = 0
    · rw [if_pos h0] at hk
      omega
    · rw [if_neg h0] at hk
      by_cases h1 : ek n = 1
      · rw [if_pos (Or.inl h1)] at hk
        rw [if_pos (by omega)] at h
        exact Or.inl ⟨h1, h⟩
      · refine Or.inr ⟨by omega, ?_⟩
        by_cases z : k = 0
        · rw [if_pos z] at h
          exact Or.inl h
        · rw [if_neg z] at h
          exact Or.inr h
theorem gs_E_lt (hx : ∀ n, ex n < 16) (hy : ∀ n, ey n < 16) {n s : Nat} (h : gs_E ek ex ey n s) : s < 16 := by
  rcases h with ⟨_, rfl⟩ | ⟨_, rfl | rfl⟩
  · exact hx n
  · exact hx n
  · exact hy n
/-- one look: (the nodes that are gone through with their next sides, those come to, those left) -/
def gs_ds (S : List (Nat × Nat) × (Nat → Bool) × List Nat) : List (Nat × Nat) × (Nat → Bool) × List Nat :=
  match S with
  | ([], sn, lv) => ([], sn, lv)
  | ((n, k) :: t, sn, lv) => if k = 2 then (t, sn, n :: lv) else
      match gs_sc ek ex ey n k with
      | none => ((n, k + 1) :: t, sn, lv)
      | some s => if sn s = true then ((n, k + 1) :: t, sn, lv) else ((s, 0) :: (n, k + 1) :: t, (fun i => sn i || decide (i = s)), lv)
def gs_d0 : List (Nat × Nat) × (Nat → Bool) × List Nat := ([(0, 0)], (fun i => decide (i = 0)), [])
def gs_sz : List (Nat × Nat) → Nat
  | [] => 0
  | e :: t => (3 - e.2) + gs_sz t
def gs_mu (S : List (Nat × Nat) × (Nat → Bool) × List Nat) : Nat := gs_sz S.1 + 3 * (16 - gs_cn S.2.1 16)
def gs_Inv (stk : List (Nat × Nat)) (sn : Nat → Bool) (lv : List Nat) : Prop :=
  (∀ e, e ∈ stk → e.1 < 16 ∧ e.2 ≤ 2 ∧ sn e.1 = true) ∧
  (∀ n, n ∈ lv → n < 16 ∧ sn n = true) ∧
  gs_nd (stk.map Prod.fst) ∧ gs_nd lv ∧ (∀ n, n ∈ stk.map Prod.fst → n ∉ lv) ∧
  (∀ n, sn n = true → n ∈ stk.map Prod.fst ∨ n ∈ lv) ∧
  (∀ e, e ∈ stk → ∀ j, j < e.2 → ∀ s, gs_sc ek ex ey e.1 j = some s → sn s = true) ∧
  (∀ n, n ∈ lv → ∀ j, j < 2 → ∀ s, gs_sc ek ex ey n j = some s → sn s = true) ∧
  (∀ n, sn n = true → gs_cl (fun x => x = 0) (gs_E ek ex ey) n) ∧
  sn 0 = true ∧
  ((stk = [] ∧ ∃ t, lv = 0 :: t) ∨ ∃ t k, stk = t ++ [(0, k)])
variable {ek ex ey}
theorem gs_Inv_pop {n : Nat} {t : List (Nat × Nat)} {sn : Nat → Bool} {lv : List Nat} (h : gs_Inv ek ex ey ((n, 2) :: t) sn lv) : gs_Inv ek ex ey t sn (n :: lv) := by
  obtain ⟨h1, h2, h3, h4, h5, h6, h7, h8, h9, h10, h11⟩ := h
  have hn := h1 (n, 2) List.mem_cons_self
  rw [List.map_cons] at h3 h5 h6
  refine ⟨fun e he => h1 e (List.mem_cons_of_mem _ he), ?_, h3.2, ⟨h5 n List.mem_cons_self, h4⟩, ?_, ?_, fun e he => h7 e (List.mem_cons_of_mem _ he), ?_, h9, h10, ?_⟩
  · intro m hm
    rcases List.mem_cons.mp hm with rfl | hm
    · exact ⟨hn.1, hn.2.2⟩
    · exact h2 m hm
  · intro m hm hx
    rcases List.mem_cons.mp hx with rfl | hx
    · exact h3.1 hm
    · exact h5 m (List.mem_cons_of_mem _ hm) hx
  · intro m hm
    rcases h6 m hm with z | z
    · rcases List.mem_cons.mp z with rfl | z
      · exact Or.inr List.mem_cons_self
      · exact Or.inl z
    · exact Or.inr (List.mem_cons_of_mem _ z)
  · intro m hm j hj s hs
    rcases List.mem_cons.mp hm with rfl | hm
    · exact h7 (m, 2) List.mem_cons_self j hj s hs
    · exact h8 m hm j hj s hs
  · rcases h11 with ⟨z, _⟩ | ⟨t', k, z⟩
    · exact nomatch z
    · cases t' with
      | nil =>
        have z1 := (List.cons.inj z).1
        have z2 := (List.cons.inj z).2
        have z3 : n = 0 := congrArg Prod.fst z1
        exact Or.inl ⟨z2, lv, by rw [z3]⟩
      | cons y t'' => exact Or.inr ⟨t'', k, (List.cons.inj z).2⟩
theorem gs_Inv_step {n k : Nat} {t : List (Nat × Nat)} {sn : Nat → Bool} {lv : List Nat} (h : gs_Inv ek ex ey ((n, k) :: t) sn lv) (hk : k < 2) (hs : ∀ s, gs_sc ek ex ey n k = some s → sn s = true) : gs_Inv ek ex ey ((n, k + 1) :: t) sn lv := by
  obtain ⟨h1, h2, h3, h4, h5, h6, h7, h8, h9, h10, h11⟩ := h
  refine ⟨?_, h2, h3, h4, h5, h6, ?_, h8, h9, h10, ?_⟩
  · intro e he
    rcases List.mem_cons.mp he with rfl | he
    · have := h1 (n, k) List.mem_cons_self
      exact ⟨this.1, (by omega : k + 1 ≤ 2), this.2.2⟩
    · exact h1 e (List.mem_cons_of_mem _ he)
  · intro e he j hj s hsc
    rcases List.mem_cons.mp he with rfl | he
    · by_cases z : j = k
      · subst z
        exact hs s hsc
      · have hj' : j < k + 1 := hj
        exact h7 (n, k) List.mem_cons_self j (by show j < k; omega) s hsc
    · exact h7 e (List.mem_cons_of_mem _ he) j hj s hsc
  · rcases h11 with ⟨z, _⟩ | ⟨t', k', z⟩
    · exact nomatch z
    · cases t' with
      | nil =>
        have z1 := (List.cons.inj z).1
        have z2 := (List.cons.inj z).2
        have z3 : n = 0 := congrArg Prod.fst z1
        exact Or.inr ⟨[], k + 1, by rw [z3, z2]; rfl⟩
      | cons y t'' => exact Or.inr ⟨(n, k + 1) :: t'', k', by rw [(List.cons.inj z).2]; rfl⟩
theorem gs_Inv_push (hx : ∀ n, ex n < 16) (hy : ∀ n, ey n < 16) {n k s : Nat} {t : List (Nat × Nat)} {sn : Nat → Bool} {lv : List Nat} (h : gs_Inv ek ex ey ((n, k) :: t) sn lv) (hk : k < 2) (hs : gs_sc ek ex ey n k = some s) (hn : ¬ sn s = true) : gs_Inv ek ex ey ((s, 0) :: (n, k + 1) :: t) (fun i => sn i || decide (i = s)) lv := by
  obtain ⟨h1, h2, h3, h4, h5, h6, h7, h8, h9, h10, h11⟩ := h
  have hE : gs_E ek ex ey n s := (gs_E_sc ek ex ey).mpr ⟨k, hk, hs⟩
  have hs16 : s < 16 := gs_E_lt ek ex ey hx hy hE
  have up : ∀ m, sn m = true → (sn m || decide (m = s)) = true := fun m hm => by rw [hm, Bool.true_or]
  have hsS : (sn s || decide (s = s)) = true := by rw [decide_eq_true rfl, Bool.or_true]
  have hnn := h1 (n, k) List.mem_cons_self
  have hsn : s ∉ ((n, k) :: t).map Prod.fst := by
    intro z
    obtain ⟨e, he, hes⟩ := List.mem_map.mp z
    exact hn (hes ▸ (h1 e he).2.2)
  have hsl : s ∉ lv := fun z => hn (h2 s z).2
  refine ⟨?_, fun m hm => ⟨(h2 m hm).1, up m (h2 m hm).2⟩, ⟨hsn, h3⟩, h4, ?_, ?_, ?_, fun m hm j hj q hq => up q (h8 m hm j hj q hq), ?_, up 0 h10, ?_⟩
  · intro e he
    rcases List.mem_cons.mp he with rfl | he
    · exact ⟨hs16, by show 0 ≤ 2; omega, hsS⟩
    · rcases List.mem_cons.mp he with rfl | he
      · exact ⟨hnn.1, (by omega : k + 1 ≤ 2), up n hnn.2.2⟩
      · have := h1 e (List.mem_cons_of_mem _ he)
        exact ⟨this.1, this.2.1, up _ this.2.2⟩
  · intro m hm
    rw [List.map_cons] at hm
    rcases List.mem_cons.mp hm with rfl | hm
    · exact hsl
    · exact h5 m hm
  · intro m hm
    rw [Bool.or_eq_true, decide_eq_true_iff] at hm
    rw [List.map_cons]
    rcases hm with hm | rfl
    · exact (h6 m hm).imp (fun z => List.mem_cons_of_mem _ z) id
    · exact Or.inl List.mem_cons_self
  · intro e he j hj q hq
    rcases List.mem_cons.mp he with rfl | he
    · exact absurd hj (Nat.not_lt_zero j)
    · rcases List.mem_cons.mp he with rfl | he
      · by_cases z : j = k
        · subst z
          have : some s = some q := hs.symm.trans hq
          cases this
          exact hsS
        · have hj' : j < k + 1 := hj
          exact up q (h7 (n, k) List.mem_cons_self j (by show j < k; omega) q hq)
      · exact up q (h7 e (List.mem_cons_of_mem _ he) j hj q hq)
  · intro m hm
    rw [Bool.or_eq_true, decide_eq_true_iff] at hm
    rcases hm with hm | rfl
    · exact h9 m hm
    · exact gs_cl_s (h9 n hnn.2.2) hE
  · rcases h11 with ⟨z, _⟩ | ⟨t', k', z⟩
    · exact nomatch z
    · cases t' with
      | nil =>
        have z1 := (List.cons.inj z).1
        have z2 := (List.cons.inj z).2
        have z3 : n = 0 := congrArg Prod.fst z1
        exact Or.inr ⟨[(s, 0)], k + 1, by rw [z3, z2]; rfl⟩
      | cons y t'' => exact Or.inr ⟨(s, 0) :: (n, k + 1) :: t'', k', by rw [(List.cons.inj z).2]; rfl⟩
theorem gs_Inv_0 : gs_Inv ek ex ey gs_d0.1 gs_d0.2.1 gs_d0.2.2 := by
  refine ⟨?_, ?_, ?_, trivial, ?_, ?_, ?_, ?_, ?_, rfl, Or.inr ⟨[], 0, rfl⟩⟩
  · intro e he
    rcases List.mem_cons.mp he with rfl | he
    · exact ⟨by decide, by decide, rfl⟩
    · cases he
  · intro n hn
    cases hn
  · exact ⟨(fun z => nomatch z), trivial⟩
  · intro n _ hn
    cases hn
  · intro n hn
    have z : n = 0 := decide_eq_true_iff.mp hn
    exact Or.inl (z ▸ List.mem_cons_self)
  · intro e he j hj
    rcases List.mem_cons.mp he with rfl | he
    · exact absurd hj (Nat.not_lt_zero j)
    · cases he
  · intro n hn
    cases hn
  · intro n hn
    have z : n = 0 := decide_eq_true_iff.mp hn
    exact gs_cl_b z
theorem gs_ds_pop {n : Nat} {t : List (Nat × Nat)} {sn : Nat → Bool} {lv : List Nat} : gs_ds ek ex ey ((n, 2) :: t, sn, lv) = (t, sn, n :: lv) := rfl
theorem gs_ds_step {n k : Nat} {t : List (Nat × Nat)} {sn : Nat → Bool} {lv : List Nat} (hk : k < 2) (hs : ∀ s, gs_sc ek ex ey n k = some s → sn s = true) : gs_ds ek ex ey ((n, k) :: t, sn, lv) = ((n, k + 1) :: t, sn, lv) := by
  show (if k = 2 then _ else _) = _
  rw [if_neg (by omega)]
  cases e : gs_sc ek ex ey n k with
  | none => rfl
  | some s => exact if_pos (hs s e)
theorem gs_ds_push {n k s : Nat} {t : List (Nat × Nat)} {sn : Nat → Bool} {lv : List Nat} (hk : k < 2) (hs : gs_sc ek ex ey n k = some s) (hn : ¬ sn s = true) : gs_ds ek ex ey ((n, k) :: t, sn, lv) = ((s, 0) :: (n, k + 1) :: t, (fun i => sn i || decide (i = s)), lv) := by
  show (if k = 2 then _ else _) = _
  rw [if_neg (by omega), hs]
  exact if_neg hn
/-- the three cases of a look -/
theorem gs_ds_cases {n k : Nat} (sn : Nat → Bool) (hk : k ≤ 2) : k = 2 ∨ (k < 2 ∧ ∀ s, gs_sc ek ex ey n k = some s → sn s = true) ∨ (k < 2 ∧ ∃ s, gs_sc ek ex ey n k = some s ∧ ¬ sn s = true) := by
  rcases Nat.lt_or_ge k 2 with h | h
  · right
    by_cases z : ∃ s, gs_sc ek ex ey n k = some s ∧ ¬ sn s = true
    · exact Or.inr ⟨h, z⟩
    · refine Or.inl ⟨h, fun s hs => ?_⟩
      apply Classical.byContradiction
      exact fun q => z ⟨s, hs, q⟩
  · left; omega
theorem gs_ds_inv (hx : ∀ n, ex n < 16) (hy : ∀ n, ey n < 16) (S : List (Nat × Nat) × (Nat → Bool) × List Nat) (h : gs_Inv ek ex ey S.1 S.2.1 S.2.2) : gs_Inv ek ex ey (gs_ds ek ex ey S).1 (gs_ds ek ex ey S).2.1 (gs_ds ek ex ey S).2.2 := by
  obtain ⟨stk, sn, lv⟩ := S
  cases stk with
  | nil => exact h
  | cons e t =>
    obtain ⟨n, k⟩ := e
    have hk : k ≤ 2 := (h.1 (n, k) List.mem_cons_self).2.1
    rcases gs_ds_cases (ek := ek) (ex := ex) (ey := ey) (n := n) sn hk with z | ⟨z, hs⟩ | ⟨z, s, hs, hn⟩
    · subst z
      rw [gs_ds_pop]
      exact gs_Inv_pop h
    · rw [gs_ds_step z hs]
      exact gs_Inv_step h z hs
    · rw [gs_ds_push z hs hn]
      exact gs_Inv_push hx hy h z hs hn
theorem gs_ds_mu (hx : ∀ n, ex n < 16) (hy : ∀ n, ey n < 16) (S : List (Nat × Nat) × (Nat → Bool) × List Nat) (h : gs_Inv ek ex ey S.1 S.2.1 S.2.2) (hne : S.1 ≠ []) : gs_mu (gs_ds ek ex ey S) < gs_mu S := by
  obtain ⟨stk, sn, lv⟩ := S
  cases stk with
  | nil => exact absurd rfl hne
  | cons e t =>
    obtain ⟨n, k⟩ := e
    have hk : k ≤ 2 := (h.1 (n, k) List.mem_cons_self).2.1
    rcases gs_ds_cases (ek := ek) (ex := ex) (ey := ey) (n := n) sn hk with z | ⟨z, hs⟩ | ⟨z, s, hs, hn⟩
    · subst z
      rw [gs_ds_pop]
      simp only [gs_mu, gs_sz]
      omega
    · rw [gs_ds_step z hs]
      simp only [gs_mu, gs_sz]
      omega
    · rw [gs_ds_push z hs hn]
      have hs16 : s < 16 := gs_E_lt ek ex ey hx hy ((gs_E_sc ek ex ey).mpr ⟨k, z, hs⟩)
      have hf : sn s = false := by cases q : sn s; rfl; exact absurd q hn
      have hc := gs_cn_ins (P := sn) (Q := fun i => sn i || decide (i = s)) 16 hs16 hf (fun _ _ => rfl)
      have hl := gs_cn_le (fun i => sn i || decide (i = s)) 16
      simp only [gs_mu, gs_sz]
      omega
variable (ek ex ey)
/-- how it stands when all is gone through -/
noncomputable def gs_F : List (Nat × Nat) × (Nat → Bool) × List Nat := gs_seal (gs_it (gs_ds ek ex ey) 48 gs_d0)
noncomputable def gs_sn (n : Nat) : Bool := (gs_F ek ex ey).2.1 n
noncomputable def gs_lv : List Nat := (gs_F ek ex ey).2.2
noncomputable def gs_nu (n : Nat) : Nat := gs_ix (gs_lv ek ex ey) n
variable {ek ex ey}
theorem gs_itinv (hx : ∀ n, ex n < 16) (hy : ∀ n, ey n < 16) (i : Nat) : gs_Inv ek ex ey (gs_it (gs_ds ek ex ey) i gs_d0).1 (gs_it (gs_ds ek ex ey) i gs_d0).2.1 (gs_it (gs_ds ek ex ey) i gs_d0).2.2 :=
  gs_it_inv (f := gs_ds ek ex ey) (fun S => gs_Inv ek ex ey S.1 S.2.1 S.2.2) (fun S h => gs_ds_inv hx hy S h) i gs_d0 gs_Inv_0
theorem gs_itmu (hx : ∀ n, ex n < 16) (hy : ∀ n, ey n < 16) : ∀ i, (gs_it (gs_ds ek ex ey) i gs_d0).1 = [] ∨ gs_mu (gs_it (gs_ds ek ex ey) i gs_d0) + i ≤ 48
  | 0 => Or.inr (by show gs_mu gs_d0 + 0 ≤ 48; decide)
  | i + 1 => by
    rw [gs_it_s]
    have hI := gs_itinv (ek := ek) hx hy i
    rcases gs_itmu hx hy i with h | h
    · left
      generalize gs_it (gs_ds ek ex ey) i gs_d0 = S at h
      obtain ⟨stk, sn, lv⟩ := S
      cases h
      rfl
    · by_cases z : (gs_it (gs_ds ek ex ey) i gs_d0).1 = []
      · left
        generalize gs_it (gs_ds ek ex ey) i gs_d0 = S at z
        obtain ⟨stk, sn, lv⟩ := S
        cases z
        rfl
      · right
        have := gs_ds_mu hx hy _ hI z
        omega
theorem gs_F_nil (hx : ∀ n, ex n < 16) (hy : ∀ n, ey n < 16) : (gs_F ek ex ey).1 = [] := by
  unfold gs_F
  rw [gs_seal_eq]
  rcases gs_itmu (ek := ek) hx hy 48 with h | h
  · exact h
  · have hI := (gs_itinv (ek := ek) hx hy 48).1
    generalize gs_it (gs_ds ek ex ey) 48 gs_d0 = S at h hI ⊢
    obtain ⟨stk, sn, lv⟩ := S
    cases stk with
    | nil => rfl
    | cons e t =>
      have := (hI e List.mem_cons_self).2.1
      simp only [gs_mu, gs_sz] at h
      omega
theorem gs_F_eq : gs_F ek ex ey = gs_it (gs_ds ek ex ey) 48 gs_d0 := gs_seal_eq _
theorem gs_ds_nil {S : List (Nat × Nat) × (Nat → Bool) × List Nat} (h : S.1 = []) : gs_ds ek ex ey S = S := by
  obtain ⟨stk, sn, lv⟩ := S
  cases h
  rfl
theorem gs_end (hx : ∀ n, ex n < 16) (hy : ∀ n, ey n < 16) {i : Nat} (h : (gs_it (gs_ds ek ex ey) i gs_d0).1 = []) : gs_it (gs_ds ek ex ey) i gs_d0 = gs_F ek ex ey := by
  rcases Nat.le_total i 48 with z | z
  · have e : gs_F ek ex ey = gs_it (gs_ds ek ex ey) ((48 - i) + i) gs_d0 := by rw [show 48 - i + i = 48 by omega]; exact gs_F_eq
    rw [e, gs_it_add, gs_it_fix (gs_ds_nil h)]
  · have e : gs_it (gs_ds ek ex ey) i gs_d0 = gs_it (gs_ds ek ex ey) ((i - 48) + 48) gs_d0 := by rw [show i - 48 + 48 = i by omega]
    rw [e, gs_it_add, ← gs_F_eq]
    exact gs_it_fix (gs_ds_nil (gs_F_nil hx hy)) _
theorem gs_FI (hx : ∀ n, ex n < 16) (hy : ∀ n, ey n < 16) : gs_Inv ek ex ey [] (gs_sn ek ex ey) (gs_lv ek ex ey) := by
  have h := gs_itinv (ek := ek) hx hy 48
  have e : (gs_F ek ex ey).1 = [] := gs_F_nil hx hy
  rw [← gs_F_eq, e] at h
  exact h
theorem gs_sn_lv (hx : ∀ n, ex n < 16) (hy : ∀ n, ey n < 16) {n : Nat} : gs_sn ek ex ey n = true ↔ n ∈ gs_lv ek ex ey := by
  have h := gs_FI (ek := ek) hx hy
  constructor
  · intro z
    rcases h.2.2.2.2.2.1 n z with q | q
    · cases q
    · exact q
  · exact fun z => (h.2.1 n z).2
theorem gs_sn_lt (hx : ∀ n, ex n < 16) (hy : ∀ n, ey n < 16) {n : Nat} (h : gs_sn ek ex ey n = true) : n < 16 :=
  ((gs_FI (ek := ek) hx hy).2.1 n ((gs_sn_lv hx hy).mp h)).1
theorem gs_sn_E (hx : ∀ n, ex n < 16) (hy : ∀ n, ey n < 16) {n s : Nat} (h : gs_sn ek ex ey n = true) (e : gs_E ek ex ey n s) : gs_sn ek ex ey s = true := by
  obtain ⟨k, hk, hs⟩ := (gs_E_sc ek ex ey).mp e
  exact (gs_FI (ek := ek) hx hy).2.2.2.2.2.2.2.1 n ((gs_sn_lv hx hy).mp h) k hk s hs
theorem gs_sn_0 (hx : ∀ n, ex n < 16) (hy : ∀ n, ey n < 16) : gs_sn ek ex ey 0 = true := (gs_FI (ek := ek) hx hy).2.2.2.2.2.2.2.2.2.1
theorem gs_sn_cl (hx : ∀ n, ex n < 16) (hy : ∀ n, ey n < 16) {n : Nat} : gs_sn ek ex ey n = true ↔ gs_cl (fun x => x = 0) (gs_E ek ex ey) n := by
  constructor
  · exact (gs_FI (ek := ek) hx hy).2.2.2.2.2.2.2.2.1 n
  · intro h
    exact gs_cl_i h (fun n => gs_sn ek ex ey n = true) (fun j e => e ▸ gs_sn_0 hx hy) (fun j k _ hj e => gs_sn_E hx hy hj e)
theorem gs_lv_nd (hx : ∀ n, ex n < 16) (hy : ∀ n, ey n < 16) : gs_nd (gs_lv ek ex ey) := (gs_FI (ek := ek) hx hy).2.2.2.1
theorem gs_lv_0 (hx : ∀ n, ex n < 16) (hy : ∀ n, ey n < 16) : ∃ t, gs_lv ek ex ey = 0 :: t := by
  rcases (gs_FI (ek := ek) hx hy).2.2.2.2.2.2.2.2.2.2 with h | ⟨t, k, h⟩
  · exact h.2
  · cases t <;> cases h
theorem gs_nu_0 (hx : ∀ n, ex n < 16) (hy : ∀ n, ey n < 16) : gs_nu ek ex ey 0 = 0 := by
  obtain ⟨t, h⟩ := gs_lv_0 (ek := ek) hx hy
  unfold gs_nu
  rw [h]
  rfl
theorem gs_nd_len : ∀ (l : List Nat) (P : Nat → Bool), gs_nd l → (∀ n, n ∈ l → n < 16 ∧ P n = true) → l.length ≤ gs_cn P 16
  | [], _, _, _ => Nat.zero_le _
  | x :: t, P, hn, h => by
    have hx := h x List.mem_cons_self
    have ih := gs_nd_len t (fun i => P i && !decide (i = x)) hn.2 (fun n hm => ⟨(h n (List.mem_cons_of_mem _ hm)).1, by
      rw [(h n (List.mem_cons_of_mem _ hm)).2, decide_eq_false (show ¬ n = x from fun z => hn.1 (z ▸ hm))]; rfl⟩)
    have hc := gs_cn_ins (P := fun i => P i && !decide (i = x)) (Q := P) 16 hx.1 (by simp) (fun i _ => by
      by_cases z : i = x
      · subst z; simp [hx.2]
      · simp [z])
    simp only [List.length_cons]
    omega
theorem gs_lv_len (hx : ∀ n, ex n < 16) (hy : ∀ n, ey n < 16) : (gs_lv ek ex ey).length ≤ 16 := by
  have h := gs_nd_len (gs_lv ek ex ey) (gs_sn ek ex ey) (gs_lv_nd hx hy) (gs_FI (ek := ek) hx hy).2.1
  exact Nat.le_trans h (gs_cn_le _ 16)
theorem gs_nu_lt (hx : ∀ n, ex n < 16) (hy : ∀ n, ey n < 16) {n : Nat} (h : gs_sn ek ex ey n = true) : gs_nu ek ex ey n < (gs_lv ek ex ey).length :=
  gs_ix_lt _ n ((gs_sn_lv hx hy).mp h)
theorem gs_nu_inj (hx : ∀ n, ex n < 16) (hy : ∀ n, ey n < 16) {m n : Nat} (hm : gs_sn ek ex ey m = true) (hn : gs_sn ek ex ey n = true) (h : gs_nu ek ex ey m = gs_nu ek ex ey n) : m = n :=
  gs_ix_inj _ m n ((gs_sn_lv hx hy).mp hm) ((gs_sn_lv hx hy).mp hn) h
end
end
section
/-! what is before, behind, in a loop: as closures; X goes backward where Y goes forward -/
noncomputable def gs_B (P : Prop) : Bool := @decide P (Classical.propDecidable P)
theorem gs_B_t {P : Prop} : gs_B P = true ↔ P := @decide_eq_true_iff P (Classical.propDecidable P)
theorem gs_B_f {P : Prop} : gs_B P = false ↔ ¬ P := by
  rw [← Bool.not_eq_true]
  exact not_congr gs_B_t
theorem gs_B_congr {P Q : Prop} (h : P ↔ Q) : gs_B P = gs_B Q := Bool.eq_iff_iff.mpr (gs_B_t.trans (h.trans gs_B_t.symm))
/-- the first node with a property, or -1 -/
def gs_Fst (r : Int32) (P : Nat → Prop) : Prop := (∃ d, d < 16 ∧ r = nI d ∧ P d ∧ ∀ e, e < d → ¬ P e) ∨ (r = -1 ∧ ∀ d, d < 16 → ¬ P d)
theorem gs_Fst_uniq {r s : Int32} {P Q : Nat → Prop} (h : gs_Fst r P) (h' : gs_Fst s Q) (e : ∀ i, i < 16 → (P i ↔ Q i)) : r = s := by
  rcases h with ⟨d, hd, rfl, hp, hl⟩ | ⟨rfl, hl⟩
  · rcases h' with ⟨d', hd', rfl, hp', hl'⟩ | ⟨rfl, hl'⟩
    · rcases Nat.lt_trichotomy d d' with z | z | z
      · exact absurd ((e d hd).mp hp) (hl' d z)
      · rw [z]
      · exact absurd ((e d' hd').mpr hp') (hl d' z)
    · exact absurd ((e d hd).mp hp) (hl' d hd)
  · rcases h' with ⟨d', hd', rfl, hp', hl'⟩ | ⟨rfl, hl'⟩
    · exact absurd ((e d' hd').mpr hp') (hl d' hd')
    · rfl
theorem gs_Fst_iff {r : Int32} {P Q : Nat → Prop} (h : gs_Fst r P) (e : ∀ i, i < 16 → (P i ↔ Q i)) : gs_Fst r Q := by
  rcases h with ⟨d, hd, hr, hp, hl⟩ | ⟨hr, hl⟩
  · exact Or.inl ⟨d, hd, hr, (e d hd).mp hp, fun x hx q => hl x hx ((e x (by omega)).mpr q)⟩
  · exact Or.inr ⟨hr, fun d hd q => hl d hd ((e d hd).mpr q)⟩
section
variable (ek ex ey : Nat → Nat)
/-- a way from a to m without nodes of W -/
def gs_W (W : Nat → Prop) (a m : Nat) : Prop := gs_cl (fun x => x = a ∧ ¬ W a) (fun j k => gs_E ek ex ey j k ∧ ¬ W k) m
/-- d is before n -/
def gs_bf (d n : Nat) : Prop := gs_sn ek ex ey n = true ∧ ¬ gs_W ek ex ey (fun x => x = d) 0 n
/-- a way from n to a STOP without W -/
def gs_Sp (W : Nat → Prop) (n : Nat) : Prop := ∃ m, gs_W ek ex ey W n m ∧ ek m = 0
/-- d is behind n -/
def gs_bh (d n : Nat) : Prop := gs_sn ek ex ey n = true ∧ gs_Sp ek ex ey (fun _ => False) n ∧ ¬ gs_Sp ek ex ey (fun x => x = d) n
/-- n is in the loop of h -/
def gs_ret (h p : Nat) : Prop := gs_sn ek ex ey p = true ∧ gs_E ek ex ey p h ∧ gs_bf ek ex ey h p
def gs_lp (h n : Nat) : Prop := ∃ p, gs_ret ek ex ey h p ∧ (n = h ∨ (gs_sn ek ex ey n = true ∧ gs_W ek ex ey (fun x => x = h) n p))
def gs_edge (m n : Nat) : Prop := (n = m ∨ ¬ gs_bf ek ex ey m n) ∧ ∃ p, p < 16 ∧ gs_sn ek ex ey p = true ∧ gs_E ek ex ey p n ∧ gs_bf ek ex ey m p
def gs_rul (n m : Nat) : Prop := (m = n ∨ ¬ gs_bh ek ex ey n m) ∧ ∃ s, s < 16 ∧ gs_sn ek ex ey m = true ∧ gs_E ek ex ey m s ∧ gs_bh ek ex ey n s
def gs_strt : Prop := ∀ n, n < 16 → ∀ s, s < 16 → gs_sn ek ex ey n = true → gs_E ek ex ey n s → gs_nu ek ex ey s ≤ gs_nu ek ex ey n → gs_bf ek ex ey s n
noncomputable def gs_mtc (s : Nat) : Nat → Bool := fun p => gs_B (gs_sn ek ex ey p = true ∧ gs_E ek ex ey p s ∧ gs_nu ek ex ey p < gs_nu ek ex ey s)
def gs_mt (s : Nat) : Prop := 1 < gs_cn (gs_mtc ek ex ey s) 16
/-- the nearest, by a relation C d n 'd is a cut of n' -/
def gs_near (C : Nat → Nat → Prop) (n d : Nat) : Prop := d ≠ n ∧ C d n ∧ ∀ e, e < 16 → e ≠ n → C e n → C e d
variable {ek ex ey}
theorem gs_W_nW {W : Nat → Prop} {a m : Nat} (h : gs_W ek ex ey W a m) : ¬ W m :=
  gs_cl_i h (fun m => ¬ W m) (fun j e => e.1 ▸ e.2) (fun _ _ _ _ e => e.2)
theorem gs_W_a {W : Nat → Prop} {a m : Nat} (h : gs_W ek ex ey W a m) : ¬ W a :=
  gs_cl_i h (fun _ => ¬ W a) (fun _ e => e.2) (fun _ _ _ s _ => s)
theorem gs_W_r {W : Nat → Prop} {a : Nat} (h : ¬ W a) : gs_W ek ex ey W a a := gs_cl_b ⟨rfl, h⟩
theorem gs_W_tr {W : Nat → Prop} {a b c : Nat} (h : gs_W ek ex ey W a b) (h' : gs_W ek ex ey W b c) : gs_W ek ex ey W a c :=
  gs_cl_i h' (fun c => gs_W ek ex ey W a c) (fun _ e => e.1 ▸ h) (fun _ _ _ s e => gs_cl_s s e)
theorem gs_W_h {W : Nat → Prop} {a b c : Nat} (ha : ¬ W a) (e : gs_E ek ex ey a b) (h : gs_W ek ex ey W b c) : gs_W ek ex ey W a c :=
  gs_W_tr (gs_cl_s (gs_W_r ha) ⟨e, gs_W_a h⟩) h
theorem gs_W_sub {W W' : Nat → Prop} {a m : Nat} (h : gs_W ek ex ey W a m) (hw : ∀ x, W' x → W x) : gs_W ek ex ey W' a m :=
  gs_cl_i h (fun m => gs_W ek ex ey W' a m) (fun _ e => by rw [e.1]; exact gs_W_r (fun z => e.2 (hw _ z))) (fun _ _ _ s e => gs_cl_s s ⟨e.1, fun z => e.2 (hw _ z)⟩)
theorem gs_W_congr {W W' : Nat → Prop} (hx : ∀ n, ex n < 16) (hy : ∀ n, ey n < 16) {a m : Nat} (ha : a < 16) (hw : ∀ x, x < 16 → (W x ↔ W' x)) (h : gs_W ek ex ey W a m) : gs_W ek ex ey W' a m :=
  gs_cl_i h (fun m => gs_W ek ex ey W' a m) (fun _ e => by rw [e.1]; exact gs_W_r (fun z => e.2 ((hw _ ha).mpr z))) (fun _ _ _ s e => gs_cl_s s ⟨e.1, fun z => e.2 ((hw _ (gs_E_lt ek ex ey hx hy e.1)).mpr z)⟩)
theorem gs_W_sn (hx : ∀ n, ex n < 16) (hy : ∀ n, ey n < 16) {W : Nat → Prop} {a m : Nat} (h : gs_W ek ex ey W a m) (ha : gs_sn ek ex ey a = true) : gs_sn ek ex ey m = true :=
  gs_cl_i h (fun m => gs_sn ek ex ey m = true) (fun _ e => e.1 ▸ ha) (fun _ _ _ s e => gs_sn_E hx hy s e.1)
theorem gs_sn_W (hx : ∀ n, ex n < 16) (hy : ∀ n, ey n < 16) {n : Nat} : gs_sn ek ex ey n = true ↔ gs_W ek ex ey (fun _ => False) 0 n := by
  rw [gs_sn_cl hx hy]
  constructor
  · exact fun h => gs_cl_mono h (fun j e => gs_cl_b ⟨e, id⟩) (fun j k _ s e => gs_cl_s s ⟨e, id⟩)
  · exact fun h => gs_cl_mono h (fun j e => gs_cl_b e.1) (fun j k _ s e => gs_cl_s s e.1)
/-- forward from node 0 along the links of seen nodes -/
theorem gs_fwd (hx : ∀ n, ex n < 16) (hy : ∀ n, ey n < 16) {W : Nat → Prop} {n : Nat} :
    gs_cl (fun i => i < 16 ∧ i = 0 ∧ ¬ W i) (fun j k => j < 16 ∧ k < 16 ∧ (gs_sn ek ex ey j = true ∧ gs_E ek ex ey j k) ∧ ¬ W k) n ↔ gs_W ek ex ey W 0 n := by
  constructor
  · exact fun h => gs_cl_mono h (fun j e => gs_cl_b ⟨e.2.1, e.2.1 ▸ e.2.2⟩) (fun j k _ s e => gs_cl_s s ⟨e.2.2.1.2, e.2.2.2⟩)
  · intro h
    apply gs_cl_mono h
    · rintro j ⟨rfl, e⟩
      exact gs_cl_b ⟨by omega, rfl, e⟩
    · intro j k hj s e
      have hs := gs_W_sn hx hy hj (gs_sn_0 hx hy)
      exact gs_cl_s s ⟨gs_sn_lt hx hy hs, gs_E_lt ek ex ey hx hy e.1, ⟨hs, e.1⟩, e.2⟩
/-- backward along the links of seen nodes -/
theorem gs_back (hx : ∀ n, ex n < 16) (hy : ∀ n, ey n < 16) {W F : Nat → Prop} (hF : ∀ i, F i → gs_sn ek ex ey i = true) {n : Nat} :
    gs_cl (fun i => i < 16 ∧ F i ∧ ¬ W i) (fun j k => j < 16 ∧ k < 16 ∧ (gs_sn ek ex ey k = true ∧ gs_E ek ex ey k j) ∧ ¬ W k) n ↔ gs_sn ek ex ey n = true ∧ ∃ m, F m ∧ gs_W ek ex ey W n m := by
  constructor
  · intro h
    refine gs_cl_i h (fun n => gs_sn ek ex ey n = true ∧ ∃ m, F m ∧ gs_W ek ex ey W n m) ?_ ?_
    · rintro j ⟨_, h1, h2⟩
      exact ⟨hF j h1, j, h1, gs_W_r h2⟩
    · rintro j k _ ⟨_, m, h1, h2⟩ ⟨_, _, h3, h4⟩
      exact ⟨h3.1, m, h1, gs_W_h h4 h3.2 h2⟩
  · rintro ⟨hn, m, h1, h2⟩
    have key := gs_cl_i h2 (fun m => (gs_sn ek ex ey m = true ∧ ¬ W m) ∧ (gs_cl (fun i => i < 16 ∧ F i ∧ ¬ W i) (fun j k => j < 16 ∧ k < 16 ∧ (gs_sn ek ex ey k = true ∧ gs_E ek ex ey k j) ∧ ¬ W k) m → gs_cl (fun i => i < 16 ∧ F i ∧ ¬ W i) (fun j k => j < 16 ∧ k < 16 ∧ (gs_sn ek ex ey k = true ∧ gs_E ek ex ey k j) ∧ ¬ W k) n)) ?_ ?_
    · exact key.2 (gs_cl_b ⟨gs_sn_lt hx hy key.1.1, h1, key.1.2⟩)
    · rintro j ⟨rfl, e⟩
      exact ⟨⟨hn, e⟩, id⟩
    · rintro j k _ ⟨⟨s1, s2⟩, s3⟩ ⟨e1, e2⟩
      exact ⟨⟨gs_sn_E hx hy s1 e1, e2⟩, fun c => s3 (gs_cl_s c ⟨gs_E_lt ek ex ey hx hy e1, gs_sn_lt hx hy s1, ⟨s1, e1⟩, s2⟩)⟩
theorem gs_bf_sn (hx : ∀ n, ex n < 16) (hy : ∀ n, ey n < 16) {d n : Nat} (h : gs_bf ek ex ey d n) : gs_sn ek ex ey d = true := by
  apply Classical.byContradiction
  intro hd
  apply h.2
  refine gs_cl_mono ((gs_sn_W hx hy).mp h.1) ?_ ?_
  · rintro j ⟨rfl, _⟩
    exact gs_cl_b ⟨rfl, fun z => hd (z ▸ gs_sn_0 hx hy)⟩
  · rintro j k hj s ⟨e, _⟩
    exact gs_cl_s s ⟨e, fun z => hd (z ▸ gs_sn_E hx hy ((gs_sn_W hx hy).mpr hj) e)⟩
theorem gs_bf_refl {d : Nat} (h : gs_sn ek ex ey d = true) : gs_bf ek ex ey d d := ⟨h, fun z => gs_W_nW z rfl⟩
theorem gs_bf_0 {d : Nat} (h : gs_bf ek ex ey d 0) : d = 0 := by
  apply Classical.byContradiction
  intro z
  exact h.2 (gs_W_r (fun q => z q.symm))
theorem gs_bh_sn (hx : ∀ n, ex n < 16) (hy : ∀ n, ey n < 16) {d n : Nat} (h : gs_bh ek ex ey d n) : gs_sn ek ex ey d = true := by
  apply Classical.byContradiction
  intro hd
  obtain ⟨h1, ⟨m, h2, h3⟩, h4⟩ := h
  apply h4
  refine ⟨m, ?_, h3⟩
  refine gs_cl_mono h2 ?_ ?_
  · rintro j ⟨rfl, _⟩
    exact gs_cl_b ⟨rfl, fun z => hd (z ▸ h1)⟩
  · rintro j k hj s ⟨e, _⟩
    exact gs_cl_s s ⟨e, fun z => hd (z ▸ gs_sn_E hx hy (gs_W_sn (W := fun _ => False) hx hy hj h1) e)⟩
/-- who is behind something has ways to a STOP -/
theorem gs_bh_sp (hx : ∀ n, ex n < 16) (hy : ∀ n, ey n < 16) {d n : Nat} (h : gs_bh ek ex ey d n) : gs_bh ek ex ey d d := by
  have hd := gs_bh_sn hx hy h
  obtain ⟨h1, ⟨m, h2, h3⟩, h4⟩ := h
  refine ⟨hd, ?_, fun ⟨q, hq, _⟩ => gs_W_a hq rfl⟩
  have key := gs_cl_i h2 (fun m => gs_W ek ex ey (fun x => x = d) n m ∨ gs_W ek ex ey (fun _ => False) d m) ?_ ?_
  · rcases key with k | k
    · exact absurd ⟨m, k, h3⟩ h4
    · exact ⟨m, k, h3⟩
  · rintro j ⟨rfl, _⟩
    by_cases z : j = d
    · exact Or.inr (z ▸ gs_W_r id)
    · exact Or.inl (gs_W_r z)
  · rintro j k _ (s | s) ⟨e, _⟩
    · by_cases z : k = d
      · exact Or.inr (z ▸ gs_W_r id)
      · exact Or.inl (gs_cl_s s ⟨e, z⟩)
    · exact Or.inr (gs_cl_s s ⟨e, id⟩)
theorem gs_lp_0 {h : Nat} : (∀ p, p < 16 → ¬ gs_ret ek ex ey h p) → (hx : ∀ n, ex n < 16) → (hy : ∀ n, ey n < 16) → ∀ n, ¬ gs_lp ek ex ey h n := by
  rintro h1 hx hy n ⟨p, hp, _⟩
  exact h1 p (gs_sn_lt hx hy hp.1) hp
theorem gs_lp_h {h p : Nat} (hp : gs_ret ek ex ey h p) : gs_lp ek ex ey h h := ⟨p, hp, Or.inl rfl⟩
end
end
section
/-! live variables: X's rounds against ways -/
theorem gs_fx2 {α : Type} (f : α → α) (St : α → Prop) (c : α → Nat) (M : Nat) (hI : ∀ x, St x → St (f x)) (hM : ∀ x, c x ≤ M) (hs : ∀ x, ¬ St x → c x < c (f x)) : ∀ k x, M ≤ c x + k → St (gs_it f k x) := by
  intro k
  induction k with
  | zero =>
    intro x hk
    apply Classical.byContradiction
    intro hn
    have h1 := hs x hn
    have h2 := hM (f x)
    omega
  | succ k ih =>
    intro x hk
    by_cases e : St x
    · exact gs_it_inv St hI (k + 1) x e
    · have h1 := hs x e
      exact ih (f x) (by omega)
section
variable (su rp : Nat → Int32)
def gs_lb (l : Nat → Int32) (n : Nat) : Nat → Int32
  | 0 => 0
  | s + 1 => if bt (su n) s = true then gs_lb l n s ||| l s else gs_lb l n s
def gs_ls1 (l : Nat → Int32) : Nat → Nat → Int32
  | 0 => l
  | n + 1 => upd (gs_ls1 l n) n (gs_ls1 l n n ||| (gs_lb su (gs_ls1 l n) n 16 &&& (rp n ^^^ (-1))))
def gs_ls (l : Nat → Int32) : Nat → Int32 := gs_ls1 su rp l 16
def gs_lc (v : Nat) (l : Nat → Int32) : Prop := ∀ n, n < 16 → ∀ s, s < 16 → bt (su n) s = true → ¬ bt (rp n) v = true → bt (l s) v = true → bt (l n) v = true
variable {su rp}
theorem gs_lb_bit {l : Nat → Int32} {n v : Nat} : ∀ m, bt (gs_lb su l n m) v = true ↔ ∃ s, s < m ∧ bt (su n) s = true ∧ bt (l s) v = true
  | 0 => by
    unfold gs_lb
    rw [b_0]
    exact ⟨(fun z => nomatch z), fun ⟨s, h, _⟩ => absurd h (Nat.not_lt_zero s)⟩
  | m + 1 => by
    unfold gs_lb
    have ih := gs_lb_bit (l := l) (n := n) (v := v) m
    by_cases z : bt (su n) m = true
    · rw [if_pos z, b_or, Bool.or_eq_true, ih]
      constructor
      · rintro (⟨s, h1, h2⟩ | h)
        · exact ⟨s, by omega, h2⟩
        · exact ⟨m, by omega, z, h⟩
      · rintro ⟨s, h1, h2, h3⟩
        by_cases e : s = m
        · exact Or.inr (e ▸ h3)
        · exact Or.inl ⟨s, by omega, h2, h3⟩
    · rw [if_neg z, ih]
      constructor
      · rintro ⟨s, h1, h2⟩
        exact ⟨s, by omega, h2⟩
      · rintro ⟨s, h1, h2, h3⟩
        by_cases e : s = m
        · exact absurd (e ▸ h2) z
        · exact ⟨s, by omega, h2, h3⟩
theorem gs_lstep {l : Nat → Int32} {v : Nat} (hv : v < 32) (m i : Nat) : bt (gs_ls1 su rp l (m + 1) i) v = true ↔ bt (gs_ls1 su rp l m i) v = true ∨ (i = m ∧ ¬ bt (rp m) v = true ∧ ∃ s, s < 16 ∧ bt (su m) s = true ∧ bt (gs_ls1 su rp l m s) v = true) := by
  show bt (upd (gs_ls1 su rp l m) m (gs_ls1 su rp l m m ||| (gs_lb su (gs_ls1 su rp l m) m 16 &&& (rp m ^^^ (-1)))) i) v = true ↔ _
  by_cases e : i = m
  · subst e
    rw [pk_us, b_or, b_and, gs_not _ _ hv, Bool.or_eq_true, Bool.and_eq_true, gs_lb_bit 16, Bool.not_eq_true', ← Bool.not_eq_true]
    constructor
    · rintro (h | ⟨h1, h2⟩)
      · exact Or.inl h
      · exact Or.inr ⟨rfl, h2, h1⟩
    · rintro (h | ⟨_, h2, h1⟩)
      · exact Or.inl h
      · exact Or.inr ⟨h1, h2⟩
  · rw [pk_un e]
    constructor
    · exact Or.inl
    · rintro (h | h)
      · exact h
      · exact absurd h.1 e
theorem gs_lmono {l : Nat → Int32} {v i : Nat} (hv : v < 32) {m : Nat} : ∀ k, m ≤ k → bt (gs_ls1 su rp l m i) v = true → bt (gs_ls1 su rp l k i) v = true := by
  intro k
  induction k with
  | zero => intro h; cases Nat.le_zero.mp h; exact id
  | succ k ih =>
    intro h hb
    by_cases e : m = k + 1
    · exact e ▸ hb
    · exact (gs_lstep hv k i).mpr (Or.inl (ih (by omega) hb))
theorem gs_lkeep {l : Nat → Int32} {v : Nat} (hv : v < 32) (hc : gs_lc su rp v l) : ∀ m, m ≤ 16 → ∀ i, (bt (gs_ls1 su rp l m i) v = true ↔ bt (l i) v = true) := by
  intro m
  induction m with
  | zero => intro _ i; exact Iff.rfl
  | succ m ih =>
    intro hm i
    rw [gs_lstep hv, ih (by omega) i]
    constructor
    · rintro (h | ⟨rfl, h2, s, h3, h4, h5⟩)
      · exact h
      · exact hc i (by omega) s h3 h4 h2 ((ih (by omega) s).mp h5)
    · exact Or.inl
theorem gs_lsnd {l : Nat → Int32} {v : Nat} (hv : v < 32) (S : Nat → Prop) (h0 : ∀ i, i < 16 → bt (l i) v = true → S i) (h1 : ∀ n s, n < 16 → s < 16 → bt (su n) s = true → ¬ bt (rp n) v = true → S s → S n) : ∀ m, m ≤ 16 → ∀ i, i < 16 → bt (gs_ls1 su rp l m i) v = true → S i := by
  intro m
  induction m with
  | zero => intro _ i hi h; exact h0 i hi h
  | succ m ih =>
    intro hm i hi h
    rcases (gs_lstep hv m i).mp h with h | ⟨rfl, h2, s, h3, h4, h5⟩
    · exact ih (by omega) i hi h
    · exact h1 i s hi h3 h4 h2 (ih (by omega) s h3 h5)
theorem gs_lgrow {l : Nat → Int32} {v : Nat} (hv : v < 32) (hn : ¬ gs_lc su rp v l) : gs_cn (fun n => bt (l n) v) 16 < gs_cn (fun n => bt (gs_ls su rp l n) v) 16 := by
  apply gs_cn_lt 16 (fun i _ h => gs_lmono (m := 0) hv 16 (by omega) h)
  apply Classical.byContradiction
  intro hx
  apply hn
  intro n hn1 s hs h1 h2 h3
  apply Classical.byContradiction
  intro h4
  apply hx
  refine ⟨n, hn1, ?_, h4⟩
  exact gs_lmono hv 16 (by omega : n + 1 ≤ 16) ((gs_lstep hv n n).mpr (Or.inr ⟨rfl, h2, s, hs, h1, gs_lmono (m := 0) hv n (by omega) h3⟩))
/-- after 15 rounds -/
theorem gs_live_ok {l : Nat → Int32} {v : Nat} (hv : v < 32) {n : Nat} (hn : n < 16) : bt (gs_it (gs_ls su rp) 15 l n) v = true ↔ ∃ m, m < 16 ∧ gs_cl (fun x => x = n) (fun j k => j < 16 ∧ k < 16 ∧ bt (su j) k = true ∧ ¬ bt (rp j) v = true) m ∧ bt (l m) v = true := by
  have hcl : gs_lc su rp v (gs_it (gs_ls su rp) 15 l) := by
    by_cases z : ∃ i, i < 16 ∧ bt (l i) v = true
    · obtain ⟨i, hi, hb⟩ := z
      have := gs_cn_pos (P := fun n => bt (l n) v) 16 hi hb
      refine gs_fx2 (gs_ls su rp) (gs_lc su rp v) (fun l => gs_cn (fun n => bt (l n) v) 16) 16 ?_ (fun _ => gs_cn_le _ 16) (fun x h => gs_lgrow hv h) 15 l (by omega)
      intro x hc a ha s hs h1 h2 h3
      have hk := gs_lkeep hv hc 16 (by omega)
      exact (hk a).mpr (hc a ha s hs h1 h2 ((hk s).mp h3))
    · have key := gs_it_inv (f := gs_ls su rp) (fun l => ∀ i, i < 16 → ¬ bt (l i) v = true) (fun x hx i hi h => gs_lsnd hv (fun _ => False) (fun i hi h => hx i hi h) (fun _ _ _ _ _ _ h => h) 16 (by omega) i hi h) 15 l (fun i hi h => z ⟨i, hi, h⟩)
      intro a _ s hs _ _ h3
      exact absurd h3 (key s hs)
  have hup : ∀ i, bt (l i) v = true → bt (gs_it (gs_ls su rp) 15 l i) v = true := fun i h => gs_it_inv (f := gs_ls su rp) (fun x => bt (x i) v = true) (fun x h => gs_lmono (m := 0) hv 16 (by omega) h) 15 l h
  constructor
  · have key := gs_it_inv (f := gs_ls su rp) (fun x => ∀ i, i < 16 → bt (x i) v = true → ∃ m, m < 16 ∧ gs_cl (fun x => x = i) (fun j k => j < 16 ∧ k < 16 ∧ bt (su j) k = true ∧ ¬ bt (rp j) v = true) m ∧ bt (l m) v = true) ?_ 15 l (fun i hi h => ⟨i, hi, gs_cl_b rfl, h⟩)
    · exact key n hn
    · intro x hx i hi h
      refine gs_lsnd hv (fun i => ∃ m, m < 16 ∧ gs_cl (fun x => x = i) (fun j k => j < 16 ∧ k < 16 ∧ bt (su j) k = true ∧ ¬ bt (rp j) v = true) m ∧ bt (l m) v = true) hx ?_ 16 (by omega) i hi h
      rintro a s ha hs h1 h2 ⟨m, hm, h3, h4⟩
      exact ⟨m, hm, gs_cl_tr h3 (gs_cl_s (gs_cl_b rfl) ⟨ha, hs, h1, h2⟩), h4⟩
  · rintro ⟨m, _, h1, h2⟩
    refine gs_cl_i h1 (fun m => bt (gs_it (gs_ls su rp) 15 l m) v = true → bt (gs_it (gs_ls su rp) 15 l n) v = true) ?_ ?_ (hup m h2)
    · rintro j rfl
      exact id
    · rintro j k _ s ⟨e1, e2, e3, e4⟩ h
      exact s (hcl j e1 k e2 e3 e4 h)
end
end
section
/-! the code: a machine of words and tasks; each node is written once; it ends, within bounds -/
section
variable (ek ex ey ev : Nat → Nat)
def gs_ch (m n : Nat) : Prop := gs_near (gs_bf ek ex ey) m n ∧ ∀ e, e < n → ¬ gs_near (gs_bf ek ex ey) m e
noncomputable def gs_way (n s : Nat) : Nat := if gs_nu ek ex ey s ≤ gs_nu ek ex ey n then 96 + s else if gs_B (gs_mt ek ex ey s) = true then 112 + s else 256 + s
noncomputable def gs_gon (n : Nat) : List Nat := if ek n = 0 then [128] else if ek n = 1 ∨ ex n = ey n then [gs_way ek ex ey n (ex n)] else [48 + ev n, gs_way ek ex ey n (ex n), 64, gs_way ek ex ey n (ey n), 80]
noncomputable def gs_kid (n m : Nat) : Bool := gs_B (gs_mt ek ex ey m ∧ gs_ch ek ex ey m n)
noncomputable def gs_hd (n : Nat) : Bool := gs_B (∃ p, gs_ret ek ex ey n p)
noncomputable def gs_ob (n : Nat) : Nat → List Nat × List Nat → List Nat × List Nat
  | 0, s => s
  | k + 1, s => gs_ob n k (if gs_kid ek ex ey n (gs_at (gs_lv ek ex ey) k) = true then ((32 + gs_at (gs_lv ek ex ey) k) :: s.1, 80 :: (256 + gs_at (gs_lv ek ex ey) k) :: s.2) else s)
noncomputable def gs_o1 (n : Nat) (s : List Nat × List Nat) : List Nat × List Nat := if gs_hd ek ex ey n = true then ((16 + n) :: s.1, 80 :: s.2) else s
noncomputable def gs_op (n : Nat) (s : List Nat × List Nat) : List Nat × List Nat :=
  (n :: (gs_ob ek ex ey n (gs_lv ek ex ey).length (gs_o1 ek ex ey n s)).1, gs_gon ek ex ey ev n ++ (gs_ob ek ex ey n (gs_lv ek ex ey).length (gs_o1 ek ex ey n s)).2)
noncomputable def gs_cs (s : List Nat × List Nat) : List Nat × List Nat :=
  match s with
  | (wd, []) => (wd, [])
  | (wd, t :: r) => if t < 256 then (t :: wd, r) else gs_op ek ex ey ev (t - 256) (wd, r)
def gs_Pa (p n : Nat) : Prop := (gs_mt ek ex ey n ∧ gs_ch ek ex ey n p) ∨ (¬ gs_mt ek ex ey n ∧ gs_sn ek ex ey p = true ∧ gs_E ek ex ey p n ∧ gs_nu ek ex ey p < gs_nu ek ex ey n)
def gs_pn : List Nat → List Nat
  | [] => []
  | t :: r => if t < 256 then gs_pn r else (t - 256) :: gs_pn r
def gs_p1 : List Nat → Nat
  | [] => 0
  | t :: r => (if t < 256 then 1 else 8) + gs_p1 r
def gs_p2 : List Nat → Nat
  | [] => 0
  | t :: r => (if t < 256 then 1 else 7) + gs_p2 r
def gs_un (Wr : Nat → Bool) (tk : List Nat) : Nat := gs_cn (fun n => !Wr n && !decide (n ∈ gs_pn tk)) 16
def gs_CI (Wr : Nat → Bool) (tk : List Nat) : Prop :=
  (∀ t, t ∈ tk → t < 256 ∨ (256 ≤ t ∧ gs_sn ek ex ey (t - 256) = true)) ∧ gs_nd (gs_pn tk) ∧ (∀ n, n ∈ gs_pn tk → Wr n = false) ∧
  (∀ n, n ∈ gs_pn tk ∨ Wr n = true → ∀ p, gs_Pa ek ex ey p n → Wr p = true)
variable {ek ex ey ev}
theorem gs_p1_len : ∀ tk, tk.length ≤ gs_p1 tk
  | [] => Nat.le_refl 0
  | t :: r => by
    have := gs_p1_len r
    simp only [gs_p1, List.length_cons]
    split <;> omega
theorem gs_pn_w {t : Nat} {r : List Nat} (h : t < 256) : gs_pn (t :: r) = gs_pn r := if_pos h
theorem gs_pn_c {n : Nat} {r : List Nat} : gs_pn ((256 + n) :: r) = n :: gs_pn r := by
  show (if 256 + n < 256 then _ else _) = _
  rw [if_neg (by omega), Nat.add_sub_cancel_left]
theorem gs_p1_w {t : Nat} {r : List Nat} (h : t < 256) : gs_p1 (t :: r) = 1 + gs_p1 r := by
  show (if t < 256 then 1 else 8) + gs_p1 r = _
  rw [if_pos h]
theorem gs_p1_c {n : Nat} {r : List Nat} : gs_p1 ((256 + n) :: r) = 8 + gs_p1 r := by
  show (if 256 + n < 256 then 1 else 8) + gs_p1 r = _
  rw [if_neg (by omega)]
theorem gs_p2_w {t : Nat} {r : List Nat} (h : t < 256) : gs_p2 (t :: r) = 1 + gs_p2 r := by
  show (if t < 256 then 1 else 7) + gs_p2 r = _
  rw [if_pos h]
theorem gs_p2_c {n : Nat} {r : List Nat} : gs_p2 ((256 + n) :: r) = 7 + gs_p2 r := by
  show (if 256 + n < 256 then 1 else 7) + gs_p2 r = _
  rw [if_neg (by omega)]
theorem gs_un_w {Wr : Nat → Bool} {t : Nat} {r : List Nat} (h : t < 256) : gs_un Wr (t :: r) = gs_un Wr r := by
  unfold gs_un
  rw [gs_pn_w h]
theorem gs_un_c {Wr : Nat → Bool} {c : Nat} {r : List Nat} (hc : c < 16) (h1 : c ∉ gs_pn r) (h2 : Wr c = false) : gs_un Wr r = gs_un Wr ((256 + c) :: r) + 1 := by
  unfold gs_un
  rw [gs_pn_c]
  apply gs_cn_ins (s := c) 16 hc
  · simp
  · intro i _
    by_cases e : i = c
    · subst e
      simp [h1, h2]
    · simp [e]
theorem gs_CI_w {Wr : Nat → Bool} {t : Nat} {r : List Nat} (h : gs_CI ek ex ey Wr r) (ht : t < 256) : gs_CI ek ex ey Wr (t :: r) := by
  obtain ⟨h1, h2, h3, h4⟩ := h
  unfold gs_CI
  rw [gs_pn_w ht]
  refine ⟨fun q hq => ?_, h2, h3, h4⟩
  rcases List.mem_cons.mp hq with rfl | hq
  · exact Or.inl ht
  · exact h1 q hq
theorem gs_CI_w' {Wr : Nat → Bool} {t : Nat} {r : List Nat} (h : gs_CI ek ex ey Wr (t :: r)) (ht : t < 256) : gs_CI ek ex ey Wr r := by
  obtain ⟨h1, h2, h3, h4⟩ := h
  rw [gs_pn_w ht] at h2 h3 h4
  exact ⟨fun q hq => h1 q (List.mem_cons_of_mem _ hq), h2, h3, h4⟩
theorem gs_Pa_uniq (hx : ∀ n, ex n < 16) (hy : ∀ n, ey n < 16) {p q n : Nat} (h : gs_Pa ek ex ey p n) (h' : gs_Pa ek ex ey q n) : p = q := by
  rcases h with ⟨h1, h2⟩ | ⟨h1, h2⟩
  · rcases h' with ⟨_, h3⟩ | ⟨h3, _⟩
    · rcases Nat.lt_trichotomy p q with z | z | z
      · exact absurd h2.1 (h3.2 p z)
      · exact z
      · exact absurd h3.1 (h2.2 q z)
    · exact absurd h1 h3
  · rcases h' with ⟨h3, _⟩ | ⟨_, h3⟩
    · exact absurd h3 h1
    · apply Classical.byContradiction
      intro z
      apply h1
      show 1 < gs_cn (gs_mtc ek ex ey n) 16
      have hp : gs_mtc ek ex ey n p = true := gs_B_t.mpr h2
      have hq : gs_mtc ek ex ey n q = true := gs_B_t.mpr h3
      have p16 := gs_sn_lt hx hy h2.1
      have q16 := gs_sn_lt hx hy h3.1
      have c1 := gs_cn_pos (P := fun i => decide (i = p)) (i := p) 16 p16 (decide_eq_true rfl)
      have c2 := gs_cn_lt (P := fun i => decide (i = p)) (Q := gs_mtc ek ex ey n) 16 (fun i _ hi => by rw [decide_eq_true_iff] at hi; rw [hi]; exact hp) ⟨q, q16, hq, fun w => z (decide_eq_true_iff.mp w).symm⟩
      omega
theorem gs_mt_0 (hx : ∀ n, ex n < 16) (hy : ∀ n, ey n < 16) : ¬ gs_mt ek ex ey 0 := by
  intro h
  have : gs_cn (gs_mtc ek ex ey 0) 16 = 0 := by
    apply gs_cn_0
    intro i _
    apply gs_B_f.mpr
    rintro ⟨_, _, h3⟩
    rw [gs_nu_0 hx hy] at h3
    omega
  unfold gs_mt at h
  omega
theorem gs_Pa_0 (hx : ∀ n, ex n < 16) (hy : ∀ n, ey n < 16) {p : Nat} : ¬ gs_Pa ek ex ey p 0 := by
  rintro (⟨h, _⟩ | ⟨_, _, _, h⟩)
  · exact gs_mt_0 hx hy h
  · rw [gs_nu_0 hx hy] at h
    omega
theorem gs_Pa_self {p : Nat} : ¬ gs_Pa ek ex ey p p := by
  rintro (⟨_, h⟩ | ⟨_, _, _, h⟩)
  · exact h.1.1 rfl
  · omega
theorem gs_CI_c (hx : ∀ n, ex n < 16) (hy : ∀ n, ey n < 16) {Wr : Nat → Bool} {n c : Nat} {r : List Nat} (h : gs_CI ek ex ey Wr r) (hs : gs_sn ek ex ey c = true) (hp : gs_Pa ek ex ey n c) (hn : Wr n = true) (h1 : c ∉ gs_pn r) (h2 : Wr c = false) : gs_CI ek ex ey Wr ((256 + c) :: r) := by
  obtain ⟨a1, a2, a3, a4⟩ := h
  unfold gs_CI
  rw [gs_pn_c]
  refine ⟨fun q hq => ?_, ⟨h1, a2⟩, fun m hm => ?_, fun m hm p hpm => ?_⟩
  · rcases List.mem_cons.mp hq with rfl | hq
    · exact Or.inr ⟨by omega, by rw [Nat.add_sub_cancel_left]; exact hs⟩
    · exact a1 q hq
  · rcases List.mem_cons.mp hm with rfl | hm
    · exact h2
    · exact a3 m hm
  · by_cases e : m = c
    · subst e
      rw [gs_Pa_uniq hx hy hpm hp]
      exact hn
    · refine a4 m (hm.imp (fun z => ?_) id) p hpm
      rcases List.mem_cons.mp z with z | z
      · exact absurd z e
      · exact z
/-- taking a node from the tasks: it counts as written -/
theorem gs_CI_take {Wr : Nat → Bool} {n : Nat} {r : List Nat} (h : gs_CI ek ex ey Wr ((256 + n) :: r)) : gs_CI ek ex ey (fun i => Wr i || decide (i = n)) r ∧ gs_un (fun i => Wr i || decide (i = n)) r = gs_un Wr ((256 + n) :: r) ∧ (∀ c, gs_Pa ek ex ey n c → c ∉ gs_pn r ∧ (Wr c || decide (c = n)) = false) := by
  obtain ⟨a1, a2, a3, a4⟩ := h
  rw [gs_pn_c] at a2 a3 a4
  have hn : Wr n = false := a3 n List.mem_cons_self
  refine ⟨⟨fun q hq => a1 q (List.mem_cons_of_mem _ hq), a2.2, fun m hm => ?_, fun m hm p hp => ?_⟩, ?_, fun c hc => ⟨fun z => ?_, ?_⟩⟩
  · show (Wr m || decide (m = n)) = false
    rw [a3 m (List.mem_cons_of_mem _ hm), Bool.false_or]
    exact decide_eq_false (show ¬ m = n from fun z => a2.1 (z ▸ hm))
  · have : Wr p = true := by
      rcases hm with hm | hm
      · exact a4 m (Or.inl (List.mem_cons_of_mem _ hm)) p hp
      · have hm : (Wr m || decide (m = n)) = true := hm
        rw [Bool.or_eq_true, decide_eq_true_iff] at hm
        rcases hm with hm | rfl
        · exact a4 m (Or.inr hm) p hp
        · exact a4 m (Or.inl List.mem_cons_self) p hp
    show (Wr p || decide (p = n)) = true
    rw [this, Bool.true_or]
  · unfold gs_un
    rw [gs_pn_c]
    apply gs_cn_congr
    intro i _
    by_cases e : i = n
    · subst e
      simp
    · simp [e]
  · have := a4 c (Or.inl (List.mem_cons_of_mem _ z)) n hc
    rw [hn] at this
    exact nomatch this
  · rw [Bool.or_eq_false_iff]
    constructor
    · cases q : Wr c
      · rfl
      · have := a4 c (Or.inr q) n hc
        rw [hn] at this
        exact nomatch this
    · exact decide_eq_false (show ¬ c = n from fun z => gs_Pa_self (z ▸ hc))
/-- lists only grow -/
theorem gs_ob_len (n : Nat) : ∀ k s, s.1.length ≤ (gs_ob ek ex ey n k s).1.length ∧ s.2.length ≤ (gs_ob ek ex ey n k s).2.length
  | 0, s => ⟨Nat.le_refl _, Nat.le_refl _⟩
  | k + 1, s => by
    have h := gs_ob_len n k (if gs_kid ek ex ey n (gs_at (gs_lv ek ex ey) k) = true then ((32 + gs_at (gs_lv ek ex ey) k) :: s.1, 80 :: (256 + gs_at (gs_lv ek ex ey) k) :: s.2) else s)
    unfold gs_ob
    by_cases z : gs_kid ek ex ey n (gs_at (gs_lv ek ex ey) k) = true
    · rw [if_pos z] at h ⊢
      simp only [List.length_cons] at h
      exact ⟨by omega, by omega⟩
    · rw [if_neg z] at h ⊢
      exact h
theorem gs_ob_ok (hx : ∀ n, ex n < 16) (hy : ∀ n, ey n < 16) {Wr : Nat → Bool} {n : Nat} {r : List Nat} (hn : Wr n = true) (hf : ∀ c, gs_Pa ek ex ey n c → c ∉ gs_pn r ∧ Wr c = false) : ∀ k s, k ≤ (gs_lv ek ex ey).length → gs_CI ek ex ey Wr s.2 → (∀ w, w ∈ s.1 → w < 256) → (∀ c, c ∈ gs_pn s.2 → c ∈ gs_pn r ∨ (gs_mt ek ex ey c ∧ k ≤ gs_nu ek ex ey c)) →
    gs_CI ek ex ey Wr (gs_ob ek ex ey n k s).2 ∧ (∀ w, w ∈ (gs_ob ek ex ey n k s).1 → w < 256) ∧ (∀ c, c ∈ gs_pn (gs_ob ek ex ey n k s).2 → c ∈ gs_pn r ∨ gs_mt ek ex ey c) ∧
    (gs_ob ek ex ey n k s).1.length + gs_p1 (gs_ob ek ex ey n k s).2 + 10 * gs_un Wr (gs_ob ek ex ey n k s).2 = s.1.length + gs_p1 s.2 + 10 * gs_un Wr s.2 ∧
    gs_p2 (gs_ob ek ex ey n k s).2 + 8 * gs_un Wr (gs_ob ek ex ey n k s).2 = gs_p2 s.2 + 8 * gs_un Wr s.2
  | 0, s, _, h1, h2, h3 => ⟨h1, h2, fun c hc => (h3 c hc).imp id (fun z => z.1), rfl, rfl⟩
  | k + 1, s, hk, h1, h2, h3 => by
    unfold gs_ob
    by_cases z : gs_kid ek ex ey n (gs_at (gs_lv ek ex ey) k) = true
    · rw [if_pos z]
      have hz := gs_B_t.mp z
      have hm : gs_at (gs_lv ek ex ey) k ∈ gs_lv ek ex ey := gs_at_mem _ k hk
      have hs : gs_sn ek ex ey (gs_at (gs_lv ek ex ey) k) = true := (gs_sn_lv hx hy).mpr hm
      have hnu : gs_nu ek ex ey (gs_at (gs_lv ek ex ey) k) = k := gs_ix_at _ k (gs_lv_nd hx hy) hk
      have h16 := gs_sn_lt hx hy hs
      generalize gs_at (gs_lv ek ex ey) k = m at hz hm hs hnu h16
      have hpa : gs_Pa ek ex ey n m := Or.inl hz
      have hfr : m ∉ gs_pn s.2 := by
        intro q
        rcases h3 m q with q | q
        · exact (hf m hpa).1 q
        · omega
      have hw := (hf m hpa).2
      have hc := gs_CI_w (t := 80) (gs_CI_c hx hy h1 hs hpa hn hfr hw) (by omega)
      have hu := gs_un_c (r := s.2) h16 hfr hw
      have hu2 : gs_un Wr (80 :: (256 + m) :: s.2) = gs_un Wr ((256 + m) :: s.2) := gs_un_w (by omega)
      have hq1 : gs_p1 (80 :: (256 + m) :: s.2) = 1 + (8 + gs_p1 s.2) := by rw [gs_p1_w (by omega), gs_p1_c]
      have hq2 : gs_p2 (80 :: (256 + m) :: s.2) = 1 + (7 + gs_p2 s.2) := by rw [gs_p2_w (by omega), gs_p2_c]
      have ih := gs_ob_ok hx hy hn hf k ((32 + m) :: s.1, 80 :: (256 + m) :: s.2) (by omega) hc ?_ ?_
      · obtain ⟨i1, i2, i3, i4, i5⟩ := ih
        refine ⟨i1, i2, i3, ?_, ?_⟩
        · rw [i4]
          simp only [List.length_cons]
          omega
        · rw [i5]
          simp only []
          omega
      · intro w hw
        rcases List.mem_cons.mp hw with rfl | hw
        · omega
        · exact h2 w hw
      · intro c hc
        have hc : c ∈ gs_pn (80 :: (256 + m) :: s.2) := hc
        rw [gs_pn_w (by omega), gs_pn_c] at hc
        rcases List.mem_cons.mp hc with rfl | hc
        · exact Or.inr ⟨hz.1, by omega⟩
        · exact (h3 c hc).imp id (fun z => ⟨z.1, by omega⟩)
    · rw [if_neg z]
      exact gs_ob_ok hx hy hn hf k s (by omega) h1 h2 (fun c hc => (h3 c hc).imp id (fun z => ⟨z.1, by omega⟩))
/-- a way's task on top -/
theorem gs_way_ok (hx : ∀ n, ex n < 16) (hy : ∀ n, ey n < 16) {Wr : Nat → Bool} {n s : Nat} {r : List Nat} (hn : Wr n = true) (hs : gs_sn ek ex ey n = true) (hE : gs_E ek ex ey n s) (hc : gs_CI ek ex ey Wr r) (hf : ¬ gs_mt ek ex ey s → gs_Pa ek ex ey n s → s ∉ gs_pn r ∧ Wr s = false) :
    gs_CI ek ex ey Wr (gs_way ek ex ey n s :: r) ∧ gs_p1 (gs_way ek ex ey n s :: r) + 10 * gs_un Wr (gs_way ek ex ey n s :: r) ≤ 1 + gs_p1 r + 10 * gs_un Wr r ∧ gs_p2 (gs_way ek ex ey n s :: r) + 8 * gs_un Wr (gs_way ek ex ey n s :: r) ≤ 1 + gs_p2 r + 8 * gs_un Wr r ∧ (∀ c, c ∈ gs_pn (gs_way ek ex ey n s :: r) → c = s ∨ c ∈ gs_pn r) := by
  have hs2 := gs_sn_E hx hy hs hE
  have h16 := gs_sn_lt hx hy hs2
  unfold gs_way
  by_cases z : gs_nu ek ex ey s ≤ gs_nu ek ex ey n
  · rw [if_pos z]
    have h : 96 + s < 256 := by omega
    exact ⟨gs_CI_w hc h, by rw [gs_p1_w h, gs_un_w h]; omega, by rw [gs_p2_w h, gs_un_w h]; omega, fun c hc => Or.inr (by rw [gs_pn_w h] at hc; exact hc)⟩
  · rw [if_neg z]
    by_cases q : gs_B (gs_mt ek ex ey s) = true
    · rw [if_pos q]
      have h : 112 + s < 256 := by omega
      exact ⟨gs_CI_w hc h, by rw [gs_p1_w h, gs_un_w h]; omega, by rw [gs_p2_w h, gs_un_w h]; omega, fun c hc => Or.inr (by rw [gs_pn_w h] at hc; exact hc)⟩
    · rw [if_neg q]
      have hm : ¬ gs_mt ek ex ey s := fun w => q (gs_B_t.mpr w)
      have hp : gs_Pa ek ex ey n s := Or.inr ⟨hm, hs, hE, by omega⟩
      have hfr := hf hm hp
      have hu := gs_un_c (r := r) h16 hfr.1 hfr.2
      refine ⟨gs_CI_c hx hy hc hs2 hp hn hfr.1 hfr.2, by rw [gs_p1_c]; omega, by rw [gs_p2_c]; omega, fun c hc => ?_⟩
      rw [gs_pn_c] at hc
      exact List.mem_cons.mp hc
theorem gs_op_ok (hk : ∀ n, ek n ≤ 2) (hx : ∀ n, ex n < 16) (hy : ∀ n, ey n < 16) (hv : ∀ n, ev n < 4) {Wr : Nat → Bool} {n : Nat} {wd r : List Nat} (h : gs_CI ek ex ey Wr ((256 + n) :: r)) (hw : ∀ w, w ∈ wd → w < 256) :
    ∃ Wr', gs_CI ek ex ey Wr' (gs_op ek ex ey ev n (wd, r)).2 ∧ (∀ w, w ∈ (gs_op ek ex ey ev n (wd, r)).1 → w < 256) ∧
    (gs_op ek ex ey ev n (wd, r)).1.length + gs_p1 (gs_op ek ex ey ev n (wd, r)).2 + 10 * gs_un Wr' (gs_op ek ex ey ev n (wd, r)).2 ≤ wd.length + gs_p1 ((256 + n) :: r) + 10 * gs_un Wr ((256 + n) :: r) ∧
    gs_p2 (gs_op ek ex ey ev n (wd, r)).2 + 8 * gs_un Wr' (gs_op ek ex ey ev n (wd, r)).2 + 1 ≤ gs_p2 ((256 + n) :: r) + 8 * gs_un Wr ((256 + n) :: r) := by
  have hs : gs_sn ek ex ey n = true := by
    rcases h.1 (256 + n) List.mem_cons_self with z | z
    · omega
    · rw [Nat.add_sub_cancel_left] at z
      exact z.2
  have h16 := gs_sn_lt hx hy hs
  obtain ⟨hc, hun, hf⟩ := gs_CI_take h
  refine ⟨fun i => Wr i || decide (i = n), ?_⟩
  rw [← hun, gs_p1_c, gs_p2_c]
  have hn : (fun i => Wr i || decide (i = n)) n = true := by simp
  have hf : ∀ c, gs_Pa ek ex ey n c → c ∉ gs_pn r ∧ (fun i => Wr i || decide (i = n)) c = false := hf
  generalize (fun i => Wr i || decide (i = n)) = V at hc hn hf ⊢
  -- the loop's words
  have s1 : gs_CI ek ex ey V (gs_o1 ek ex ey n (wd, r)).2 ∧ (∀ w, w ∈ (gs_o1 ek ex ey n (wd, r)).1 → w < 256) ∧ gs_pn (gs_o1 ek ex ey n (wd, r)).2 = gs_pn r ∧ (gs_o1 ek ex ey n (wd, r)).1.length + gs_p1 (gs_o1 ek ex ey n (wd, r)).2 ≤ wd.length + gs_p1 r + 2 ∧ gs_p2 (gs_o1 ek ex ey n (wd, r)).2 ≤ gs_p2 r + 1 ∧ gs_un V (gs_o1 ek ex ey n (wd, r)).2 = gs_un V r := by
    unfold gs_o1
    by_cases z : gs_hd ek ex ey n = true
    · rw [if_pos z]
      refine ⟨gs_CI_w hc (by omega), fun w hq => ?_, gs_pn_w (by omega), ?_, ?_, gs_un_w (by omega)⟩
      · rcases List.mem_cons.mp hq with rfl | hq
        · omega
        · exact hw w hq
      · rw [gs_p1_w (by omega)]
        simp only [List.length_cons]
        omega
      · rw [gs_p2_w (by omega)]
        show 1 + gs_p2 r ≤ gs_p2 r + 1
        omega
    · rw [if_neg z]
      exact ⟨hc, hw, rfl, by simp only []; omega, by simp only []; omega, rfl⟩
  obtain ⟨a1, a2, a3, a4, a5, a6⟩ := s1
  have s2 := gs_ob_ok hx hy (r := r) hn hf (gs_lv ek ex ey).length (gs_o1 ek ex ey n (wd, r)) (Nat.le_refl _) a1 a2 (fun c q => Or.inl (a3 ▸ q))
  unfold gs_op
  generalize gs_ob ek ex ey n (gs_lv ek ex ey).length (gs_o1 ek ex ey n (wd, r)) = s at s2
  obtain ⟨b1, b2, b3, b4, b5⟩ := s2
  obtain ⟨w2, t2⟩ := s
  simp only at b1 b2 b3 b4 b5
  have hww : ∀ w, w ∈ n :: w2 → w < 256 := fun w q => by
    rcases List.mem_cons.mp q with rfl | q
    · omega
    · exact b2 w q
  have fr : ∀ c, ¬ gs_mt ek ex ey c → gs_Pa ek ex ey n c → c ∉ gs_pn t2 ∧ V c = false := by
    intro c hm hp
    refine ⟨fun q => ?_, (hf c hp).2⟩
    rcases b3 c q with q | q
    · exact (hf c hp).1 q
    · exact hm q
  simp only [List.length_cons]
  unfold gs_gon
  by_cases k0 : ek n = 0
  · rw [if_pos k0]
    refine ⟨gs_CI_w b1 (by omega), hww, ?_, ?_⟩
    · show w2.length + 1 + gs_p1 (128 :: t2) + 10 * gs_un V (128 :: t2) ≤ _
      rw [gs_p1_w (by omega), gs_un_w (by omega)]
      omega
    · show gs_p2 (128 :: t2) + 8 * gs_un V (128 :: t2) + 1 ≤ _
      rw [gs_p2_w (by omega), gs_un_w (by omega)]
      omega
  · rw [if_neg k0]
    have hk2 := hk n
    have hEx : gs_E ek ex ey n (ex n) := by
      by_cases k1 : ek n = 1
      · exact Or.inl ⟨k1, rfl⟩
      · exact Or.inr ⟨by omega, Or.inl rfl⟩
    by_cases k1 : ek n = 1 ∨ ex n = ey n
    · rw [if_pos k1]
      obtain ⟨c1, c2, c3, _⟩ := gs_way_ok hx hy hn hs hEx b1 (fr (ex n))
      refine ⟨c1, hww, ?_, ?_⟩
      · show w2.length + 1 + gs_p1 (gs_way ek ex ey n (ex n) :: t2) + 10 * gs_un V (gs_way ek ex ey n (ex n) :: t2) ≤ _
        omega
      · show gs_p2 (gs_way ek ex ey n (ex n) :: t2) + 8 * gs_un V (gs_way ek ex ey n (ex n) :: t2) + 1 ≤ _
        omega
    · rw [if_neg k1]
      have hEy : gs_E ek ex ey n (ey n) := Or.inr ⟨by omega, Or.inr rfl⟩
      have hxy : ex n ≠ ey n := fun z => k1 (Or.inr z)
      have d1 := gs_CI_w (t := 80) b1 (by omega)
      obtain ⟨e1, e2, e3, e4⟩ := gs_way_ok hx hy (s := ey n) hn hs hEy d1 (fun q w => by rw [gs_pn_w (by omega)]; exact fr (ey n) q w)
      rw [gs_p1_w (by omega : 80 < 256), gs_un_w (by omega : 80 < 256)] at e2
      rw [gs_p2_w (by omega : 80 < 256), gs_un_w (by omega : 80 < 256)] at e3
      have f1 := gs_CI_w (t := 64) e1 (by omega)
      obtain ⟨g1, g2, g3, _⟩ := gs_way_ok hx hy (s := ex n) hn hs hEx f1 (fun q w => by
        rw [gs_pn_w (by omega)]
        refine ⟨fun y => ?_, (fr (ex n) q w).2⟩
        rcases e4 (ex n) y with y | y
        · exact hxy y
        · rw [gs_pn_w (by omega)] at y
          exact (fr (ex n) q w).1 y)
      rw [gs_p1_w (by omega : 64 < 256), gs_un_w (by omega : 64 < 256)] at g2
      rw [gs_p2_w (by omega : 64 < 256), gs_un_w (by omega : 64 < 256)] at g3
      have hev := hv n
      refine ⟨gs_CI_w g1 (by omega), hww, ?_, ?_⟩
      · show w2.length + 1 + gs_p1 ((48 + ev n) :: gs_way ek ex ey n (ex n) :: 64 :: gs_way ek ex ey n (ey n) :: 80 :: t2) + 10 * gs_un V ((48 + ev n) :: gs_way ek ex ey n (ex n) :: 64 :: gs_way ek ex ey n (ey n) :: 80 :: t2) ≤ _
        rw [gs_p1_w (by omega), gs_un_w (by omega)]
        omega
      · show gs_p2 ((48 + ev n) :: gs_way ek ex ey n (ex n) :: 64 :: gs_way ek ex ey n (ey n) :: 80 :: t2) + 8 * gs_un V ((48 + ev n) :: gs_way ek ex ey n (ex n) :: 64 :: gs_way ek ex ey n (ey n) :: 80 :: t2) + 1 ≤ _
        rw [gs_p2_w (by omega), gs_un_w (by omega)]
        omega
/-- the state of the machine: words below 256, tasks in order, potentials -/
def gs_CS (ek ex ey : Nat → Nat) (b : Nat) (s : List Nat × List Nat) : Prop := ∃ Wr, gs_CI ek ex ey Wr s.2 ∧ (∀ w, w ∈ s.1 → w < 256) ∧ s.1.length + gs_p1 s.2 + 10 * gs_un Wr s.2 ≤ 158 ∧ gs_p2 s.2 + 8 * gs_un Wr s.2 ≤ b
theorem gs_CS_0 (hx : ∀ n, ex n < 16) (hy : ∀ n, ey n < 16) : gs_CS ek ex ey 127 ([], [256]) := by
  refine ⟨fun _ => false, ⟨fun t ht => ?_, ?_, fun _ _ => rfl, fun n hn p hp => ?_⟩, (fun w hw => nomatch hw), by decide, by decide⟩
  · rcases List.mem_cons.mp ht with rfl | ht
    · exact Or.inr ⟨by omega, gs_sn_0 hx hy⟩
    · cases ht
  · exact ⟨(fun z => nomatch z), trivial⟩
  · rcases hn with hn | hn
    · rcases List.mem_cons.mp (show n ∈ [0] from hn) with rfl | hn
      · exact absurd hp (gs_Pa_0 hx hy)
      · cases hn
    · exact nomatch hn
theorem gs_CS_s (hk : ∀ n, ek n ≤ 2) (hx : ∀ n, ex n < 16) (hy : ∀ n, ey n < 16) (hv : ∀ n, ev n < 4) {b : Nat} {s : List Nat × List Nat} (h : gs_CS ek ex ey b s) (hne : s.2 ≠ []) : 1 ≤ b ∧ gs_CS ek ex ey (b - 1) (gs_cs ek ex ey ev s) := by
  obtain ⟨wd, tk⟩ := s
  obtain ⟨Wr, h1, h2, h3, h4⟩ := h
  cases tk with
  | nil => exact absurd rfl hne
  | cons t r =>
    simp only at h1 h2 h3 h4
    show 1 ≤ b ∧ gs_CS ek ex ey (b - 1) (if t < 256 then (t :: wd, r) else gs_op ek ex ey ev (t - 256) (wd, r))
    by_cases z : t < 256
    · rw [if_pos z]
      rw [gs_p1_w z, gs_un_w z] at h3
      rw [gs_p2_w z, gs_un_w z] at h4
      refine ⟨by omega, Wr, gs_CI_w' h1 z, fun w hw => ?_, ?_, ?_⟩
      · rcases List.mem_cons.mp hw with rfl | hw
        · exact z
        · exact h2 w hw
      · simp only [List.length_cons]
        omega
      · simp only []
        omega
    · rw [if_neg z]
      obtain ⟨n, rfl⟩ : ∃ n, t = 256 + n := ⟨t - 256, by omega⟩
      rw [Nat.add_sub_cancel_left]
      obtain ⟨V, o1, o2, o3, o4⟩ := gs_op_ok (ev := ev) hk hx hy hv h1 h2
      exact ⟨by omega, V, o1, o2, by omega, by omega⟩
theorem gs_CS_len {b : Nat} {s : List Nat × List Nat} (h : gs_CS ek ex ey b s) : s.1.length ≤ 158 ∧ s.2.length ≤ 158 := by
  obtain ⟨Wr, _, _, h3, _⟩ := h
  have := gs_p1_len s.2
  exact ⟨by omega, by omega⟩
theorem gs_cs_nil {s : List Nat × List Nat} (h : s.2 = []) : gs_cs ek ex ey ev s = s := by
  obtain ⟨wd, tk⟩ := s
  cases h
  rfl
variable (ek ex ey ev)
noncomputable def gs_cF : List Nat × List Nat := gs_seal (gs_it (gs_cs ek ex ey ev) 176 ([], [256]))
theorem gs_cF_eq : gs_cF ek ex ey ev = gs_it (gs_cs ek ex ey ev) 176 ([], [256]) := gs_seal_eq _
variable {ek ex ey ev}
theorem gs_CS_i (hk : ∀ n, ek n ≤ 2) (hx : ∀ n, ex n < 16) (hy : ∀ n, ey n < 16) (hv : ∀ n, ev n < 4) : ∀ i, ∃ b, gs_CS ek ex ey b (gs_it (gs_cs ek ex ey ev) i ([], [256])) ∧ ((gs_it (gs_cs ek ex ey ev) i ([], [256])).2 = [] ∨ b + i ≤ 127)
  | 0 => ⟨127, gs_CS_0 hx hy, Or.inr (by omega)⟩
  | i + 1 => by
    rw [gs_it_s]
    obtain ⟨b, h1, h2⟩ := gs_CS_i hk hx hy hv i
    by_cases z : (gs_it (gs_cs ek ex ey ev) i ([], [256])).2 = []
    · rw [gs_cs_nil z]
      exact ⟨b, h1, Or.inl z⟩
    · have h3 := gs_CS_s hk hx hy hv h1 z
      refine ⟨b - 1, h3.2, Or.inr ?_⟩
      rcases h2 with h2 | h2
      · exact absurd h2 z
      · omega
theorem gs_cF_nil (hk : ∀ n, ek n ≤ 2) (hx : ∀ n, ex n < 16) (hy : ∀ n, ey n < 16) (hv : ∀ n, ev n < 4) : (gs_cF ek ex ey ev).2 = [] := by
  rw [gs_cF_eq]
  obtain ⟨b, _, h⟩ := gs_CS_i (ev := ev) hk hx hy hv 176
  rcases h with h | h
  · exact h
  · omega
theorem gs_cF_end (hk : ∀ n, ek n ≤ 2) (hx : ∀ n, ex n < 16) (hy : ∀ n, ey n < 16) (hv : ∀ n, ev n < 4) {i : Nat} (h : (gs_it (gs_cs ek ex ey ev) i ([], [256])).2 = []) : gs_it (gs_cs ek ex ey ev) i ([], [256]) = gs_cF ek ex ey ev := by
  rcases Nat.le_total i 176 with z | z
  · have e : gs_cF ek ex ey ev = gs_it (gs_cs ek ex ey ev) ((176 - i) + i) ([], [256]) := by rw [show 176 - i + i = 176 by omega]; exact gs_cF_eq ek ex ey ev
    rw [e, gs_it_add, gs_it_fix (gs_cs_nil h)]
  · have e : gs_it (gs_cs ek ex ey ev) i ([], [256]) = gs_it (gs_cs ek ex ey ev) ((i - 176) + 176) ([], [256]) := by rw [show i - 176 + 176 = i by omega]
    rw [e, gs_it_add, ← gs_cF_eq]
    exact gs_it_fix (gs_cs_nil (gs_cF_nil hk hx hy hv)) _
variable (ek ex ey ev)
noncomputable def gs_ci (i : Nat) : List Nat × List Nat := gs_seal (gs_it (gs_cs ek ex ey ev) i ([], [256]))
theorem gs_ci_eq (i : Nat) : gs_ci ek ex ey ev i = gs_it (gs_cs ek ex ey ev) i ([], [256]) := gs_seal_eq _
theorem gs_ci_0 : gs_ci ek ex ey ev 0 = ([], [256]) := gs_ci_eq ek ex ey ev 0
theorem gs_ci_s (i : Nat) : gs_ci ek ex ey ev (i + 1) = gs_cs ek ex ey ev (gs_ci ek ex ey ev i) := by
  rw [gs_ci_eq, gs_ci_eq, gs_it_s]
theorem gs_ci_F : gs_ci ek ex ey ev 176 = gs_cF ek ex ey ev := by
  rw [gs_ci_eq, gs_cF_eq]
variable {ek ex ey ev}
theorem gs_ci_CS (hk : ∀ n, ek n ≤ 2) (hx : ∀ n, ex n < 16) (hy : ∀ n, ey n < 16) (hv : ∀ n, ev n < 4) (i : Nat) : ∃ b, gs_CS ek ex ey b (gs_ci ek ex ey ev i) := by
  obtain ⟨b, h, _⟩ := gs_CS_i (ev := ev) hk hx hy hv i
  exact ⟨b, by rw [gs_ci_eq]; exact h⟩
theorem gs_ci_end (hk : ∀ n, ek n ≤ 2) (hx : ∀ n, ex n < 16) (hy : ∀ n, ey n < 16) (hv : ∀ n, ev n < 4) {i : Nat} (h : (gs_ci ek ex ey ev i).2 = []) : gs_ci ek ex ey ev i = gs_cF ek ex ey ev := by
  rw [gs_ci_eq] at h ⊢
  exact gs_cF_end hk hx hy hv h
end
end
section
/-! known values: cells 0 (not entered), a + 1 (the value a), 17 (several) -/
def gs_kd (a : Nat) : Int32 := if a = 0 then -1 else nI (a - 1)
def gs_un1 (f : Nat → Nat) (k x : Nat) : Nat → Nat := fun j => if j = k then x else f j
section
variable (ak av ac ek ev ex ey : Nat → Nat)
def gs_md (kv : Nat → Nat) (n v : Nat) : Nat :=
  if v ≠ av n then kv (4 * n + v) else if ak n = 1 then ac n + 1 else if ak n = 2 then (if kv (4 * n + v) = 17 then 17 else (kv (4 * n + v) - 1 + ac n) % 16 + 1) else if ak n = 3 then kv (4 * n + ac n) else if ak n = 5 then 17 else kv (4 * n + v)
def gs_jn (h g : Nat) : Nat := if h = 0 ∨ h = g then g else 17
/-- the first w variables given from a node to another -/
def gs_gw (kv : Nat → Nat) (n t w : Nat) : Nat → Nat := fun i => if 4 * t ≤ i ∧ i < 4 * t + w then gs_jn (kv i) (gs_md ak av ac kv n (i - 4 * t)) else kv i
def gs_gv (kv : Nat → Nat) (n t : Nat) : Nat → Nat := gs_gw ak av ac kv n t 4
def gs_go (kv : Nat → Nat) (n : Nat) : Nat → Nat :=
  if ek n = 0 then kv else if ek n = 1 ∨ ex n = ey n then gs_gv ak av ac kv n (ex n)
  else if gs_md ak av ac kv n (ev n) = 17 then gs_gv ak av ac (gs_gv ak av ac kv n (ex n)) n (ey n)
  else if gs_md ak av ac kv n (ev n) = 1 then gs_gv ak av ac kv n (ex n) else gs_gv ak av ac kv n (ey n)
def gs_ks1 (kv : Nat → Nat) : Nat → Nat → Nat
  | 0 => kv
  | n + 1 => if gs_ks1 kv n (4 * n) = 0 then gs_ks1 kv n else gs_go ak av ac ek ev ex ey (gs_ks1 kv n) n
def gs_ks (kv : Nat → Nat) : Nat → Nat := gs_ks1 ak av ac ek ev ex ey kv 16
def gs_k0 : Nat → Nat := fun i => if i < 4 then 1 else 0
noncomputable def gs_kF : Nat → Nat := gs_seal (gs_it (gs_ks ak av ac ek ev ex ey) 81 gs_k0)
theorem gs_kF_eq : gs_kF ak av ac ek ev ex ey = gs_it (gs_ks ak av ac ek ev ex ey) 81 gs_k0 := gs_seal_eq _
/-- cells are codes; a node has all four or none -/
def gs_KI (kv : Nat → Nat) : Prop := (∀ i, kv i ≤ 17) ∧ ∀ n, n < 16 → (∀ v, v < 4 → kv (4 * n + v) = 0) ∨ (∀ v, v < 4 → kv (4 * n + v) ≠ 0)
def gs_kc (kv : Nat → Nat) : Nat := gs_cn (fun n => decide (kv (4 * n) ≠ 0)) 16 + gs_cn (fun i => decide (kv i = 17)) 64
variable {ak av ac ek ev ex ey}
theorem gs_kc_le (kv : Nat → Nat) : gs_kc kv ≤ 80 := by
  have h1 := gs_cn_le (fun n => decide (kv (4 * n) ≠ 0)) 16
  have h2 := gs_cn_le (fun i => decide (kv i = 17)) 64
  unfold gs_kc
  omega
theorem gs_md_le (hac : ∀ n, ac n < 16) {kv : Nat → Nat} (h : ∀ i, kv i ≤ 17) (n v : Nat) : gs_md ak av ac kv n v ≤ 17 := by
  have h1 := hac n
  have h2 := h (4 * n + v)
  have h3 := h (4 * n + ac n)
  unfold gs_md
  repeat' split
  all_goals omega
theorem gs_md_pos (hc3 : ∀ n, ak n = 3 → ac n < 4) {kv : Nat → Nat} {n v : Nat} (hv : v < 4) (h : ∀ v, v < 4 → kv (4 * n + v) ≠ 0) : gs_md ak av ac kv n v ≠ 0 := by
  have h2 := h v hv
  unfold gs_md
  split
  · exact h2
  · split
    · omega
    · split
      · split <;> omega
      · split
        · rename_i e
          exact h (ac n) (hc3 n e)
        · split
          · omega
          · exact h2
theorem gs_jn_le {h g : Nat} (hg : g ≤ 17) : gs_jn h g ≤ 17 := by
  unfold gs_jn
  split <;> omega
/-- what is made of v doesn't change while the node gives to itself -/
theorem gs_md_in (kv : Nat → Nat) (n t v w : Nat) (hv : v < 4) (hvw : w ≤ v) (hc3 : ∀ n, ak n = 3 → ac n < 4) : gs_md ak av ac (gs_gw ak av ac kv n t w) n v = gs_md ak av ac kv n v := by
  have key : ∀ u, u < 4 → (u ≠ av n ∨ w ≤ u) → gs_gw ak av ac kv n t w (4 * n + u) = kv (4 * n + u) := by
    intro u hu h
    unfold gs_gw
    by_cases z : 4 * t ≤ 4 * n + u ∧ 4 * n + u < 4 * t + w
    · rw [if_pos z]
      by_cases e : n = t
      · subst e
        have e2 : 4 * n + u - 4 * n = u := by omega
        rw [e2]
        have e3 : u ≠ av n := by
          rcases h with h | h
          · exact h
          · omega
        have e4 : gs_md ak av ac kv n u = kv (4 * n + u) := if_pos e3
        rw [e4]
        unfold gs_jn
        rw [if_pos (Or.inr rfl)]
      · omega
    · rw [if_neg z]
  have k1 := key v hv (Or.inr hvw)
  unfold gs_md
  rw [k1]
  by_cases e : v ≠ av n
  · rw [if_pos e, if_pos e]
  · rw [if_neg e, if_neg e]
    by_cases e1 : ak n = 1
    · rw [if_pos e1, if_pos e1]
    · rw [if_neg e1, if_neg e1]
      by_cases e2 : ak n = 2
      · rw [if_pos e2, if_pos e2]
      · rw [if_neg e2, if_neg e2]
        by_cases e3 : ak n = 3
        · rw [if_pos e3, if_pos e3]
          apply key (ac n) (hc3 n e3)
          by_cases q : ac n = av n
          · right; omega
          · exact Or.inl q
        · rw [if_neg e3, if_neg e3]
theorem gs_gw_0 (kv : Nat → Nat) (n t : Nat) : gs_gw ak av ac kv n t 0 = kv := by
  funext i
  unfold gs_gw
  rw [if_neg (by omega)]
theorem gs_gw_s (kv : Nat → Nat) (n t w : Nat) : gs_gw ak av ac kv n t (w + 1) = gs_un1 (gs_gw ak av ac kv n t w) (4 * t + w) (gs_jn (kv (4 * t + w)) (gs_md ak av ac kv n w)) := by
  funext i
  unfold gs_gw gs_un1
  by_cases e : i = 4 * t + w
  · rw [if_pos e, if_pos (by omega), e, show 4 * t + w - 4 * t = w by omega]
  · rw [if_neg e]
    dsimp only
    by_cases z : 4 * t ≤ i ∧ i < 4 * t + w
    · rw [if_pos z, if_pos (by omega)]
    · rw [if_neg z, if_neg (by omega)]
theorem gs_gw_at (kv : Nat → Nat) (n t w : Nat) : gs_gw ak av ac kv n t w (4 * t + w) = kv (4 * t + w) := by
  unfold gs_gw
  rw [if_neg (by omega)]
theorem gs_gv_c (kv : Nat → Nat) (n t v : Nat) (hv : v < 4) : gs_gv ak av ac kv n t (4 * t + v) = gs_jn (kv (4 * t + v)) (gs_md ak av ac kv n v) := by
  unfold gs_gv gs_gw
  rw [if_pos (by omega), show 4 * t + v - 4 * t = v by omega]
theorem gs_gv_o (kv : Nat → Nat) (n t m v : Nat) (hv : v < 4) (h : m ≠ t) : gs_gv ak av ac kv n t (4 * m + v) = kv (4 * m + v) := by
  unfold gs_gv gs_gw
  rw [if_neg (by omega)]
theorem gs_gv_KI (hac : ∀ n, ac n < 16) (hc3 : ∀ n, ak n = 3 → ac n < 4) {kv : Nat → Nat} (h : gs_KI kv) {n t : Nat} (hn : n < 16) (he : kv (4 * n) ≠ 0) : gs_KI (gs_gv ak av ac kv n t) := by
  have hall : ∀ v, v < 4 → kv (4 * n + v) ≠ 0 := by
    rcases h.2 n hn with z | z
    · exact absurd (z 0 (by omega)) he
    · exact z
  refine ⟨fun i => ?_, fun m hm => ?_⟩
  · unfold gs_gv gs_gw
    split
    · exact gs_jn_le (gs_md_le hac h.1 n _)
    · exact h.1 i
  · by_cases e : m = t
    · subst e
      right
      intro v hv
      rw [gs_gv_c _ _ _ _ hv]
      have hp := gs_md_pos (av := av) hc3 hv hall
      unfold gs_jn
      split <;> omega
    · rcases h.2 m hm with z | z
      · left
        intro v hv
        rw [gs_gv_o _ _ _ _ _ hv e]
        exact z v hv
      · right
        intro v hv
        rw [gs_gv_o _ _ _ _ _ hv e]
        exact z v hv
/-- a change counts -/
theorem gs_gv_grow (hc3 : ∀ n, ak n = 3 → ac n < 4) {kv : Nat → Nat} (h : gs_KI kv) {n t : Nat} (hn : n < 16) (ht : t < 16) (he : kv (4 * n) ≠ 0) : gs_gv ak av ac kv n t = kv ∨ gs_kc kv < gs_kc (gs_gv ak av ac kv n t) := by
  have hall : ∀ v, v < 4 → kv (4 * n + v) ≠ 0 := by
    rcases h.2 n hn with z | z
    · exact absurd (z 0 (by omega)) he
    · exact z
  have up : ∀ i, kv i ≠ 0 → gs_gv ak av ac kv n t i = kv i ∨ gs_gv ak av ac kv n t i = 17 := by
    intro i hi
    unfold gs_gv gs_gw
    split
    · unfold gs_jn
      split
      · rename_i z
        rcases z with z | z
        · exact absurd z hi
        · exact Or.inl z.symm
      · exact Or.inr rfl
    · exact Or.inl rfl
  have m1 : ∀ i, i < 16 → decide (kv (4 * i) ≠ 0) = true → decide (gs_gv ak av ac kv n t (4 * i) ≠ 0) = true := by
    intro i _ z
    rw [decide_eq_true_iff] at z ⊢
    rcases up (4 * i) z with q | q
    · rw [q]; exact z
    · rw [q]; decide
  have m2 : ∀ i, i < 64 → decide (kv i = 17) = true → decide (gs_gv ak av ac kv n t i = 17) = true := by
    intro i _ z
    rw [decide_eq_true_iff] at z ⊢
    rcases up i (by omega) with q | q
    · rw [q]; exact z
    · exact q
  have c1 := gs_cn_mono 16 m1
  have c2 := gs_cn_mono 64 m2
  by_cases z : ∃ i, gs_gv ak av ac kv n t i ≠ kv i
  · right
    obtain ⟨i, hi⟩ := z
    have hin : 4 * t ≤ i ∧ i < 4 * t + 4 := by
      apply Classical.byContradiction
      intro q
      apply hi
      unfold gs_gv gs_gw
      rw [if_neg q]
    obtain ⟨v, hv, rfl⟩ : ∃ v, v < 4 ∧ i = 4 * t + v := ⟨i - 4 * t, by omega, by omega⟩
    by_cases q : kv (4 * t + v) = 0
    · have hz : ∀ v, v < 4 → kv (4 * t + v) = 0 := by
        rcases h.2 t ht with w | w
        · exact w
        · exact absurd q (w v hv)
      have h0 := hz 0 (by omega)
      have hp := gs_md_pos (av := av) hc3 (v := 0) (by omega) hall
      have hg := gs_gv_c (ak := ak) (av := av) (ac := ac) kv n t 0 (by omega)
      have c3 := gs_cn_lt (P := fun n => decide (kv (4 * n) ≠ 0)) (Q := fun m => decide (gs_gv ak av ac kv n t (4 * m) ≠ 0)) 16 m1 ⟨t, ht, by
        rw [decide_eq_true_iff]
        show gs_gv ak av ac kv n t (4 * t + 0) ≠ 0
        rw [hg, h0]
        unfold gs_jn
        rw [if_pos (Or.inl rfl)]
        exact hp, by
        rw [decide_eq_true_iff]
        exact fun w => w h0⟩
      unfold gs_kc
      omega
    · have c3 := gs_cn_lt (P := fun i => decide (kv i = 17)) (Q := fun i => decide (gs_gv ak av ac kv n t i = 17)) 64 m2 ⟨4 * t + v, by omega, by
        rw [decide_eq_true_iff]
        rcases up (4 * t + v) q with w | w
        · exact absurd w hi
        · exact w, by
        rw [decide_eq_true_iff]
        intro w
        rcases up (4 * t + v) q with y | y
        · exact hi y
        · exact hi (y.trans w.symm)⟩
      unfold gs_kc
      omega
  · left
    funext i
    apply Classical.byContradiction
    exact fun q => z ⟨i, q⟩
/-- to the same node twice -/
theorem gs_gv_twice (hc3 : ∀ n, ak n = 3 → ac n < 4) {kv : Nat → Nat} (h : gs_KI kv) {n t : Nat} (hn : n < 16) (he : kv (4 * n) ≠ 0) : gs_gv ak av ac (gs_gv ak av ac kv n t) n t = gs_gv ak av ac kv n t := by
  have hall : ∀ v, v < 4 → kv (4 * n + v) ≠ 0 := by
    rcases h.2 n hn with z | z
    · exact absurd (z 0 (by omega)) he
    · exact z
  have jj : ∀ h g, gs_jn (gs_jn h g) g = gs_jn h g := by
    intro h g
    unfold gs_jn
    by_cases z : h = 0 ∨ h = g
    · rw [if_pos z, if_pos (Or.inr rfl)]
    · rw [if_neg z]
      split
      · rename_i q
        rcases q with q | q
        · omega
        · exact q.symm
      · rfl
  funext i
  by_cases z : 4 * t ≤ i ∧ i < 4 * t + 4
  · obtain ⟨v, hv, rfl⟩ : ∃ v, v < 4 ∧ i = 4 * t + v := ⟨i - 4 * t, by omega, by omega⟩
    rw [gs_gv_c _ _ _ _ hv, gs_gv_c _ _ _ _ hv]
    by_cases e : n = t
    · subst e
      have hu : ∀ u, u < 4 → u ≠ av n → gs_gv ak av ac kv n n (4 * n + u) = kv (4 * n + u) := by
        intro u hu hne
        rw [gs_gv_c _ _ _ _ hu]
        have e4 : gs_md ak av ac kv n u = kv (4 * n + u) := if_pos hne
        rw [e4]
        unfold gs_jn
        rw [if_pos (Or.inr rfl)]
      by_cases q : v = av n
      · have hh := hall v hv
        have hg := gs_gv_c (ak := ak) (av := av) (ac := ac) kv n n v hv
        by_cases e1 : ak n = 1
        · have g1 : ∀ kv', gs_md ak av ac kv' n v = ac n + 1 := fun kv' => by unfold gs_md; rw [if_neg (fun w => w q), if_pos e1]
          rw [g1, g1, jj]
        · by_cases e2 : ak n = 2
          · have g1 : ∀ kv' : Nat → Nat, gs_md ak av ac kv' n v = if kv' (4 * n + v) = 17 then 17 else (kv' (4 * n + v) - 1 + ac n) % 16 + 1 := fun kv' => by unfold gs_md; rw [if_neg (fun w => w q), if_neg e1, if_pos e2]
            rw [g1 kv, g1 (gs_gv ak av ac kv n n), hg, g1 kv]
            generalize kv (4 * n + v) = x at hh
            by_cases x17 : x = 17
            · subst x17
              simp [gs_jn]
            · rw [if_neg x17]
              by_cases x2 : x = (x - 1 + ac n) % 16 + 1
              · have x3 : gs_jn x ((x - 1 + ac n) % 16 + 1) = x := by
                  unfold gs_jn
                  rw [if_pos (Or.inr x2), ← x2]
                rw [x3, if_neg x17, x3]
              · have x3 : gs_jn x ((x - 1 + ac n) % 16 + 1) = 17 := by
                  unfold gs_jn
                  rw [if_neg]
                  rintro (w | w)
                  · exact hh w
                  · exact x2 w
                rw [x3]
                simp [gs_jn]
          · by_cases e3 : ak n = 3
            · have g1 : ∀ kv', gs_md ak av ac kv' n v = kv' (4 * n + ac n) := fun kv' => by unfold gs_md; rw [if_neg (fun w => w q), if_neg e1, if_neg e2, if_pos e3]
              rw [g1, g1]
              by_cases q2 : ac n = av n
              · have q3 : ac n = v := q2.trans q.symm
                rw [q3, hg, g1, q3]
                have j1 : ∀ x, gs_jn x x = x := fun x => by unfold gs_jn; rw [if_pos (Or.inr rfl)]
                rw [j1, j1]
              · rw [hu (ac n) (hc3 n e3) q2, jj]
            · by_cases e5 : ak n = 5
              · have g1 : ∀ kv', gs_md ak av ac kv' n v = 17 := fun kv' => by unfold gs_md; rw [if_neg (fun w => w q), if_neg e1, if_neg e2, if_neg e3, if_pos e5]
                rw [g1, g1, jj]
              · have g1 : ∀ kv', gs_md ak av ac kv' n v = kv' (4 * n + v) := fun kv' => by unfold gs_md; rw [if_neg (fun w => w q), if_neg e1, if_neg e2, if_neg e3, if_neg e5]
                rw [g1, g1, hg, g1]
                have j1 : ∀ x, gs_jn x x = x := fun x => by unfold gs_jn; rw [if_pos (Or.inr rfl)]
                rw [j1, j1]
      · have g1 : ∀ kv', gs_md ak av ac kv' n v = kv' (4 * n + v) := fun kv' => if_pos q
        rw [g1, g1, hu v hv q]
        have j1 : ∀ x, gs_jn x x = x := fun x => by unfold gs_jn; rw [if_pos (Or.inr rfl)]
        rw [j1, j1]
    · have g2 : gs_md ak av ac (gs_gv ak av ac kv n t) n v = gs_md ak av ac kv n v := by
        unfold gs_md
        rw [gs_gv_o _ _ _ _ _ hv e]
        by_cases w : ak n = 3
        · rw [gs_gv_o _ _ _ _ _ (hc3 n w) e]
        · simp only [w, if_false]
      rw [g2, jj]
  · have o : ∀ kv', gs_gv ak av ac kv' n t i = kv' i := fun kv' => by unfold gs_gv gs_gw; rw [if_neg z]
    rw [o]
theorem gs_go_ok (hac : ∀ n, ac n < 16) (hc3 : ∀ n, ak n = 3 → ac n < 4) (hx : ∀ n, ex n < 16) (hy : ∀ n, ey n < 16) {kv : Nat → Nat} (h : gs_KI kv) {n : Nat} (hn : n < 16) (he : kv (4 * n) ≠ 0) : gs_KI (gs_go ak av ac ek ev ex ey kv n) ∧ (gs_go ak av ac ek ev ex ey kv n = kv ∨ gs_kc kv < gs_kc (gs_go ak av ac ek ev ex ey kv n)) := by
  have one : ∀ t, t < 16 → gs_KI (gs_gv ak av ac kv n t) ∧ (gs_gv ak av ac kv n t = kv ∨ gs_kc kv < gs_kc (gs_gv ak av ac kv n t)) := fun t ht => ⟨gs_gv_KI hac hc3 h hn he, gs_gv_grow hc3 h hn ht he⟩
  unfold gs_go
  split
  · exact ⟨h, Or.inl rfl⟩
  · split
    · exact one _ (hx n)
    · split
      · have a := one _ (hx n)
        have he2 : gs_gv ak av ac kv n (ex n) (4 * n) ≠ 0 := by
          rcases a.1.2 n hn with z | z
          · by_cases q : n = ex n
            · have hall : ∀ v, v < 4 → kv (4 * n + v) ≠ 0 := by
                rcases h.2 n hn with z | z
                · exact absurd (z 0 (by omega)) he
                · exact z
              have hp := gs_md_pos (av := av) hc3 (v := 0) (by omega) hall
              have hg := gs_gv_c (ak := ak) (av := av) (ac := ac) kv n n 0 (by omega)
              have z0 := z 0 (by omega)
              rw [← q, hg] at z0
              unfold gs_jn at z0
              split at z0 <;> omega
            · have := gs_gv_o (ak := ak) (av := av) (ac := ac) kv n (ex n) n 0 (by omega) q
              exact fun w => he (this.symm.trans w)
          · exact z 0 (by omega)
        have b1 := gs_gv_KI (av := av) (t := ey n) hac hc3 a.1 hn he2
        have b2 := gs_gv_grow (av := av) (t := ey n) hc3 a.1 hn (hy n) he2
        refine ⟨b1, ?_⟩
        rcases b2 with b2 | b2
        · rw [b2]
          exact a.2
        · rcases a.2 with a2 | a2
          · right
            rw [a2] at b2 ⊢
            exact b2
          · right
            omega
      · split
        · exact one _ (hx n)
        · exact one _ (hy n)
theorem gs_ks1_ok (hac : ∀ n, ac n < 16) (hc3 : ∀ n, ak n = 3 → ac n < 4) (hx : ∀ n, ex n < 16) (hy : ∀ n, ey n < 16) {kv : Nat → Nat} (h : gs_KI kv) : ∀ m, m ≤ 16 → gs_KI (gs_ks1 ak av ac ek ev ex ey kv m) ∧ (gs_ks1 ak av ac ek ev ex ey kv m = kv ∨ gs_kc kv < gs_kc (gs_ks1 ak av ac ek ev ex ey kv m))
  | 0, _ => ⟨h, Or.inl rfl⟩
  | m + 1, hm => by
    have ih := gs_ks1_ok hac hc3 hx hy h m (by omega)
    unfold gs_ks1
    split
    · exact ih
    · rename_i z
      have g := gs_go_ok (ek := ek) (ev := ev) (av := av) hac hc3 hx hy ih.1 (n := m) (by omega) z
      refine ⟨g.1, ?_⟩
      rcases g.2 with g2 | g2
      · rw [g2]
        exact ih.2
      · rcases ih.2 with i2 | i2
        · right
          rw [i2] at g2 ⊢
          exact g2
        · right
          omega
theorem gs_k0_KI : gs_KI gs_k0 := by
  refine ⟨fun i => ?_, fun n hn => ?_⟩
  · unfold gs_k0
    split <;> omega
  · unfold gs_k0
    by_cases z : n = 0
    · right
      intro v hv
      rw [if_pos (by omega)]
      omega
    · left
      intro v hv
      rw [if_neg (by omega)]
theorem gs_kit_KI (hac : ∀ n, ac n < 16) (hc3 : ∀ n, ak n = 3 → ac n < 4) (hx : ∀ n, ex n < 16) (hy : ∀ n, ey n < 16) (i : Nat) : gs_KI (gs_it (gs_ks ak av ac ek ev ex ey) i gs_k0) :=
  gs_it_inv (f := gs_ks ak av ac ek ev ex ey) gs_KI (fun x hx' => (gs_ks1_ok hac hc3 hx hy hx' 16 (by omega)).1) i gs_k0 gs_k0_KI
theorem gs_kF_fix (hac : ∀ n, ac n < 16) (hc3 : ∀ n, ak n = 3 → ac n < 4) (hx : ∀ n, ex n < 16) (hy : ∀ n, ey n < 16) : gs_ks ak av ac ek ev ex ey (gs_kF ak av ac ek ev ex ey) = gs_kF ak av ac ek ev ex ey := by
  rw [gs_kF_eq]
  exact gs_fx (gs_ks ak av ac ek ev ex ey) gs_KI gs_kc 80 (fun x hx' => (gs_ks1_ok hac hc3 hx hy hx' 16 (by omega)).1) (fun x _ => gs_kc_le x) (fun x hx' hne => ((gs_ks1_ok hac hc3 hx hy hx' 16 (by omega)).2).elim (fun z => absurd z hne) id) 81 gs_k0 gs_k0_KI (by omega)
theorem gs_kF_end (hac : ∀ n, ac n < 16) (hc3 : ∀ n, ak n = 3 → ac n < 4) (hx : ∀ n, ex n < 16) (hy : ∀ n, ey n < 16) {i : Nat} (h : gs_ks ak av ac ek ev ex ey (gs_it (gs_ks ak av ac ek ev ex ey) i gs_k0) = gs_it (gs_ks ak av ac ek ev ex ey) i gs_k0) : gs_it (gs_ks ak av ac ek ev ex ey) i gs_k0 = gs_kF ak av ac ek ev ex ey := by
  rcases Nat.le_total i 81 with z | z
  · have e : gs_kF ak av ac ek ev ex ey = gs_it (gs_ks ak av ac ek ev ex ey) ((81 - i) + i) gs_k0 := by rw [show 81 - i + i = 81 by omega]; exact gs_kF_eq ak av ac ek ev ex ey
    rw [e, gs_it_add, gs_it_fix h]
  · have e : gs_it (gs_ks ak av ac ek ev ex ey) i gs_k0 = gs_it (gs_ks ak av ac ek ev ex ey) ((i - 81) + 81) gs_k0 := by rw [show i - 81 + 81 = i by omega]
    rw [e, gs_it_add, ← gs_kF_eq]
    exact gs_it_fix (gs_kF_fix hac hc3 hx hy) _
end
end
section
/-! X: has, successor, reach, links -/
theorem gx_x16 : (16 : Int32) ≤ nI 16 := by decide
theorem gx_16 {i : Nat} (h : i < 16) : ¬ (16 : Int32) ≤ nI i := nI_ge (b := 16) h (by decide)
theorem gx_in {i : Nat} (h : i < 16) : vp_in (nI i) 16 := vp_in_nI h (by decide)
theorem gx_cl {i : Nat} (h : i < 16) : (nI i).toNatClampNeg = i := nI_clamp (by omega)
theorem gx_hb {A B : Prop} {m : Int32} {s : Nat} (hs : s < 16) (ht : bt m s = true → B) (hf : bt m s = false → A) : wpX_has (fun r => (r = 0 → A) ∧ (¬ r = 0 → B)) m (nI s) := by
  refine ⟨fun h => br_t rfl (hf ((gs_has m (by omega)).mp h)), fun h => br_f (by decide) (ht ?_)⟩
  rw [gs_has m (by omega)] at h
  cases z : bt m s
  · exact absurd z h
  · rfl
theorem gx_hm {A B : Prop} {P : Nat → Prop} {m : Int32} {s : Nat} (hM : gs_Mk m P) (hs : s < 16) (ht : P s → B) (hf : ¬ P s → A) : wpX_has (fun r => (r = 0 → A) ∧ (¬ r = 0 → B)) m (nI s) :=
  gx_hb hs (fun h => ht ((gs_Mk_t hM hs).mp h)) (fun h => hf (fun z => by rw [(gs_Mk_t hM hs).mpr z] at h; exact nomatch h))
theorem gx_hma {A B : Prop} {P : Nat → Nat → Prop} {a : Nat → Int32} {i s : Nat} (hM : ∀ i, i < 16 → gs_Mk (a i) (P i)) (hi : i < 16) (hs : s < 16) (ht : P i s → B) (hf : ¬ P i s → A) : wpX_has (fun r => (r = 0 → A) ∧ (¬ r = 0 → B)) (a (nI i).toNatClampNeg) (nI s) := by
  rw [gx_cl hi]
  exact gx_hm (hM i hi) hs ht hf
theorem gs_sw1_t {so : Int32} {e : Nat → Int32} {r : Int32} {n : Nat} (h : bt so n = true ∨ bt (gs_sw1 so e r n) n = true) : gs_sw1 so e r (n + 1) = gs_sw1 so e r n ||| e n := if_pos h
theorem gs_sw1_f {so : Int32} {e : Nat → Int32} {r : Int32} {n : Nat} (h1 : bt so n = false) (h2 : bt (gs_sw1 so e r n) n = false) : gs_sw1 so e r (n + 1) = gs_sw1 so e r n :=
  if_neg (fun z => z.elim (fun z => by rw [h1] at z; exact nomatch z) (fun z => by rw [h2] at z; exact nomatch z))
theorem pk_loop {σ : Type} (W : Nat → Nat → σ → Prop) (I : Nat → σ → Prop) (e i0 : Nat) (s : σ) (hi : i0 ≤ e) (h0 : I i0 s) (hx : ∀ n s, I e s → W (n + 1) e s)
    (hs : ∀ n i s, i < e → I i s → (∀ s', I (i + 1) s' → W n (i + 1) s') → W (n + 1) i s) : ∃ n, W n i0 s :=
  ⟨e + 1, loop_i W I e hx hs (e + 1) i0 s hi (by omega) h0⟩
/-- the ends as X holds them -/
def gx_GE (ek ex ey : Nat → Nat) (a_endKind a_endX a_endY : Nat → Int32) : Prop :=
  (∀ n, ek n ≤ 2) ∧ (∀ n, ex n < 16) ∧ (∀ n, ey n < 16) ∧ (∀ n, a_endKind n = nI (ek n)) ∧ (∀ n, a_endX n = nI (ex n)) ∧ (∀ n, a_endY n = nI (ey n))
section
variable {f_stale f_seen f_seenCount f_isStraight f_meetings f_codeCount f_taskCount f_hasRun f_toldCount f_lastNode f_hasStopped : Int32} {f_inputLeft : Int64} {a_actKind a_actVariable a_actOperand a_endKind a_endVariable a_endX a_endY a_path a_pathSide a_leaving a_numberOf a_nodeAt a_successors a_predecessors a_before a_behind a_loop a_liveAt a_knownAt a_code a_task a_variable a_latestTold : Nat → Int32} {ek ex ey : Nat → Nat}
theorem gx_succ {post : Int32 → Prop} {n k : Nat} (GE : gx_GE ek ex ey a_endKind a_endX a_endY) (hn : n < 16) (hk : k < 2) (h1 : ∀ s, s < 16 → gs_sc ek ex ey n k = some s → post (nI s)) (h0 : gs_sc ek ex ey n k = none → post (-1)) : wpX_successor post (f_stale, f_seen, f_seenCount, f_isStraight, f_meetings, f_codeCount, f_taskCount, f_hasRun, f_inputLeft, f_toldCount, f_lastNode, f_hasStopped, a_actKind, a_actVariable, a_actOperand, a_endKind, a_endVariable, a_endX, a_endY, a_path, a_pathSide, a_leaving, a_numberOf, a_nodeAt, a_successors, a_predecessors, a_before, a_behind, a_loop, a_liveAt, a_knownAt, a_code, a_task, a_variable, a_latestTold) (nI n) (nI k) := by
  obtain ⟨g1, g2, g3, g4, g5, g6⟩ := GE
  unfold wpX_successor
  simp only [gx_cl hn, g4, g5, g6]
  have k0 : (nI k = 0) ↔ k = 0 := nI_eq (b := 0) (by omega) (by decide)
  have e2 : (nI (ek n) = 2) ↔ ek n = 2 := nI_eq (b := 2) (by have := g1 n; omega) (by decide)
  have e1 : (nI (ek n) = 1) ↔ ek n = 1 := nI_eq (b := 1) (by have := g1 n; omega) (by decide)
  unfold gs_sc at h1 h0
  refine ⟨gx_in hn, br_c (fun z => ?_) (fun z => ⟨gx_in hn, br_c (fun y => ?_) (fun y => ?_)⟩)⟩
  · rw [e2] at z
    rw [if_pos z] at h1 h0
    refine br_c (fun w => ⟨gx_in hn, ?_⟩) (fun w => ⟨gx_in hn, ?_⟩)
    · rw [k0] at w
      exact h1 _ (g2 n) (if_pos w)
    · rw [k0] at w
      exact h1 _ (g3 n) (if_neg w)
  · rw [e2] at z
    rw [e1] at y
    rw [if_neg z] at h1 h0
    refine br_c (fun w => ⟨gx_in hn, ?_⟩) (fun w => ?_)
    · rw [k0] at w
      exact h1 _ (g2 n) (if_pos ⟨y, w⟩)
    · rw [k0] at w
      exact h0 (if_neg (fun q => w q.2))
  · rw [e2] at z
    rw [e1] at y
    rw [if_neg z] at h1 h0
    exact h0 (if_neg (fun q => y q.1))
theorem gx_reach_successors_19 {post : Int32 → Prop} {J9 : Int32 → Int32 → Prop} {x2 x4 r : Int32} (h : J9 (gs_sw 0 (fun n => a_successors n &&& (x2 ^^^ (-1))) r) (x4 + 1)) : ∃ n, wX_reach__successors_19 post J9 x2 x4 f_stale f_seen f_seenCount f_isStraight f_meetings f_codeCount f_taskCount f_hasRun f_inputLeft f_toldCount f_lastNode f_hasStopped a_actKind a_actVariable a_actOperand a_endKind a_endVariable a_endX a_endY a_path a_pathSide a_leaving a_numberOf a_nodeAt a_successors a_predecessors a_before a_behind a_loop a_liveAt a_knownAt a_code a_task a_variable a_latestTold n r 0 := by
  refine pk_loop (fun n i s => wX_reach__successors_19 post J9 x2 x4 f_stale f_seen f_seenCount f_isStraight f_meetings f_codeCount f_taskCount f_hasRun f_inputLeft f_toldCount f_lastNode f_hasStopped a_actKind a_actVariable a_actOperand a_endKind a_endVariable a_endX a_endY a_path a_pathSide a_leaving a_numberOf a_nodeAt a_successors a_predecessors a_before a_behind a_loop a_liveAt a_knownAt a_code a_task a_variable a_latestTold n s (nI i)) (fun i s => s = gs_sw1 0 (fun n => a_successors n &&& (x2 ^^^ (-1))) r i) 16 0 r (by omega) rfl ?_ ?_
  · rintro n s rfl
    exact br_t gx_x16 (nm_e h)
  · rintro n i s hi rfl ih
    refine br_f (gx_16 hi) (gx_hb hi (fun hb => ?_) (fun hb => ?_))
    · refine ⟨gx_in hi, nm_r (e' := gs_sw1 0 (fun n => a_successors n &&& (x2 ^^^ (-1))) r (i + 1)) ?_ (nm_r (nI_1 i) (ih _ rfl))⟩
      rw [gx_cl hi]
      exact (gs_sw1_t (Or.inr hb)).symm
    · exact nm_r (nI_1 i) (ih _ (gs_sw1_f (b_0 i) hb).symm)
theorem gx_reach_successors_9 {post : Int32 → Prop} {x2 r : Int32} (h : post (gs_it (gs_sw 0 (fun n => a_successors n &&& (x2 ^^^ (-1)))) 15 r)) : ∃ n, wX_reach__successors_9 post x2 f_stale f_seen f_seenCount f_isStraight f_meetings f_codeCount f_taskCount f_hasRun f_inputLeft f_toldCount f_lastNode f_hasStopped a_actKind a_actVariable a_actOperand a_endKind a_endVariable a_endX a_endY a_path a_pathSide a_leaving a_numberOf a_nodeAt a_successors a_predecessors a_before a_behind a_loop a_liveAt a_knownAt a_code a_task a_variable a_latestTold n r 1 := by
  refine pk_loop (fun n i s => wX_reach__successors_9 post x2 f_stale f_seen f_seenCount f_isStraight f_meetings f_codeCount f_taskCount f_hasRun f_inputLeft f_toldCount f_lastNode f_hasStopped a_actKind a_actVariable a_actOperand a_endKind a_endVariable a_endX a_endY a_path a_pathSide a_leaving a_numberOf a_nodeAt a_successors a_predecessors a_before a_behind a_loop a_liveAt a_knownAt a_code a_task a_variable a_latestTold n s (nI i)) (fun i s => 1 ≤ i ∧ s = gs_it (gs_sw 0 (fun n => a_successors n &&& (x2 ^^^ (-1)))) (i - 1) r) 16 1 r (by omega) ⟨by omega, rfl⟩ ?_ ?_
  · rintro n s ⟨_, rfl⟩
    exact br_t gx_x16 h
  · rintro n i s hi ⟨h1, rfl⟩ ih
    refine br_f (gx_16 hi) (gx_reach_successors_19 ?_)
    rw [nI_1]
    refine ih _ ⟨by omega, ?_⟩
    obtain ⟨j, rfl⟩ : ∃ j, i = j + 1 := ⟨i - 1, by omega⟩
    exact (gs_it_s _ j r).symm
theorem gx_reach_successors {post : Int32 → Prop} {p1 p2 : Int32} (h : post (gs_rch a_successors p1 p2)) : wpX_reach__successors post (f_stale, f_seen, f_seenCount, f_isStraight, f_meetings, f_codeCount, f_taskCount, f_hasRun, f_inputLeft, f_toldCount, f_lastNode, f_hasStopped, a_actKind, a_actVariable, a_actOperand, a_endKind, a_endVariable, a_endX, a_endY, a_path, a_pathSide, a_leaving, a_numberOf, a_nodeAt, a_successors, a_predecessors, a_before, a_behind, a_loop, a_liveAt, a_knownAt, a_code, a_task, a_variable, a_latestTold) p1 p2 :=
  nm_e (gx_reach_successors_9 h)
theorem gx_reach_predecessors_19 {post : Int32 → Prop} {J9 : Int32 → Int32 → Prop} {x2 x4 r : Int32} (h : J9 (gs_sw 0 (fun n => a_predecessors n &&& (x2 ^^^ (-1))) r) (x4 + 1)) : ∃ n, wX_reach__predecessors_19 post J9 x2 x4 f_stale f_seen f_seenCount f_isStraight f_meetings f_codeCount f_taskCount f_hasRun f_inputLeft f_toldCount f_lastNode f_hasStopped a_actKind a_actVariable a_actOperand a_endKind a_endVariable a_endX a_endY a_path a_pathSide a_leaving a_numberOf a_nodeAt a_successors a_predecessors a_before a_behind a_loop a_liveAt a_knownAt a_code a_task a_variable a_latestTold n r 0 := by
  refine pk_loop (fun n i s => wX_reach__predecessors_19 post J9 x2 x4 f_stale f_seen f_seenCount f_isStraight f_meetings f_codeCount f_taskCount f_hasRun f_inputLeft f_toldCount f_lastNode f_hasStopped a_actKind a_actVariable a_actOperand a_endKind a_endVariable a_endX a_endY a_path a_pathSide a_leaving a_numberOf a_nodeAt a_successors a_predecessors a_before a_behind a_loop a_liveAt a_knownAt a_code a_task a_variable a_latestTold n s (nI i)) (fun i s => s = gs_sw1 0 (fun n => a_predecessors n &&& (x2 ^^^ (-1))) r i) 16 0 r (by omega) rfl ?_ ?_
  · rintro n s rfl
    exact br_t gx_x16 (nm_e h)
  · rintro n i s hi rfl ih
    refine br_f (gx_16 hi) (gx_hb hi (fun hb => ?_) (fun hb => ?_))
    · refine ⟨gx_in hi, nm_r (e' := gs_sw1 0 (fun n => a_predecessors n &&& (x2 ^^^ (-1))) r (i + 1)) ?_ (nm_r (nI_1 i) (ih _ rfl))⟩
      rw [gx_cl hi]
      exact (gs_sw1_t (Or.inr hb)).symm
    · exact nm_r (nI_1 i) (ih _ (gs_sw1_f (b_0 i) hb).symm)
theorem gx_reach_predecessors_9 {post : Int32 → Prop} {x2 r : Int32} (h : post (gs_it (gs_sw 0 (fun n => a_predecessors n &&& (x2 ^^^ (-1)))) 15 r)) : ∃ n, wX_reach__predecessors_9 post x2 f_stale f_seen f_seenCount f_isStraight f_meetings f_codeCount f_taskCount f_hasRun f_inputLeft f_toldCount f_lastNode f_hasStopped a_actKind a_actVariable a_actOperand a_endKind a_endVariable a_endX a_endY a_path a_pathSide a_leaving a_numberOf a_nodeAt a_successors a_predecessors a_before a_behind a_loop a_liveAt a_knownAt a_code a_task a_variable a_latestTold n r 1 := by
  refine pk_loop (fun n i s => wX_reach__predecessors_9 post x2 f_stale f_seen f_seenCount f_isStraight f_meetings f_codeCount f_taskCount f_hasRun f_inputLeft f_toldCount f_lastNode f_hasStopped a_actKind a_actVariable a_actOperand a_endKind a_endVariable a_endX a_endY a_path a_pathSide a_leaving a_numberOf a_nodeAt a_successors a_predecessors a_before a_behind a_loop a_liveAt a_knownAt a_code a_task a_variable a_latestTold n s (nI i)) (fun i s => 1 ≤ i ∧ s = gs_it (gs_sw 0 (fun n => a_predecessors n &&& (x2 ^^^ (-1)))) (i - 1) r) 16 1 r (by omega) ⟨by omega, rfl⟩ ?_ ?_
  · rintro n s ⟨_, rfl⟩
    exact br_t gx_x16 h
  · rintro n i s hi ⟨h1, rfl⟩ ih
    refine br_f (gx_16 hi) (gx_reach_predecessors_19 ?_)
    rw [nI_1]
    refine ih _ ⟨by omega, ?_⟩
    obtain ⟨j, rfl⟩ : ∃ j, i = j + 1 := ⟨i - 1, by omega⟩
    exact (gs_it_s _ j r).symm
theorem gx_reach_predecessors {post : Int32 → Prop} {p1 p2 : Int32} (h : post (gs_rch a_predecessors p1 p2)) : wpX_reach__predecessors post (f_stale, f_seen, f_seenCount, f_isStraight, f_meetings, f_codeCount, f_taskCount, f_hasRun, f_inputLeft, f_toldCount, f_lastNode, f_hasStopped, a_actKind, a_actVariable, a_actOperand, a_endKind, a_endVariable, a_endX, a_endY, a_path, a_pathSide, a_leaving, a_numberOf, a_nodeAt, a_successors, a_predecessors, a_before, a_behind, a_loop, a_liveAt, a_knownAt, a_code, a_task, a_variable, a_latestTold) p1 p2 :=
  nm_e (gx_reach_predecessors_9 h)
end
end
section
/-! X: the links, the STOPs, the cuts -/
theorem gs_Mk_c {r : Int32} {P Q : Nat → Prop} (h : gs_Mk r P) (e : ∀ i, i < 16 → (P i ↔ Q i)) : gs_Mk r Q := gs_Mk_iff h e
section
variable {f_stale f_seen f_seenCount f_isStraight f_meetings f_codeCount f_taskCount f_hasRun f_toldCount f_lastNode f_hasStopped : Int32} {f_inputLeft : Int64} {a_actKind a_actVariable a_actOperand a_endKind a_endVariable a_endX a_endY a_path a_pathSide a_leaving a_numberOf a_nodeAt a_successors a_predecessors a_before a_behind a_loop a_liveAt a_knownAt a_code a_task a_variable a_latestTold : Nat → Int32} {ek ex ey : Nat → Nat}
/-- what the links hold while the sides below k of node n are linked -/
def gx_LI (ek ex ey : Nat → Nat) (n k : Nat) (su pr : Nat → Int32) : Prop :=
  (∀ j, j < 16 → gs_Mk (su j) (fun s => gs_sn ek ex ey j = true ∧ ((j < n ∧ gs_E ek ex ey j s) ∨ (j = n ∧ ∃ k', k' < k ∧ gs_sc ek ex ey j k' = some s)))) ∧
  (∀ s, s < 16 → gs_Mk (pr s) (fun j => gs_sn ek ex ey j = true ∧ ((j < n ∧ gs_E ek ex ey j s) ∨ (j = n ∧ ∃ k', k' < k ∧ gs_sc ek ex ey j k' = some s))))
theorem gx_LI_next {n : Nat} {su pr : Nat → Int32} (h : gx_LI ek ex ey n 2 su pr) : gx_LI ek ex ey (n + 1) 0 su pr := by
  have key : ∀ j s, (gs_sn ek ex ey j = true ∧ ((j < n ∧ gs_E ek ex ey j s) ∨ (j = n ∧ ∃ k', k' < 2 ∧ gs_sc ek ex ey j k' = some s))) ↔ (gs_sn ek ex ey j = true ∧ ((j < n + 1 ∧ gs_E ek ex ey j s) ∨ (j = n + 1 ∧ ∃ k', k' < 0 ∧ gs_sc ek ex ey j k' = some s))) := by
    intro j s
    constructor
    · rintro ⟨h1, ⟨h2, h3⟩ | ⟨h2, h3⟩⟩
      · exact ⟨h1, Or.inl ⟨by omega, h3⟩⟩
      · exact ⟨h1, Or.inl ⟨by omega, (gs_E_sc ek ex ey).mpr h3⟩⟩
    · rintro ⟨h1, ⟨h2, h3⟩ | ⟨h2, k', h3, _⟩⟩
      · by_cases e : j = n
        · exact ⟨h1, Or.inr ⟨e, (gs_E_sc ek ex ey).mp h3⟩⟩
        · exact ⟨h1, Or.inl ⟨by omega, h3⟩⟩
      · omega
  exact ⟨fun j hj => gs_Mk_iff (h.1 j hj) (fun s _ => key j s), fun s hs => gs_Mk_iff (h.2 s hs) (fun j _ => key j s)⟩
theorem gx_LI_skip {n k : Nat} {su pr : Nat → Int32} (h : gx_LI ek ex ey n k su pr) (hs : gs_sn ek ex ey n = true → gs_sc ek ex ey n k = none) : gx_LI ek ex ey n (k + 1) su pr := by
  have key : ∀ j s, (gs_sn ek ex ey j = true ∧ ((j < n ∧ gs_E ek ex ey j s) ∨ (j = n ∧ ∃ k', k' < k ∧ gs_sc ek ex ey j k' = some s))) ↔ (gs_sn ek ex ey j = true ∧ ((j < n ∧ gs_E ek ex ey j s) ∨ (j = n ∧ ∃ k', k' < k + 1 ∧ gs_sc ek ex ey j k' = some s))) := by
    intro j s
    constructor
    · rintro ⟨h1, h2 | ⟨h2, k', h3, h4⟩⟩
      · exact ⟨h1, Or.inl h2⟩
      · exact ⟨h1, Or.inr ⟨h2, k', by omega, h4⟩⟩
    · rintro ⟨h1, h2 | ⟨h2, k', h3, h4⟩⟩
      · exact ⟨h1, Or.inl h2⟩
      · by_cases e : k' = k
        · subst e
          subst h2
          rw [hs h1] at h4
          exact nomatch h4
        · exact ⟨h1, Or.inr ⟨h2, k', by omega, h4⟩⟩
  exact ⟨fun j hj => gs_Mk_iff (h.1 j hj) (fun s _ => key j s), fun s hs => gs_Mk_iff (h.2 s hs) (fun j _ => key j s)⟩
theorem gx_LI_put {n k t : Nat} {su pr : Nat → Int32} (h : gx_LI ek ex ey n k su pr) (hn : n < 16) (ht : t < 16) (h1 : gs_sn ek ex ey n = true) (h2 : gs_sc ek ex ey n k = some t) : gx_LI ek ex ey n (k + 1) (upd su n (su n ||| ((1 : Int32) <<< (nI t &&& 31)))) (upd pr t (pr t ||| ((1 : Int32) <<< (nI n &&& 31)))) := by
  constructor
  · intro j hj
    by_cases e : j = n
    · subst e
      rw [pk_us]
      apply gs_Mk_iff (gs_Mk_set (h.1 j hj) ht)
      intro s _
      constructor
      · rintro (⟨q1, q2 | ⟨q2, k', q3, q4⟩⟩ | rfl)
        · exact ⟨q1, Or.inl q2⟩
        · exact ⟨q1, Or.inr ⟨q2, k', by omega, q4⟩⟩
        · exact ⟨h1, Or.inr ⟨rfl, k, by omega, h2⟩⟩
      · rintro ⟨q1, q2 | ⟨q2, k', q3, q4⟩⟩
        · exact Or.inl ⟨q1, Or.inl q2⟩
        · by_cases e : k' = k
          · subst e
            exact Or.inr (Option.some.inj (q4.symm.trans h2))
          · exact Or.inl ⟨q1, Or.inr ⟨q2, k', by omega, q4⟩⟩
    · rw [pk_un e]
      apply gs_Mk_iff (h.1 j hj)
      intro s _
      constructor
      · rintro ⟨q1, q2 | ⟨q2, _⟩⟩
        · exact ⟨q1, Or.inl q2⟩
        · exact absurd q2 e
      · rintro ⟨q1, q2 | ⟨q2, _⟩⟩
        · exact ⟨q1, Or.inl q2⟩
        · exact absurd q2 e
  · intro s hs
    by_cases e : s = t
    · subst e
      rw [pk_us]
      apply gs_Mk_iff (gs_Mk_set (h.2 s hs) hn)
      intro j _
      constructor
      · rintro (⟨q1, q2 | ⟨q2, k', q3, q4⟩⟩ | rfl)
        · exact ⟨q1, Or.inl q2⟩
        · exact ⟨q1, Or.inr ⟨q2, k', by omega, q4⟩⟩
        · exact ⟨h1, Or.inr ⟨rfl, k, by omega, h2⟩⟩
      · rintro ⟨q1, q2 | ⟨q2, k', q3, q4⟩⟩
        · exact Or.inl ⟨q1, Or.inl q2⟩
        · exact Or.inr q2
    · rw [pk_un e]
      apply gs_Mk_iff (h.2 s hs)
      intro j _
      constructor
      · rintro ⟨q1, q2 | ⟨q2, k', q3, q4⟩⟩
        · exact ⟨q1, Or.inl q2⟩
        · exact ⟨q1, Or.inr ⟨q2, k', by omega, q4⟩⟩
      · rintro ⟨q1, q2 | ⟨q2, k', q3, q4⟩⟩
        · exact ⟨q1, Or.inl q2⟩
        · by_cases w : k' = k
          · subst w
            subst q2
            exact absurd (Option.some.inj (q4.symm.trans h2)) e
          · exact ⟨q1, Or.inr ⟨q2, k', by omega, q4⟩⟩
/-- the links as they shall be -/
def gx_LK (ek ex ey : Nat → Nat) (su pr : Nat → Int32) : Prop :=
  (∀ j, j < 16 → gs_Mk (su j) (fun s => gs_sn ek ex ey j = true ∧ gs_E ek ex ey j s)) ∧ (∀ s, s < 16 → gs_Mk (pr s) (fun j => gs_sn ek ex ey j = true ∧ gs_E ek ex ey j s))
theorem gx_LI_end {su pr : Nat → Int32} (h : gx_LI ek ex ey 16 0 su pr) : gx_LK ek ex ey su pr := by
  refine ⟨fun j hj => gs_Mk_iff (h.1 j hj) (fun s _ => ?_), fun s hs => gs_Mk_iff (h.2 s hs) (fun j hj => ?_)⟩
  · constructor
    · rintro ⟨q1, ⟨_, q2⟩ | ⟨q2, _⟩⟩
      · exact ⟨q1, q2⟩
      · omega
    · exact fun ⟨q1, q2⟩ => ⟨q1, Or.inl ⟨hj, q2⟩⟩
  · constructor
    · rintro ⟨q1, ⟨_, q2⟩ | ⟨q2, _⟩⟩
      · exact ⟨q1, q2⟩
      · omega
    · exact fun ⟨q1, q2⟩ => ⟨q1, Or.inl ⟨hj, q2⟩⟩
theorem gx_link_38 {post : SX → Prop} {J30 : Int32 → (Nat → Int32) → (Nat → Int32) → (Nat → Int32) → (Nat → Int32) → (Nat → Int32) → (Nat → Int32) → (Nat → Int32) → (Nat → Int32) → (Nat → Int32) → (Nat → Int32) → (Nat → Int32) → (Nat → Int32) → (Nat → Int32) → (Nat → Int32) → (Nat → Int32) → (Nat → Int32) → (Nat → Int32) → (Nat → Int32) → (Nat → Int32) → (Nat → Int32) → (Nat → Int32) → (Nat → Int32) → (Nat → Int32) → Prop} {n : Nat} {su pr : Nat → Int32} (GE : gx_GE ek ex ey a_endKind a_endX a_endY) (hsn : gs_Mk f_seen (fun i => gs_sn ek ex ey i = true)) (hn : n < 16) (h0 : gx_LI ek ex ey n 0 su pr)
    (h : ∀ su' pr', gx_LI ek ex ey (n + 1) 0 su' pr' → J30 (nI (n + 1)) a_actKind a_actVariable a_actOperand a_endKind a_endVariable a_endX a_endY a_path a_pathSide a_leaving a_numberOf a_nodeAt su' pr' a_before a_behind a_loop a_liveAt a_knownAt a_code a_task a_variable a_latestTold) : ∃ m, wX_linkNodes_38 post J30 (nI n) f_stale f_seen f_seenCount f_isStraight f_meetings f_codeCount f_taskCount f_hasRun f_inputLeft f_toldCount f_lastNode f_hasStopped m 0 a_actKind a_actVariable a_actOperand a_endKind a_endVariable a_endX a_endY a_path a_pathSide a_leaving a_numberOf a_nodeAt su pr a_before a_behind a_loop a_liveAt a_knownAt a_code a_task a_variable a_latestTold := by
  refine pk_loop (fun m i (s : (Nat → Int32) × (Nat → Int32)) => wX_linkNodes_38 post J30 (nI n) f_stale f_seen f_seenCount f_isStraight f_meetings f_codeCount f_taskCount f_hasRun f_inputLeft f_toldCount f_lastNode f_hasStopped m (nI i) a_actKind a_actVariable a_actOperand a_endKind a_endVariable a_endX a_endY a_path a_pathSide a_leaving a_numberOf a_nodeAt s.1 s.2 a_before a_behind a_loop a_liveAt a_knownAt a_code a_task a_variable a_latestTold) (fun i s => gx_LI ek ex ey n i s.1 s.2) 2 0 (su, pr) (by omega) h0 ?_ ?_
  · rintro m s hI
    exact br_t (by decide) (nm_r (nI_1 n) (h _ _ (gx_LI_next hI)))
  · rintro m i s hi hI ih
    refine br_f (nI_ge (b := 2) hi (by decide)) (gx_succ GE hn hi (fun t ht hs => ?_) (fun hs => ?_))
    · refine gx_hm hsn hn (fun q => ?_) (fun q => ?_)
      · refine br_f (fun z => ?_) ?_
        · have := nI_pos (n := t) (by omega)
          rw [z] at this
          exact this (by decide)
        · refine ⟨gx_in hn, gx_in hn, nm_r (e' := upd s.1 n (s.1 n ||| ((1 : Int32) <<< (nI t &&& 31)))) (by rw [gx_cl hn]) ⟨gx_in ht, gx_in ht, nm_r (e' := upd s.2 t (s.2 t ||| ((1 : Int32) <<< (nI n &&& 31)))) (by rw [gx_cl ht]) (nm_r (nI_1 i) ?_)⟩⟩
          exact ih (_, _) (gx_LI_put hI hn ht q hs)
      · exact nm_r (nI_1 i) (ih s (gx_LI_skip hI (fun w => absurd w q)))
    · refine gx_hm hsn hn (fun q => ?_) (fun q => ?_)
      · exact br_t rfl (nm_r (nI_1 i) (ih s (gx_LI_skip hI (fun _ => hs))))
      · exact nm_r (nI_1 i) (ih s (gx_LI_skip hI (fun w => absurd w q)))
theorem gx_link_30 {post : SX → Prop} {su pr : Nat → Int32} (GE : gx_GE ek ex ey a_endKind a_endX a_endY) (hsn : gs_Mk f_seen (fun i => gs_sn ek ex ey i = true)) (h0 : gx_LI ek ex ey 0 0 su pr)
    (h : ∀ su' pr', gx_LK ek ex ey su' pr' → post (f_stale, f_seen, f_seenCount, f_isStraight, f_meetings, f_codeCount, f_taskCount, f_hasRun, f_inputLeft, f_toldCount, f_lastNode, f_hasStopped, a_actKind, a_actVariable, a_actOperand, a_endKind, a_endVariable, a_endX, a_endY, a_path, a_pathSide, a_leaving, a_numberOf, a_nodeAt, su', pr', a_before, a_behind, a_loop, a_liveAt, a_knownAt, a_code, a_task, a_variable, a_latestTold)) : ∃ m, wX_linkNodes_30 post f_stale f_seen f_seenCount f_isStraight f_meetings f_codeCount f_taskCount f_hasRun f_inputLeft f_toldCount f_lastNode f_hasStopped m 0 a_actKind a_actVariable a_actOperand a_endKind a_endVariable a_endX a_endY a_path a_pathSide a_leaving a_numberOf a_nodeAt su pr a_before a_behind a_loop a_liveAt a_knownAt a_code a_task a_variable a_latestTold := by
  refine pk_loop (fun m i (s : (Nat → Int32) × (Nat → Int32)) => wX_linkNodes_30 post f_stale f_seen f_seenCount f_isStraight f_meetings f_codeCount f_taskCount f_hasRun f_inputLeft f_toldCount f_lastNode f_hasStopped m (nI i) a_actKind a_actVariable a_actOperand a_endKind a_endVariable a_endX a_endY a_path a_pathSide a_leaving a_numberOf a_nodeAt s.1 s.2 a_before a_behind a_loop a_liveAt a_knownAt a_code a_task a_variable a_latestTold) (fun i s => gx_LI ek ex ey i 0 s.1 s.2) 16 0 (su, pr) (by omega) h0 ?_ ?_
  · rintro m s hI
    exact br_t gx_x16 (h _ _ (gx_LI_end hI))
  · rintro m i s hi hI ih
    exact br_f (gx_16 hi) (gx_link_38 GE hsn hi hI (fun su' pr' hI' => ih (su', pr') hI'))
theorem gx_link {post : SX → Prop} (GE : gx_GE ek ex ey a_endKind a_endX a_endY) (hsn : gs_Mk f_seen (fun i => gs_sn ek ex ey i = true))
    (h : ∀ su' pr', gx_LK ek ex ey su' pr' → post (f_stale, f_seen, f_seenCount, f_isStraight, f_meetings, f_codeCount, f_taskCount, f_hasRun, f_inputLeft, f_toldCount, f_lastNode, f_hasStopped, a_actKind, a_actVariable, a_actOperand, a_endKind, a_endVariable, a_endX, a_endY, a_path, a_pathSide, a_leaving, a_numberOf, a_nodeAt, su', pr', a_before, a_behind, a_loop, a_liveAt, a_knownAt, a_code, a_task, a_variable, a_latestTold)) : wpX_linkNodes post (f_stale, f_seen, f_seenCount, f_isStraight, f_meetings, f_codeCount, f_taskCount, f_hasRun, f_inputLeft, f_toldCount, f_lastNode, f_hasStopped, a_actKind, a_actVariable, a_actOperand, a_endKind, a_endVariable, a_endX, a_endY, a_path, a_pathSide, a_leaving, a_numberOf, a_nodeAt, a_successors, a_predecessors, a_before, a_behind, a_loop, a_liveAt, a_knownAt, a_code, a_task, a_variable, a_latestTold) := by
  refine pk_loop (fun m i (s : (Nat → Int32) × (Nat → Int32)) => wX_linkNodes_2 post f_stale f_seen f_seenCount f_isStraight f_meetings f_codeCount f_taskCount f_hasRun f_inputLeft f_toldCount f_lastNode f_hasStopped m (nI i) a_actKind a_actVariable a_actOperand a_endKind a_endVariable a_endX a_endY a_path a_pathSide a_leaving a_numberOf a_nodeAt s.1 s.2 a_before a_behind a_loop a_liveAt a_knownAt a_code a_task a_variable a_latestTold) (fun i s => ∀ j, j < i → s.1 j = 0 ∧ s.2 j = 0) 16 0 (a_successors, a_predecessors) (by omega) (fun j hj => absurd hj (Nat.not_lt_zero j)) ?_ ?_
  · rintro m s hI
    refine br_t gx_x16 (gx_link_30 GE hsn ⟨fun j hj => ?_, fun j hj => ?_⟩ h)
    · rw [(hI j hj).1]
      apply gs_Mk_0
      rintro i _ ⟨_, ⟨z, _⟩ | ⟨_, _, z, _⟩⟩ <;> omega
    · rw [(hI j hj).2]
      apply gs_Mk_0
      rintro i _ ⟨_, ⟨z, _⟩ | ⟨_, _, z, _⟩⟩ <;> omega
  · rintro m i s hi hI ih
    refine br_f (gx_16 hi) ⟨gx_in hi, nm_r (e' := upd s.1 i 0) (by rw [gx_cl hi]) ⟨gx_in hi, nm_r (e' := upd s.2 i 0) (by rw [gx_cl hi]) (nm_r (nI_1 i) (ih (_, _) (fun j hj => ?_)))⟩⟩
    by_cases e : j = i
    · subst e
      exact ⟨pk_us, pk_us⟩
    · exact ⟨(pk_un e).trans (hI j (by omega)).1, (pk_un e).trans (hI j (by omega)).2⟩
theorem gx_stops {post : Int32 → Prop} (GE : gx_GE ek ex ey a_endKind a_endX a_endY) (hsn : gs_Mk f_seen (fun i => gs_sn ek ex ey i = true))
    (h : ∀ r, gs_Mk r (fun i => gs_sn ek ex ey i = true ∧ ek i = 0) → post r) : wpX_stopNodes post (f_stale, f_seen, f_seenCount, f_isStraight, f_meetings, f_codeCount, f_taskCount, f_hasRun, f_inputLeft, f_toldCount, f_lastNode, f_hasStopped, a_actKind, a_actVariable, a_actOperand, a_endKind, a_endVariable, a_endX, a_endY, a_path, a_pathSide, a_leaving, a_numberOf, a_nodeAt, a_successors, a_predecessors, a_before, a_behind, a_loop, a_liveAt, a_knownAt, a_code, a_task, a_variable, a_latestTold) := by
  refine pk_loop (fun m i s => wX_stopNodes_4 post f_stale f_seen f_seenCount f_isStraight f_meetings f_codeCount f_taskCount f_hasRun f_inputLeft f_toldCount f_lastNode f_hasStopped a_actKind a_actVariable a_actOperand a_endKind a_endVariable a_endX a_endY a_path a_pathSide a_leaving a_numberOf a_nodeAt a_successors a_predecessors a_before a_behind a_loop a_liveAt a_knownAt a_code a_task a_variable a_latestTold m s (nI i)) (fun i s => gs_Mk s (fun j => j < i ∧ gs_sn ek ex ey j = true ∧ ek j = 0)) 16 0 0 (by omega) (gs_Mk_0 (fun i _ z => absurd z.1 (Nat.not_lt_zero i))) ?_ ?_
  · rintro m s hI
    exact br_t gx_x16 (h _ (gs_Mk_iff hI (fun i hi => ⟨fun z => z.2, fun z => ⟨hi, z⟩⟩)))
  · rintro m i s hi hI ih
    obtain ⟨g1, g2, g3, g4, g5, g6⟩ := GE
    have e0 : (a_endKind (nI i).toNatClampNeg = 0) ↔ ek i = 0 := by
      rw [gx_cl hi, g4]
      exact nI_eq (b := 0) (by have := g1 i; omega) (by decide)
    have keep : ¬ (gs_sn ek ex ey i = true ∧ ek i = 0) → gs_Mk s (fun j => j < i + 1 ∧ gs_sn ek ex ey j = true ∧ ek j = 0) := fun q => gs_Mk_iff hI (fun j _ => by
      constructor
      · exact fun ⟨z1, z2⟩ => ⟨by omega, z2⟩
      · rintro ⟨z1, z2⟩
        by_cases e : j = i
        · exact absurd (e ▸ z2) q
        · exact ⟨by omega, z2⟩)
    refine br_f (gx_16 hi) (gx_hm hsn hi (fun q => ⟨gx_in hi, br_c (fun w => ?_) (fun w => ?_)⟩) (fun q => ?_))
    · refine nm_e (nm_r (nI_1 i) (ih _ (gs_Mk_iff (gs_Mk_set hI hi) (fun j _ => ?_))))
      constructor
      · rintro (⟨z1, z2⟩ | rfl)
        · exact ⟨by omega, z2⟩
        · exact ⟨by omega, q, e0.mp w⟩
      · rintro ⟨z1, z2⟩
        by_cases e : j = i
        · exact Or.inr e
        · exact Or.inl ⟨by omega, z2⟩
    · exact nm_r (nI_1 i) (ih s (keep (fun z => w (e0.mpr z.2))))
    · exact nm_r (nI_1 i) (ih s (keep (fun z => q z.1)))
theorem gx_cuts_before_56 {post : SX → Prop} {J31 : Int32 → (Nat → Int32) → (Nat → Int32) → (Nat → Int32) → (Nat → Int32) → (Nat → Int32) → (Nat → Int32) → (Nat → Int32) → (Nat → Int32) → (Nat → Int32) → (Nat → Int32) → (Nat → Int32) → (Nat → Int32) → (Nat → Int32) → (Nat → Int32) → (Nat → Int32) → (Nat → Int32) → (Nat → Int32) → (Nat → Int32) → (Nat → Int32) → (Nat → Int32) → (Nat → Int32) → (Nat → Int32) → (Nat → Int32) → Prop} {x2 x3 x5 : Int32} {d : Nat} {c : Nat → Int32} {P : Nat → Nat → Prop} (hd : d < 16) (hm : gs_Mk x5 (P d)) (h0 : ∀ n, n < 16 → gs_Mk (c n) (fun e => e < d ∧ P e n))
    (h : ∀ c', (∀ n, n < 16 → gs_Mk (c' n) (fun e => e < d + 1 ∧ P e n)) → J31 (nI (d + 1)) a_actKind a_actVariable a_actOperand a_endKind a_endVariable a_endX a_endY a_path a_pathSide a_leaving a_numberOf a_nodeAt a_successors a_predecessors c' a_behind a_loop a_liveAt a_knownAt a_code a_task a_variable a_latestTold) : ∃ m, wX_findCuts__before_successors_56 post J31 x2 x3 (nI d) x5 f_stale f_seen f_seenCount f_isStraight f_meetings f_codeCount f_taskCount f_hasRun f_inputLeft f_toldCount f_lastNode f_hasStopped m 0 a_actKind a_actVariable a_actOperand a_endKind a_endVariable a_endX a_endY a_path a_pathSide a_leaving a_numberOf a_nodeAt a_successors a_predecessors c a_behind a_loop a_liveAt a_knownAt a_code a_task a_variable a_latestTold := by
  refine pk_loop (fun m i (s : Nat → Int32) => wX_findCuts__before_successors_56 post J31 x2 x3 (nI d) x5 f_stale f_seen f_seenCount f_isStraight f_meetings f_codeCount f_taskCount f_hasRun f_inputLeft f_toldCount f_lastNode f_hasStopped m (nI i) a_actKind a_actVariable a_actOperand a_endKind a_endVariable a_endX a_endY a_path a_pathSide a_leaving a_numberOf a_nodeAt a_successors a_predecessors s a_behind a_loop a_liveAt a_knownAt a_code a_task a_variable a_latestTold) (fun i s => ∀ n, n < 16 → gs_Mk (s n) (fun e => (e < d ∨ (e = d ∧ n < i)) ∧ P e n)) 16 0 c (by omega) (fun n hn => gs_Mk_iff (h0 n hn) (fun e _ => by
    constructor
    · exact fun z => ⟨Or.inl z.1, z.2⟩
    · rintro ⟨z1 | ⟨_, z1⟩, z2⟩
      · exact ⟨z1, z2⟩
      · omega)) ?_ ?_
  · rintro m s hI
    refine br_t gx_x16 (nm_r (nI_1 d) (h _ (fun n hn => gs_Mk_iff (hI n hn) (fun e _ => ?_))))
    constructor
    · exact fun z => ⟨by omega, z.2⟩
    · exact fun z => ⟨by omega, z.2⟩
  · rintro m i s hi hI ih
    refine br_f (gx_16 hi) (gx_hm hm hi (fun q => ⟨gx_in hi, gx_in hi, nm_r (e' := upd s i (s i ||| ((1 : Int32) <<< (nI d &&& 31)))) (by rw [gx_cl hi]) (nm_r (nI_1 i) (ih _ (fun n hn => ?_)))⟩) (fun q => nm_r (nI_1 i) (ih _ (fun n hn => ?_))))
    · by_cases e : n = i
      · subst e
        rw [pk_us]
        apply gs_Mk_iff (gs_Mk_set (hI n hn) hd)
        intro e _
        constructor
        · rintro (⟨z1, z2⟩ | rfl)
          · exact ⟨by omega, z2⟩
          · exact ⟨by omega, q⟩
        · rintro ⟨z1, z2⟩
          by_cases w : e = d
          · exact Or.inr w
          · exact Or.inl ⟨by omega, z2⟩
      · rw [pk_un e]
        apply gs_Mk_iff (hI n hn)
        intro e _
        constructor
        · exact fun z => ⟨by omega, z.2⟩
        · exact fun z => ⟨by omega, z.2⟩
    · apply gs_Mk_iff (hI n hn)
      intro e _
      constructor
      · exact fun z => ⟨by omega, z.2⟩
      · rintro ⟨z1, z2⟩
        refine ⟨?_, z2⟩
        by_cases w : e = d ∧ n = i
        · exact absurd (w.2 ▸ w.1 ▸ z2) q
        · omega
theorem gx_cuts_before {post : SX → Prop} {p2 : Int32} {F : Nat → Prop} {G : Nat → Nat → Prop} (hL : ∀ n, n < 16 → gs_Mk (a_successors n) (G n)) (hp : gs_Mk p2 F)
    (h : ∀ c', (∀ n, n < 16 → gs_Mk (c' n) (fun d => gs_cl (fun i => i < 16 ∧ F i ∧ ¬ False) (fun j k => j < 16 ∧ k < 16 ∧ G j k ∧ ¬ False) n ∧ ¬ gs_cl (fun i => i < 16 ∧ F i ∧ ¬ i = d) (fun j k => j < 16 ∧ k < 16 ∧ G j k ∧ ¬ k = d) n)) → post (f_stale, f_seen, f_seenCount, f_isStraight, f_meetings, f_codeCount, f_taskCount, f_hasRun, f_inputLeft, f_toldCount, f_lastNode, f_hasStopped, a_actKind, a_actVariable, a_actOperand, a_endKind, a_endVariable, a_endX, a_endY, a_path, a_pathSide, a_leaving, a_numberOf, a_nodeAt, a_successors, a_predecessors, c', a_behind, a_loop, a_liveAt, a_knownAt, a_code, a_task, a_variable, a_latestTold)) : wpX_findCuts__before_successors post (f_stale, f_seen, f_seenCount, f_isStraight, f_meetings, f_codeCount, f_taskCount, f_hasRun, f_inputLeft, f_toldCount, f_lastNode, f_hasStopped, a_actKind, a_actVariable, a_actOperand, a_endKind, a_endVariable, a_endX, a_endY, a_path, a_pathSide, a_leaving, a_numberOf, a_nodeAt, a_successors, a_predecessors, a_before, a_behind, a_loop, a_liveAt, a_knownAt, a_code, a_task, a_variable, a_latestTold) p2 := by
  refine gx_reach_successors ?_
  have hr := gs_rch_ok hL hp (gs_Mk_0 (P := fun _ => False) (fun _ _ z => z))
  refine pk_loop (fun m i (s : Nat → Int32) => wX_findCuts__before_successors_10 post p2 (gs_rch a_successors p2 0) f_stale f_seen f_seenCount f_isStraight f_meetings f_codeCount f_taskCount f_hasRun f_inputLeft f_toldCount f_lastNode f_hasStopped m (nI i) a_actKind a_actVariable a_actOperand a_endKind a_endVariable a_endX a_endY a_path a_pathSide a_leaving a_numberOf a_nodeAt a_successors a_predecessors s a_behind a_loop a_liveAt a_knownAt a_code a_task a_variable a_latestTold) (fun i s => ∀ j, j < i → s j = 0) 16 0 a_before (by omega) (fun j hj => absurd hj (Nat.not_lt_zero j)) ?_ ?_
  · rintro m s0 hI0
    refine br_t gx_x16 ?_
    refine pk_loop (fun m i (s : Nat → Int32) => wX_findCuts__before_successors_31 post p2 (gs_rch a_successors p2 0) f_stale f_seen f_seenCount f_isStraight f_meetings f_codeCount f_taskCount f_hasRun f_inputLeft f_toldCount f_lastNode f_hasStopped m (nI i) a_actKind a_actVariable a_actOperand a_endKind a_endVariable a_endX a_endY a_path a_pathSide a_leaving a_numberOf a_nodeAt a_successors a_predecessors s a_behind a_loop a_liveAt a_knownAt a_code a_task a_variable a_latestTold) (fun i s => ∀ n, n < 16 → gs_Mk (s n) (fun d => d < i ∧ gs_cl (fun i => i < 16 ∧ F i ∧ ¬ False) (fun j k => j < 16 ∧ k < 16 ∧ G j k ∧ ¬ False) n ∧ ¬ gs_cl (fun i => i < 16 ∧ F i ∧ ¬ i = d) (fun j k => j < 16 ∧ k < 16 ∧ G j k ∧ ¬ k = d) n)) 16 0 s0 (by omega) (fun n hn => by
      rw [hI0 n hn]
      exact gs_Mk_0 (fun i _ z => absurd z.1 (Nat.not_lt_zero i))) ?_ ?_
    · rintro m s hI
      exact br_t gx_x16 (h _ (fun n hn => gs_Mk_iff (hI n hn) (fun i hi => ⟨fun z => z.2, fun z => ⟨hi, z⟩⟩)))
    · rintro m i s hi hI ih
      refine br_f (gx_16 hi) (gx_reach_successors (nm_e ?_))
      have hd := gs_rch_ok hL hp (gs_Mk_bit hi)
      exact gx_cuts_before_56 (P := fun d n => gs_cl (fun i => i < 16 ∧ F i ∧ ¬ False) (fun j k => j < 16 ∧ k < 16 ∧ G j k ∧ ¬ False) n ∧ ¬ gs_cl (fun i => i < 16 ∧ F i ∧ ¬ i = d) (fun j k => j < 16 ∧ k < 16 ∧ G j k ∧ ¬ k = d) n) hi (gs_Mk_andn hr hd) hI (fun c' hc => ih c' hc)
  · rintro m i s hi hI ih
    refine br_f (gx_16 hi) ⟨gx_in hi, nm_r (e' := upd s i 0) (by rw [gx_cl hi]) (nm_r (nI_1 i) (ih _ (fun j hj => ?_)))⟩
    by_cases e : j = i
    · subst e
      exact pk_us
    · exact (pk_un e).trans (hI j (by omega))
theorem gx_cuts_behind_56 {post : SX → Prop} {J31 : Int32 → (Nat → Int32) → (Nat → Int32) → (Nat → Int32) → (Nat → Int32) → (Nat → Int32) → (Nat → Int32) → (Nat → Int32) → (Nat → Int32) → (Nat → Int32) → (Nat → Int32) → (Nat → Int32) → (Nat → Int32) → (Nat → Int32) → (Nat → Int32) → (Nat → Int32) → (Nat → Int32) → (Nat → Int32) → (Nat → Int32) → (Nat → Int32) → (Nat → Int32) → (Nat → Int32) → (Nat → Int32) → (Nat → Int32) → Prop} {x2 x3 x5 : Int32} {d : Nat} {c : Nat → Int32} {P : Nat → Nat → Prop} (hd : d < 16) (hm : gs_Mk x5 (P d)) (h0 : ∀ n, n < 16 → gs_Mk (c n) (fun e => e < d ∧ P e n))
    (h : ∀ c', (∀ n, n < 16 → gs_Mk (c' n) (fun e => e < d + 1 ∧ P e n)) → J31 (nI (d + 1)) a_actKind a_actVariable a_actOperand a_endKind a_endVariable a_endX a_endY a_path a_pathSide a_leaving a_numberOf a_nodeAt a_successors a_predecessors a_before c' a_loop a_liveAt a_knownAt a_code a_task a_variable a_latestTold) : ∃ m, wX_findCuts__behind_predecessors_56 post J31 x2 x3 (nI d) x5 f_stale f_seen f_seenCount f_isStraight f_meetings f_codeCount f_taskCount f_hasRun f_inputLeft f_toldCount f_lastNode f_hasStopped m 0 a_actKind a_actVariable a_actOperand a_endKind a_endVariable a_endX a_endY a_path a_pathSide a_leaving a_numberOf a_nodeAt a_successors a_predecessors a_before c a_loop a_liveAt a_knownAt a_code a_task a_variable a_latestTold := by
  refine pk_loop (fun m i (s : Nat → Int32) => wX_findCuts__behind_predecessors_56 post J31 x2 x3 (nI d) x5 f_stale f_seen f_seenCount f_isStraight f_meetings f_codeCount f_taskCount f_hasRun f_inputLeft f_toldCount f_lastNode f_hasStopped m (nI i) a_actKind a_actVariable a_actOperand a_endKind a_endVariable a_endX a_endY a_path a_pathSide a_leaving a_numberOf a_nodeAt a_successors a_predecessors a_before s a_loop a_liveAt a_knownAt a_code a_task a_variable a_latestTold) (fun i s => ∀ n, n < 16 → gs_Mk (s n) (fun e => (e < d ∨ (e = d ∧ n < i)) ∧ P e n)) 16 0 c (by omega) (fun n hn => gs_Mk_iff (h0 n hn) (fun e _ => by
    constructor
    · exact fun z => ⟨Or.inl z.1, z.2⟩
    · rintro ⟨z1 | ⟨_, z1⟩, z2⟩
      · exact ⟨z1, z2⟩
      · omega)) ?_ ?_
  · rintro m s hI
    refine br_t gx_x16 (nm_r (nI_1 d) (h _ (fun n hn => gs_Mk_iff (hI n hn) (fun e _ => ?_))))
    constructor
    · exact fun z => ⟨by omega, z.2⟩
    · exact fun z => ⟨by omega, z.2⟩
  · rintro m i s hi hI ih
    refine br_f (gx_16 hi) (gx_hm hm hi (fun q => ⟨gx_in hi, gx_in hi, nm_r (e' := upd s i (s i ||| ((1 : Int32) <<< (nI d &&& 31)))) (by rw [gx_cl hi]) (nm_r (nI_1 i) (ih _ (fun n hn => ?_)))⟩) (fun q => nm_r (nI_1 i) (ih _ (fun n hn => ?_))))
    · by_cases e : n = i
      · subst e
        rw [pk_us]
        apply gs_Mk_iff (gs_Mk_set (hI n hn) hd)
        intro e _
        constructor
        · rintro (⟨z1, z2⟩ | rfl)
          · exact ⟨by omega, z2⟩
          · exact ⟨by omega, q⟩
        · rintro ⟨z1, z2⟩
          by_cases w : e = d
          · exact Or.inr w
          · exact Or.inl ⟨by omega, z2⟩
      · rw [pk_un e]
        apply gs_Mk_iff (hI n hn)
        intro e _
        constructor
        · exact fun z => ⟨by omega, z.2⟩
        · exact fun z => ⟨by omega, z.2⟩
    · apply gs_Mk_iff (hI n hn)
      intro e _
      constructor
      · exact fun z => ⟨by omega, z.2⟩
      · rintro ⟨z1, z2⟩
        refine ⟨?_, z2⟩
        by_cases w : e = d ∧ n = i
        · exact absurd (w.2 ▸ w.1 ▸ z2) q
        · omega
theorem gx_cuts_behind {post : SX → Prop} {p2 : Int32} {F : Nat → Prop} {G : Nat → Nat → Prop} (hL : ∀ n, n < 16 → gs_Mk (a_predecessors n) (G n)) (hp : gs_Mk p2 F)
    (h : ∀ c', (∀ n, n < 16 → gs_Mk (c' n) (fun d => gs_cl (fun i => i < 16 ∧ F i ∧ ¬ False) (fun j k => j < 16 ∧ k < 16 ∧ G j k ∧ ¬ False) n ∧ ¬ gs_cl (fun i => i < 16 ∧ F i ∧ ¬ i = d) (fun j k => j < 16 ∧ k < 16 ∧ G j k ∧ ¬ k = d) n)) → post (f_stale, f_seen, f_seenCount, f_isStraight, f_meetings, f_codeCount, f_taskCount, f_hasRun, f_inputLeft, f_toldCount, f_lastNode, f_hasStopped, a_actKind, a_actVariable, a_actOperand, a_endKind, a_endVariable, a_endX, a_endY, a_path, a_pathSide, a_leaving, a_numberOf, a_nodeAt, a_successors, a_predecessors, a_before, c', a_loop, a_liveAt, a_knownAt, a_code, a_task, a_variable, a_latestTold)) : wpX_findCuts__behind_predecessors post (f_stale, f_seen, f_seenCount, f_isStraight, f_meetings, f_codeCount, f_taskCount, f_hasRun, f_inputLeft, f_toldCount, f_lastNode, f_hasStopped, a_actKind, a_actVariable, a_actOperand, a_endKind, a_endVariable, a_endX, a_endY, a_path, a_pathSide, a_leaving, a_numberOf, a_nodeAt, a_successors, a_predecessors, a_before, a_behind, a_loop, a_liveAt, a_knownAt, a_code, a_task, a_variable, a_latestTold) p2 := by
  refine gx_reach_predecessors ?_
  have hr := gs_rch_ok hL hp (gs_Mk_0 (P := fun _ => False) (fun _ _ z => z))
  refine pk_loop (fun m i (s : Nat → Int32) => wX_findCuts__behind_predecessors_10 post p2 (gs_rch a_predecessors p2 0) f_stale f_seen f_seenCount f_isStraight f_meetings f_codeCount f_taskCount f_hasRun f_inputLeft f_toldCount f_lastNode f_hasStopped m (nI i) a_actKind a_actVariable a_actOperand a_endKind a_endVariable a_endX a_endY a_path a_pathSide a_leaving a_numberOf a_nodeAt a_successors a_predecessors a_before s a_loop a_liveAt a_knownAt a_code a_task a_variable a_latestTold) (fun i s => ∀ j, j < i → s j = 0) 16 0 a_behind (by omega) (fun j hj => absurd hj (Nat.not_lt_zero j)) ?_ ?_
  · rintro m s0 hI0
    refine br_t gx_x16 ?_
    refine pk_loop (fun m i (s : Nat → Int32) => wX_findCuts__behind_predecessors_31 post p2 (gs_rch a_predecessors p2 0) f_stale f_seen f_seenCount f_isStraight f_meetings f_codeCount f_taskCount f_hasRun f_inputLeft f_toldCount f_lastNode f_hasStopped m (nI i) a_actKind a_actVariable a_actOperand a_endKind a_endVariable a_endX a_endY a_path a_pathSide a_leaving a_numberOf a_nodeAt a_successors a_predecessors a_before s a_loop a_liveAt a_knownAt a_code a_task a_variable a_latestTold) (fun i s => ∀ n, n < 16 → gs_Mk (s n) (fun d => d < i ∧ gs_cl (fun i => i < 16 ∧ F i ∧ ¬ False) (fun j k => j < 16 ∧ k < 16 ∧ G j k ∧ ¬ False) n ∧ ¬ gs_cl (fun i => i < 16 ∧ F i ∧ ¬ i = d) (fun j k => j < 16 ∧ k < 16 ∧ G j k ∧ ¬ k = d) n)) 16 0 s0 (by omega) (fun n hn => by
      rw [hI0 n hn]
      exact gs_Mk_0 (fun i _ z => absurd z.1 (Nat.not_lt_zero i))) ?_ ?_
    · rintro m s hI
      exact br_t gx_x16 (h _ (fun n hn => gs_Mk_iff (hI n hn) (fun i hi => ⟨fun z => z.2, fun z => ⟨hi, z⟩⟩)))
    · rintro m i s hi hI ih
      refine br_f (gx_16 hi) (gx_reach_predecessors (nm_e ?_))
      have hd := gs_rch_ok hL hp (gs_Mk_bit hi)
      exact gx_cuts_behind_56 (P := fun d n => gs_cl (fun i => i < 16 ∧ F i ∧ ¬ False) (fun j k => j < 16 ∧ k < 16 ∧ G j k ∧ ¬ False) n ∧ ¬ gs_cl (fun i => i < 16 ∧ F i ∧ ¬ i = d) (fun j k => j < 16 ∧ k < 16 ∧ G j k ∧ ¬ k = d) n) hi (gs_Mk_andn hr hd) hI (fun c' hc => ih c' hc)
  · rintro m i s hi hI ih
    refine br_f (gx_16 hi) ⟨gx_in hi, nm_r (e' := upd s i 0) (by rw [gx_cl hi]) (nm_r (nI_1 i) (ih _ (fun j hj => ?_)))⟩
    by_cases e : j = i
    · subst e
      exact pk_us
    · exact (pk_un e).trans (hI j (by omega))
end
end
section
/-! X: before and behind as said; loops, straightness, meetings, the nearest, borders -/
theorem gx_one : gs_Mk 1 (fun i => i = 0) := by
  intro i
  rw [gs_one, decide_eq_true_iff]
  exact ⟨fun z => ⟨by omega, z⟩, fun z => z.2⟩
section
variable {f_stale f_seen f_seenCount f_isStraight f_meetings f_codeCount f_taskCount f_hasRun f_toldCount f_lastNode f_hasStopped : Int32} {f_inputLeft : Int64} {a_actKind a_actVariable a_actOperand a_endKind a_endVariable a_endX a_endY a_path a_pathSide a_leaving a_numberOf a_nodeAt a_successors a_predecessors a_before a_behind a_loop a_liveAt a_knownAt a_code a_task a_variable a_latestTold : Nat → Int32} {ek ex ey : Nat → Nat}
theorem gx_bf (hx : ∀ n, ex n < 16) (hy : ∀ n, ey n < 16) (n d : Nat) : (gs_cl (fun i => i < 16 ∧ i = 0 ∧ ¬ False) (fun j k => j < 16 ∧ k < 16 ∧ (gs_sn ek ex ey j = true ∧ gs_E ek ex ey j k) ∧ ¬ False) n ∧ ¬ gs_cl (fun i => i < 16 ∧ i = 0 ∧ ¬ i = d) (fun j k => j < 16 ∧ k < 16 ∧ (gs_sn ek ex ey j = true ∧ gs_E ek ex ey j k) ∧ ¬ k = d) n) ↔ gs_bf ek ex ey d n := by
  have h1 := gs_fwd (ek := ek) hx hy (W := fun _ => False) (n := n)
  have h2 := gs_fwd (ek := ek) hx hy (W := fun x => x = d) (n := n)
  rw [h1, h2, ← gs_sn_W hx hy]
  exact Iff.rfl
theorem gx_bh (hx : ∀ n, ex n < 16) (hy : ∀ n, ey n < 16) (n d : Nat) : (gs_cl (fun i => i < 16 ∧ (gs_sn ek ex ey i = true ∧ ek i = 0) ∧ ¬ False) (fun j k => j < 16 ∧ k < 16 ∧ (gs_sn ek ex ey k = true ∧ gs_E ek ex ey k j) ∧ ¬ False) n ∧ ¬ gs_cl (fun i => i < 16 ∧ (gs_sn ek ex ey i = true ∧ ek i = 0) ∧ ¬ i = d) (fun j k => j < 16 ∧ k < 16 ∧ (gs_sn ek ex ey k = true ∧ gs_E ek ex ey k j) ∧ ¬ k = d) n) ↔ gs_bh ek ex ey d n := by
  have h1 := gs_back (ek := ek) hx hy (W := fun _ => False) (F := fun i => gs_sn ek ex ey i = true ∧ ek i = 0) (fun i z => z.1) (n := n)
  have h2 := gs_back (ek := ek) hx hy (W := fun x => x = d) (F := fun i => gs_sn ek ex ey i = true ∧ ek i = 0) (fun i z => z.1) (n := n)
  rw [h1, h2]
  constructor
  · rintro ⟨⟨q1, m, q2, q3⟩, q4⟩
    exact ⟨q1, ⟨m, q3, q2.2⟩, fun ⟨m', w1, w2⟩ => q4 ⟨q1, m', ⟨gs_W_sn hx hy w1 q1, w2⟩, w1⟩⟩
  · rintro ⟨q1, ⟨m, q2, q3⟩, q4⟩
    exact ⟨⟨q1, m, ⟨gs_W_sn hx hy q2 q1, q3⟩, q2⟩, fun ⟨_, m', w1, w2⟩ => q4 ⟨m', w2, w1.2⟩⟩
theorem gx_before {post : SX → Prop} (hx : ∀ n, ex n < 16) (hy : ∀ n, ey n < 16) (LK : gx_LK ek ex ey a_successors a_predecessors)
    (h : ∀ c', (∀ n, n < 16 → gs_Mk (c' n) (fun d => gs_bf ek ex ey d n)) → post (f_stale, f_seen, f_seenCount, f_isStraight, f_meetings, f_codeCount, f_taskCount, f_hasRun, f_inputLeft, f_toldCount, f_lastNode, f_hasStopped, a_actKind, a_actVariable, a_actOperand, a_endKind, a_endVariable, a_endX, a_endY, a_path, a_pathSide, a_leaving, a_numberOf, a_nodeAt, a_successors, a_predecessors, c', a_behind, a_loop, a_liveAt, a_knownAt, a_code, a_task, a_variable, a_latestTold)) : wpX_findCuts__before_successors post (f_stale, f_seen, f_seenCount, f_isStraight, f_meetings, f_codeCount, f_taskCount, f_hasRun, f_inputLeft, f_toldCount, f_lastNode, f_hasStopped, a_actKind, a_actVariable, a_actOperand, a_endKind, a_endVariable, a_endX, a_endY, a_path, a_pathSide, a_leaving, a_numberOf, a_nodeAt, a_successors, a_predecessors, a_before, a_behind, a_loop, a_liveAt, a_knownAt, a_code, a_task, a_variable, a_latestTold) 1 :=
  gx_cuts_before LK.1 gx_one (fun c' hc => h c' (fun n hn => gs_Mk_iff (hc n hn) (fun d _ => gx_bf hx hy n d)))
theorem gx_behind {post : SX → Prop} {p2 : Int32} (hx : ∀ n, ex n < 16) (hy : ∀ n, ey n < 16) (LK : gx_LK ek ex ey a_successors a_predecessors) (hp : gs_Mk p2 (fun i => gs_sn ek ex ey i = true ∧ ek i = 0))
    (h : ∀ c', (∀ n, n < 16 → gs_Mk (c' n) (fun d => gs_bh ek ex ey d n)) → post (f_stale, f_seen, f_seenCount, f_isStraight, f_meetings, f_codeCount, f_taskCount, f_hasRun, f_inputLeft, f_toldCount, f_lastNode, f_hasStopped, a_actKind, a_actVariable, a_actOperand, a_endKind, a_endVariable, a_endX, a_endY, a_path, a_pathSide, a_leaving, a_numberOf, a_nodeAt, a_successors, a_predecessors, a_before, c', a_loop, a_liveAt, a_knownAt, a_code, a_task, a_variable, a_latestTold)) : wpX_findCuts__behind_predecessors post (f_stale, f_seen, f_seenCount, f_isStraight, f_meetings, f_codeCount, f_taskCount, f_hasRun, f_inputLeft, f_toldCount, f_lastNode, f_hasStopped, a_actKind, a_actVariable, a_actOperand, a_endKind, a_endVariable, a_endX, a_endY, a_path, a_pathSide, a_leaving, a_numberOf, a_nodeAt, a_successors, a_predecessors, a_before, a_behind, a_loop, a_liveAt, a_knownAt, a_code, a_task, a_variable, a_latestTold) p2 :=
  gx_cuts_behind LK.2 hp (fun c' hc => h c' (fun n hn => gs_Mk_iff (hc n hn) (fun d _ => gx_bh hx hy n d)))
theorem gx_loops {post : SX → Prop} (hx : ∀ n, ex n < 16) (hy : ∀ n, ey n < 16) (LK : gx_LK ek ex ey a_successors a_predecessors) (hb : ∀ n, n < 16 → gs_Mk (a_before n) (fun d => gs_bf ek ex ey d n))
    (h : ∀ c', (∀ n, n < 16 → gs_Mk (c' n) (gs_lp ek ex ey n)) → post (f_stale, f_seen, f_seenCount, f_isStraight, f_meetings, f_codeCount, f_taskCount, f_hasRun, f_inputLeft, f_toldCount, f_lastNode, f_hasStopped, a_actKind, a_actVariable, a_actOperand, a_endKind, a_endVariable, a_endX, a_endY, a_path, a_pathSide, a_leaving, a_numberOf, a_nodeAt, a_successors, a_predecessors, a_before, a_behind, c', a_liveAt, a_knownAt, a_code, a_task, a_variable, a_latestTold)) : wpX_findLoops post (f_stale, f_seen, f_seenCount, f_isStraight, f_meetings, f_codeCount, f_taskCount, f_hasRun, f_inputLeft, f_toldCount, f_lastNode, f_hasStopped, a_actKind, a_actVariable, a_actOperand, a_endKind, a_endVariable, a_endX, a_endY, a_path, a_pathSide, a_leaving, a_numberOf, a_nodeAt, a_successors, a_predecessors, a_before, a_behind, a_loop, a_liveAt, a_knownAt, a_code, a_task, a_variable, a_latestTold) := by
  refine pk_loop (fun m i (s : Nat → Int32) => wX_findLoops_2 post f_stale f_seen f_seenCount f_isStraight f_meetings f_codeCount f_taskCount f_hasRun f_inputLeft f_toldCount f_lastNode f_hasStopped m (nI i) a_actKind a_actVariable a_actOperand a_endKind a_endVariable a_endX a_endY a_path a_pathSide a_leaving a_numberOf a_nodeAt a_successors a_predecessors a_before a_behind s a_liveAt a_knownAt a_code a_task a_variable a_latestTold) (fun i s => ∀ n, n < i → gs_Mk (s n) (gs_lp ek ex ey n)) 16 0 a_loop (by omega) (fun j hj => absurd hj (Nat.not_lt_zero j)) ?_ ?_
  · rintro m s hI
    exact br_t gx_x16 (h s hI)
  · rintro m i l hi hI ih
    refine br_f (gx_16 hi) ?_
    refine pk_loop (fun m' j s => wX_findLoops_12 post (wX_findLoops_2 post f_stale f_seen f_seenCount f_isStraight f_meetings f_codeCount f_taskCount f_hasRun f_inputLeft f_toldCount f_lastNode f_hasStopped m) (nI i) f_stale f_seen f_seenCount f_isStraight f_meetings f_codeCount f_taskCount f_hasRun f_inputLeft f_toldCount f_lastNode f_hasStopped a_actKind a_actVariable a_actOperand a_endKind a_endVariable a_endX a_endY a_path a_pathSide a_leaving a_numberOf a_nodeAt a_successors a_predecessors a_before a_behind l a_liveAt a_knownAt a_code a_task a_variable a_latestTold m' s (nI j)) (fun j s => gs_Mk s (fun p => p < j ∧ gs_ret ek ex ey i p)) 16 0 0 (by omega) (gs_Mk_0 (fun i _ z => absurd z.1 (Nat.not_lt_zero i))) ?_ ?_
    · rintro m' s hS
      have hS : gs_Mk s (gs_ret ek ex ey i) := gs_Mk_iff hS (fun p hp => ⟨fun z => z.2, fun z => ⟨hp, z⟩⟩)
      refine br_t gx_x16 (gx_reach_predecessors (br_c (fun z => ?_) (fun z => ?_)))
      · refine ⟨gx_in hi, nm_r (e' := upd l i 0) (by rw [gx_cl hi]) (nm_r (nI_1 i) (ih _ (fun n hn => ?_)))⟩
        by_cases e : n = i
        · subst e
          rw [pk_us]
          exact gs_Mk_0 (fun q _ => gs_lp_0 ((gs_Mk_z hS).mp z) hx hy q)
        · rw [pk_un e]
          exact hI n (by omega)
      · have hr := gs_rch_ok LK.2 hS (gs_Mk_bit hi)
        refine ⟨gx_in hi, nm_r (e' := upd l i (gs_rch a_predecessors s ((1 : Int32) <<< (nI i &&& 31)) ||| ((1 : Int32) <<< (nI i &&& 31)))) (by rw [gx_cl hi]) (nm_r (nI_1 i) (ih _ (fun n hn => ?_)))⟩
        by_cases e : n = i
        · subst e
          rw [pk_us]
          have hne : ∃ p, gs_ret ek ex ey n p := by
            apply Classical.byContradiction
            intro w
            exact z ((gs_Mk_z hS).mpr (fun p _ q => w ⟨p, q⟩))
          apply gs_Mk_iff (gs_Mk_set hr hi)
          intro q _
          rw [gs_back hx hy (W := fun x => x = n) (F := gs_ret ek ex ey n) (fun p w => w.1)]
          constructor
          · rintro (⟨w1, p, w2, w3⟩ | w)
            · exact ⟨p, w2, Or.inr ⟨w1, w3⟩⟩
            · obtain ⟨p, hp⟩ := hne
              exact ⟨p, hp, Or.inl w⟩
          · rintro ⟨p, w1, w2 | ⟨w2, w3⟩⟩
            · exact Or.inr w2
            · exact Or.inl ⟨w2, p, w1, w3⟩
        · rw [pk_un e]
          exact hI n (by omega)
    · rintro m' j s hj hS ihj
      have keep : ¬ gs_ret ek ex ey i j → gs_Mk s (fun p => p < j + 1 ∧ gs_ret ek ex ey i p) := fun q => gs_Mk_iff hS (fun p _ => by
        constructor
        · exact fun z => ⟨by omega, z.2⟩
        · rintro ⟨z1, z2⟩
          by_cases e : p = j
          · exact absurd (e ▸ z2) q
          · exact ⟨by omega, z2⟩)
      refine br_f (gx_16 hj) ⟨gx_in hi, gx_hma LK.2 hi hj (fun q => ⟨gx_in hj, gx_hma hb hj hi (fun w => ?_) (fun w => ?_)⟩) (fun q => ?_)⟩
      · refine nm_e (nm_r (nI_1 j) (ihj _ (gs_Mk_iff (gs_Mk_set hS hj) (fun p _ => ?_))))
        constructor
        · rintro (⟨z1, z2⟩ | rfl)
          · exact ⟨by omega, z2⟩
          · exact ⟨by omega, q.1, q.2, w⟩
        · rintro ⟨z1, z2⟩
          by_cases e : p = j
          · exact Or.inr e
          · exact Or.inl ⟨by omega, z2⟩
      · exact nm_r (nI_1 j) (ihj s (keep (fun z => w z.2.2)))
      · exact nm_r (nI_1 j) (ihj s (keep (fun z => q ⟨z.1, z.2.1⟩)))
/-- the numbers as X holds them -/
def gx_NU (ek ex ey : Nat → Nat) (a_numberOf : Nat → Int32) : Prop := ∀ n, gs_sn ek ex ey n = true → a_numberOf n = nI (gs_nu ek ex ey n)
theorem gx_nu_lt (hx : ∀ n, ex n < 16) (hy : ∀ n, ey n < 16) (hN : gx_NU ek ex ey a_numberOf) {m n : Nat} (hm : gs_sn ek ex ey m = true) (hn : gs_sn ek ex ey n = true) : (a_numberOf (nI m).toNatClampNeg < a_numberOf (nI n).toNatClampNeg ↔ gs_nu ek ex ey m < gs_nu ek ex ey n) ∧ (a_numberOf (nI m).toNatClampNeg ≤ a_numberOf (nI n).toNatClampNeg ↔ gs_nu ek ex ey m ≤ gs_nu ek ex ey n) := by
  have l := gs_lv_len (ek := ek) hx hy
  have l1 := gs_nu_lt hx hy hm
  have l2 := gs_nu_lt hx hy hn
  rw [gx_cl (gs_sn_lt hx hy hm), gx_cl (gs_sn_lt hx hy hn), hN m hm, hN n hn]
  exact ⟨nI_ltI (by omega) (by omega), nI_leI (by omega) (by omega)⟩
theorem gx_straight {post : SX → Prop} (hx : ∀ n, ex n < 16) (hy : ∀ n, ey n < 16) (LK : gx_LK ek ex ey a_successors a_predecessors) (hN : gx_NU ek ex ey a_numberOf) (hb : ∀ n, n < 16 → gs_Mk (a_before n) (fun d => gs_bf ek ex ey d n))
    (h : ∀ r, (r = 1 ∧ gs_strt ek ex ey) ∨ (r = 0 ∧ ¬ gs_strt ek ex ey) → post (f_stale, f_seen, f_seenCount, r, f_meetings, f_codeCount, f_taskCount, f_hasRun, f_inputLeft, f_toldCount, f_lastNode, f_hasStopped, a_actKind, a_actVariable, a_actOperand, a_endKind, a_endVariable, a_endX, a_endY, a_path, a_pathSide, a_leaving, a_numberOf, a_nodeAt, a_successors, a_predecessors, a_before, a_behind, a_loop, a_liveAt, a_knownAt, a_code, a_task, a_variable, a_latestTold)) : wpX_findStraight post (f_stale, f_seen, f_seenCount, f_isStraight, f_meetings, f_codeCount, f_taskCount, f_hasRun, f_inputLeft, f_toldCount, f_lastNode, f_hasStopped, a_actKind, a_actVariable, a_actOperand, a_endKind, a_endVariable, a_endX, a_endY, a_path, a_pathSide, a_leaving, a_numberOf, a_nodeAt, a_successors, a_predecessors, a_before, a_behind, a_loop, a_liveAt, a_knownAt, a_code, a_task, a_variable, a_latestTold) := by
  refine pk_loop (fun m i (r : Int32) => wX_findStraight_7 post f_stale f_seen f_seenCount f_meetings f_codeCount f_taskCount f_hasRun f_inputLeft f_toldCount f_lastNode f_hasStopped a_actKind a_actVariable a_actOperand a_endKind a_endVariable a_endX a_endY a_path a_pathSide a_leaving a_numberOf a_nodeAt a_successors a_predecessors a_before a_behind a_loop a_liveAt a_knownAt a_code a_task a_variable a_latestTold m (nI i) r) (fun i r => (r = 1 ∧ ∀ n, n < i → ∀ s, s < 16 → gs_sn ek ex ey n = true → gs_E ek ex ey n s → gs_nu ek ex ey s ≤ gs_nu ek ex ey n → gs_bf ek ex ey s n) ∨ (r = 0 ∧ ¬ gs_strt ek ex ey)) 16 0 1 (by omega) (Or.inl ⟨rfl, fun j hj => absurd hj (Nat.not_lt_zero j)⟩) ?_ ?_
  · rintro m r hI
    exact br_t gx_x16 (h r (hI.imp (fun z => ⟨z.1, z.2⟩) id))
  · rintro m i r hi hI ih
    refine br_f (gx_16 hi) ?_
    refine pk_loop (fun m' j (r : Int32) => wX_findStraight_15 post (wX_findStraight_7 post f_stale f_seen f_seenCount f_meetings f_codeCount f_taskCount f_hasRun f_inputLeft f_toldCount f_lastNode f_hasStopped a_actKind a_actVariable a_actOperand a_endKind a_endVariable a_endX a_endY a_path a_pathSide a_leaving a_numberOf a_nodeAt a_successors a_predecessors a_before a_behind a_loop a_liveAt a_knownAt a_code a_task a_variable a_latestTold m) (nI i) f_stale f_seen f_seenCount f_meetings f_codeCount f_taskCount f_hasRun f_inputLeft f_toldCount f_lastNode f_hasStopped a_actKind a_actVariable a_actOperand a_endKind a_endVariable a_endX a_endY a_path a_pathSide a_leaving a_numberOf a_nodeAt a_successors a_predecessors a_before a_behind a_loop a_liveAt a_knownAt a_code a_task a_variable a_latestTold m' (nI j) r) (fun j r => (r = 1 ∧ (∀ n, n < i → ∀ s, s < 16 → gs_sn ek ex ey n = true → gs_E ek ex ey n s → gs_nu ek ex ey s ≤ gs_nu ek ex ey n → gs_bf ek ex ey s n) ∧ ∀ s, s < j → gs_sn ek ex ey i = true → gs_E ek ex ey i s → gs_nu ek ex ey s ≤ gs_nu ek ex ey i → gs_bf ek ex ey s i) ∨ (r = 0 ∧ ¬ gs_strt ek ex ey)) 16 0 r (by omega) (hI.imp (fun z => ⟨z.1, z.2, fun j hj => absurd hj (Nat.not_lt_zero j)⟩) id) ?_ ?_
    · rintro m' r hJ
      refine br_t gx_x16 (nm_r (nI_1 i) (ih r (hJ.imp (fun z => ⟨z.1, fun n hn => ?_⟩) id)))
      by_cases e : n = i
      · subst e
        exact z.2.2
      · exact z.2.1 n (by omega)
    · rintro m' j r hj hJ ihj
      have keep : (gs_sn ek ex ey i = true → gs_E ek ex ey i j → gs_nu ek ex ey j ≤ gs_nu ek ex ey i → gs_bf ek ex ey j i) → wX_findStraight_15 post (wX_findStraight_7 post f_stale f_seen f_seenCount f_meetings f_codeCount f_taskCount f_hasRun f_inputLeft f_toldCount f_lastNode f_hasStopped a_actKind a_actVariable a_actOperand a_endKind a_endVariable a_endX a_endY a_path a_pathSide a_leaving a_numberOf a_nodeAt a_successors a_predecessors a_before a_behind a_loop a_liveAt a_knownAt a_code a_task a_variable a_latestTold m) (nI i) f_stale f_seen f_seenCount f_meetings f_codeCount f_taskCount f_hasRun f_inputLeft f_toldCount f_lastNode f_hasStopped a_actKind a_actVariable a_actOperand a_endKind a_endVariable a_endX a_endY a_path a_pathSide a_leaving a_numberOf a_nodeAt a_successors a_predecessors a_before a_behind a_loop a_liveAt a_knownAt a_code a_task a_variable a_latestTold m' (nI (j + 1)) r := fun q => ihj r (hJ.imp (fun z => ⟨z.1, z.2.1, fun s hs => by
        by_cases e : s = j
        · subst e
          exact q
        · exact z.2.2 s (by omega)⟩) id)
      refine br_f (gx_16 hj) ⟨gx_in hi, gx_hma LK.1 hi hj (fun q => ⟨gx_in hj, gx_in hi, ?_⟩) (fun q => ?_)⟩
      · have qs := gs_sn_E hx hy q.1 q.2
        have hl := (gx_nu_lt hx hy hN q.1 qs).1
        refine br_c (fun w => ?_) (fun w => ?_)
        · refine br_t rfl (nm_r (nI_1 j) (keep (fun _ _ z => ?_)))
          have := hl.mp w
          omega
        · refine br_f (by decide) ⟨gx_in hi, gx_hma hb hi hj (fun y => nm_r (nI_1 j) (keep (fun _ _ _ => y))) (fun y => nm_r (nI_1 j) (ihj 0 (Or.inr ⟨rfl, fun z => y (z i hi j hj q.1 q.2 ?_)⟩)))⟩
          have : ¬ gs_nu ek ex ey i < gs_nu ek ex ey j := fun z => w (hl.mpr z)
          omega
      · exact br_t rfl (nm_r (nI_1 j) (keep (fun z1 z2 _ => absurd ⟨z1, z2⟩ q)))
theorem gx_meet {post : SX → Prop} (hx : ∀ n, ex n < 16) (hy : ∀ n, ey n < 16) (LK : gx_LK ek ex ey a_successors a_predecessors) (hN : gx_NU ek ex ey a_numberOf)
    (h : ∀ r, gs_Mk r (gs_mt ek ex ey) → post (f_stale, f_seen, f_seenCount, f_isStraight, r, f_codeCount, f_taskCount, f_hasRun, f_inputLeft, f_toldCount, f_lastNode, f_hasStopped, a_actKind, a_actVariable, a_actOperand, a_endKind, a_endVariable, a_endX, a_endY, a_path, a_pathSide, a_leaving, a_numberOf, a_nodeAt, a_successors, a_predecessors, a_before, a_behind, a_loop, a_liveAt, a_knownAt, a_code, a_task, a_variable, a_latestTold)) : wpX_findMeetings post (f_stale, f_seen, f_seenCount, f_isStraight, f_meetings, f_codeCount, f_taskCount, f_hasRun, f_inputLeft, f_toldCount, f_lastNode, f_hasStopped, a_actKind, a_actVariable, a_actOperand, a_endKind, a_endVariable, a_endX, a_endY, a_path, a_pathSide, a_leaving, a_numberOf, a_nodeAt, a_successors, a_predecessors, a_before, a_behind, a_loop, a_liveAt, a_knownAt, a_code, a_task, a_variable, a_latestTold) := by
  refine pk_loop (fun m i (r : Int32) => wX_findMeetings_7 post f_stale f_seen f_seenCount f_isStraight f_codeCount f_taskCount f_hasRun f_inputLeft f_toldCount f_lastNode f_hasStopped a_actKind a_actVariable a_actOperand a_endKind a_endVariable a_endX a_endY a_path a_pathSide a_leaving a_numberOf a_nodeAt a_successors a_predecessors a_before a_behind a_loop a_liveAt a_knownAt a_code a_task a_variable a_latestTold m (nI i) r) (fun i r => gs_Mk r (fun n => n < i ∧ gs_mt ek ex ey n)) 16 0 0 (by omega) (gs_Mk_0 (fun i _ z => absurd z.1 (Nat.not_lt_zero i))) ?_ ?_
  · rintro m r hI
    exact br_t gx_x16 (h r (gs_Mk_iff hI (fun n hn => ⟨fun z => z.2, fun z => ⟨hn, z⟩⟩)))
  · rintro m i r hi hI ih
    refine br_f (gx_16 hi) ?_
    refine pk_loop (fun m' j (c : Int32) => wX_findMeetings_17 post (wX_findMeetings_7 post f_stale f_seen f_seenCount f_isStraight f_codeCount f_taskCount f_hasRun f_inputLeft f_toldCount f_lastNode f_hasStopped a_actKind a_actVariable a_actOperand a_endKind a_endVariable a_endX a_endY a_path a_pathSide a_leaving a_numberOf a_nodeAt a_successors a_predecessors a_before a_behind a_loop a_liveAt a_knownAt a_code a_task a_variable a_latestTold m) (nI i) f_stale f_seen f_seenCount f_isStraight r f_codeCount f_taskCount f_hasRun f_inputLeft f_toldCount f_lastNode f_hasStopped a_actKind a_actVariable a_actOperand a_endKind a_endVariable a_endX a_endY a_path a_pathSide a_leaving a_numberOf a_nodeAt a_successors a_predecessors a_before a_behind a_loop a_liveAt a_knownAt a_code a_task a_variable a_latestTold m' c (nI j)) (fun j c => c = nI (gs_cn (gs_mtc ek ex ey i) j)) 16 0 0 (by omega) rfl ?_ ?_
    · rintro m' c rfl
      have hc := gs_cn_le (gs_mtc ek ex ey i) 16
      refine br_t gx_x16 (pk_le (gs_cn (gs_mtc ek ex ey i) 16) 1 (fun z => ?_) (fun z => ?_))
      · refine nm_r (nI_1 i) (ih r (gs_Mk_iff hI (fun n _ => ⟨fun w => ⟨by omega, w.2⟩, fun w => ⟨?_, w.2⟩⟩)))
        by_cases e : n = i
        · subst e
          have : 1 < gs_cn (gs_mtc ek ex ey n) 16 := w.2
          omega
        · omega
      · refine nm_e (nm_r (nI_1 i) (ih _ (gs_Mk_iff (gs_Mk_set hI hi) (fun n _ => ?_))))
        constructor
        · rintro (w | rfl)
          · exact ⟨by omega, w.2⟩
          · exact ⟨by omega, z⟩
        · rintro ⟨w1, w2⟩
          by_cases e : n = i
          · exact Or.inr e
          · exact Or.inl ⟨by omega, w2⟩
    · rintro m' j c hj rfl ihj
      have no : ¬ (gs_sn ek ex ey j = true ∧ gs_E ek ex ey j i ∧ gs_nu ek ex ey j < gs_nu ek ex ey i) → nI (gs_cn (gs_mtc ek ex ey i) j) = nI (gs_cn (gs_mtc ek ex ey i) (j + 1)) := fun q => by
        have e : gs_mtc ek ex ey i j = false := gs_B_f.mpr q
        show _ = nI (gs_cn (gs_mtc ek ex ey i) j + (if gs_mtc ek ex ey i j = true then 1 else 0))
        rw [e]
        rfl
      refine br_f (gx_16 hj) ⟨gx_in hi, gx_hma LK.2 hi hj (fun q => ⟨gx_in hj, gx_in hi, ?_⟩) (fun q => ?_)⟩
      · have qs := gs_sn_E hx hy q.1 q.2
        have hl := (gx_nu_lt hx hy hN qs q.1).2
        refine br_c (fun w => ?_) (fun w => ?_)
        · refine nm_r (nI_1 j) (ihj _ (no (fun z => ?_)))
          have := hl.mp w
          omega
        · refine nm_r (nI_1 _) (nm_r (nI_1 j) (ihj _ ?_))
          have hlt : gs_nu ek ex ey j < gs_nu ek ex ey i := by
            have : ¬ gs_nu ek ex ey i ≤ gs_nu ek ex ey j := fun z => w (hl.mpr z)
            omega
          have e : gs_mtc ek ex ey i j = true := gs_B_t.mpr ⟨q.1, q.2, hlt⟩
          show _ = nI (gs_cn (gs_mtc ek ex ey i) j + (if gs_mtc ek ex ey i j = true then 1 else 0))
          rw [e]
          rfl
      · exact nm_r (nI_1 j) (ihj _ (no (fun z => q ⟨z.1, z.2.1⟩)))
theorem gx_near_before {post : Int32 → Prop} {C : Nat → Nat → Prop} {n : Nat} (hn : n < 16) (hC : ∀ n, n < 16 → gs_Mk (a_before n) (fun d => C d n)) (h : ∀ r, gs_Fst r (gs_near C n) → post r) : wpX_nearest__before post (f_stale, f_seen, f_seenCount, f_isStraight, f_meetings, f_codeCount, f_taskCount, f_hasRun, f_inputLeft, f_toldCount, f_lastNode, f_hasStopped, a_actKind, a_actVariable, a_actOperand, a_endKind, a_endVariable, a_endX, a_endY, a_path, a_pathSide, a_leaving, a_numberOf, a_nodeAt, a_successors, a_predecessors, a_before, a_behind, a_loop, a_liveAt, a_knownAt, a_code, a_task, a_variable, a_latestTold) (nI n) := by
  have hM : gs_Mk (a_before (nI n).toNatClampNeg &&& (((1 : Int32) <<< (nI n &&& 31)) ^^^ (-1))) (fun d => C d n ∧ ¬ d = n) := by
    rw [gx_cl hn]
    exact gs_Mk_andn (hC n hn) (gs_Mk_bit hn)
  refine ⟨gx_in hn, nm_e ?_⟩
  generalize a_before (nI n).toNatClampNeg &&& (((1 : Int32) <<< (nI n &&& 31)) ^^^ (-1)) = w at hM
  refine pk_loop (fun m i (_ : Unit) => wX_nearest__before_12 post w f_stale f_seen f_seenCount f_isStraight f_meetings f_codeCount f_taskCount f_hasRun f_inputLeft f_toldCount f_lastNode f_hasStopped a_actKind a_actVariable a_actOperand a_endKind a_endVariable a_endX a_endY a_path a_pathSide a_leaving a_numberOf a_nodeAt a_successors a_predecessors a_before a_behind a_loop a_liveAt a_knownAt a_code a_task a_variable a_latestTold m (nI i)) (fun i _ => ∀ d, d < i → ¬ gs_near C n d) 16 0 () (by omega) (fun j hj => absurd hj (Nat.not_lt_zero j)) ?_ ?_
  · rintro m _ hI
    exact br_t gx_x16 (h _ (Or.inr ⟨rfl, hI⟩))
  · rintro m i _ hi hI ih
    have up : ¬ gs_near C n i → ∀ d, d < i + 1 → ¬ gs_near C n d := fun q d hd => by
      by_cases e : d = i
      · exact e ▸ q
      · exact hI d (by omega)
    have hz : (w &&& ((a_before (nI i).toNatClampNeg) ^^^ (-1))) = 0 ↔ ∀ e, e < 16 → ¬ ((C e n ∧ ¬ e = n) ∧ ¬ C e i) := by
      rw [gx_cl hi]
      exact gs_Mk_z (gs_Mk_andn hM (hC i hi))
    refine br_f (gx_16 hi) (gx_hm hM hi (fun q => ⟨gx_in hi, br_c (fun y => ?_) (fun y => ?_)⟩) (fun q => ?_))
    · refine h _ (Or.inl ⟨i, hi, rfl, ⟨q.2, q.1, fun e he z1 z2 => ?_⟩, hI⟩)
      apply Classical.byContradiction
      exact fun z3 => hz.mp y e he ⟨⟨z2, z1⟩, z3⟩
    · refine nm_r (nI_1 i) (ih () (up (fun z => y (hz.mpr (fun e he w2 => w2.2 (z.2.2 e he w2.1.2 w2.1.1))))))
    · exact nm_r (nI_1 i) (ih () (up (fun z => q ⟨z.2.1, z.1⟩)))
theorem gx_border_before {post : Int32 → Prop} {C K : Nat → Nat → Prop} {t : Nat} (ht : t < 16) (hC : ∀ n, n < 16 → gs_Mk (a_before n) (fun d => C d n)) (hL : ∀ n, n < 16 → gs_Mk (a_predecessors n) (K n))
    (h : ∀ r, gs_Mk r (fun n => (n = t ∨ ¬ C t n) ∧ ∃ p, p < 16 ∧ K n p ∧ C t p) → post r) : wpX_border__before_predecessors post (f_stale, f_seen, f_seenCount, f_isStraight, f_meetings, f_codeCount, f_taskCount, f_hasRun, f_inputLeft, f_toldCount, f_lastNode, f_hasStopped, a_actKind, a_actVariable, a_actOperand, a_endKind, a_endVariable, a_endX, a_endY, a_path, a_pathSide, a_leaving, a_numberOf, a_nodeAt, a_successors, a_predecessors, a_before, a_behind, a_loop, a_liveAt, a_knownAt, a_code, a_task, a_variable, a_latestTold) (nI t) := by
  refine pk_loop (fun m i r => wX_border__before_predecessors_5 post (nI t) f_stale f_seen f_seenCount f_isStraight f_meetings f_codeCount f_taskCount f_hasRun f_inputLeft f_toldCount f_lastNode f_hasStopped a_actKind a_actVariable a_actOperand a_endKind a_endVariable a_endX a_endY a_path a_pathSide a_leaving a_numberOf a_nodeAt a_successors a_predecessors a_before a_behind a_loop a_liveAt a_knownAt a_code a_task a_variable a_latestTold m r (nI i)) (fun i r => gs_Mk r (fun n => n < i ∧ (n = t ∨ ¬ C t n) ∧ ∃ p, p < 16 ∧ K n p ∧ C t p)) 16 0 0 (by omega) (gs_Mk_0 (fun i _ z => absurd z.1 (Nat.not_lt_zero i))) ?_ ?_
  · rintro m r hI
    exact br_t gx_x16 (h r (gs_Mk_iff hI (fun n hn => ⟨fun z => z.2, fun z => ⟨hn, z⟩⟩)))
  · rintro m i r hi hI ih
    refine br_f (gx_16 hi) ?_
    refine pk_loop (fun m' j r => wX_border__before_predecessors_15 post (wX_border__before_predecessors_5 post (nI t) f_stale f_seen f_seenCount f_isStraight f_meetings f_codeCount f_taskCount f_hasRun f_inputLeft f_toldCount f_lastNode f_hasStopped a_actKind a_actVariable a_actOperand a_endKind a_endVariable a_endX a_endY a_path a_pathSide a_leaving a_numberOf a_nodeAt a_successors a_predecessors a_before a_behind a_loop a_liveAt a_knownAt a_code a_task a_variable a_latestTold m) (nI t) (nI i) f_stale f_seen f_seenCount f_isStraight f_meetings f_codeCount f_taskCount f_hasRun f_inputLeft f_toldCount f_lastNode f_hasStopped a_actKind a_actVariable a_actOperand a_endKind a_endVariable a_endX a_endY a_path a_pathSide a_leaving a_numberOf a_nodeAt a_successors a_predecessors a_before a_behind a_loop a_liveAt a_knownAt a_code a_task a_variable a_latestTold m' r (nI j)) (fun j r => gs_Mk r (fun n => (n < i ∧ (n = t ∨ ¬ C t n) ∧ ∃ p, p < 16 ∧ K n p ∧ C t p) ∨ (n = i ∧ (n = t ∨ ¬ C t n) ∧ ∃ p, p < j ∧ K n p ∧ C t p))) 16 0 r (by omega) (gs_Mk_iff hI (fun n _ => ⟨Or.inl, fun z => z.elim id (fun ⟨_, _, p, z, _⟩ => absurd z (Nat.not_lt_zero p))⟩)) ?_ ?_
    · rintro m' r hJ
      refine br_t gx_x16 (nm_r (nI_1 i) (ih r (gs_Mk_iff hJ (fun n _ => ?_))))
      constructor
      · rintro (z | ⟨rfl, z⟩)
        · exact ⟨by omega, z.2⟩
        · exact ⟨by omega, z⟩
      · rintro ⟨z1, z2⟩
        by_cases e : n = i
        · exact Or.inr ⟨e, z2⟩
        · exact Or.inl ⟨by omega, z2⟩
    · rintro m' j r hj hJ ihj
      have keep : ¬ ((i = t ∨ ¬ C t i) ∧ K i j ∧ C t j) → gs_Mk r (fun n => (n < i ∧ (n = t ∨ ¬ C t n) ∧ ∃ p, p < 16 ∧ K n p ∧ C t p) ∨ (n = i ∧ (n = t ∨ ¬ C t n) ∧ ∃ p, p < j + 1 ∧ K n p ∧ C t p)) := fun q => gs_Mk_iff hJ (fun n _ => by
        constructor
        · rintro (z | ⟨z1, z2, p, z3, z4⟩)
          · exact Or.inl z
          · exact Or.inr ⟨z1, z2, p, by omega, z4⟩
        · rintro (z | ⟨z1, z2, p, z3, z4⟩)
          · exact Or.inl z
          · by_cases e : p = j
            · subst e
              subst z1
              exact absurd ⟨z2, z4⟩ q
            · exact Or.inr ⟨z1, z2, p, by omega, z4⟩)
      have put : ((i = t ∨ ¬ C t i) ∧ K i j ∧ C t j) → gs_Mk (r ||| ((1 : Int32) <<< (nI i &&& 31))) (fun n => (n < i ∧ (n = t ∨ ¬ C t n) ∧ ∃ p, p < 16 ∧ K n p ∧ C t p) ∨ (n = i ∧ (n = t ∨ ¬ C t n) ∧ ∃ p, p < j + 1 ∧ K n p ∧ C t p)) := fun q => gs_Mk_iff (gs_Mk_set hJ hi) (fun n _ => by
        constructor
        · rintro ((z | ⟨z1, z2, p, z3, z4⟩) | rfl)
          · exact Or.inl z
          · exact Or.inr ⟨z1, z2, p, by omega, z4⟩
          · exact Or.inr ⟨rfl, q.1, j, by omega, q.2⟩
        · rintro (z | ⟨z1, _⟩)
          · exact Or.inl (Or.inl z)
          · exact Or.inr z1)
      refine br_f (gx_16 hj) ⟨gx_in hi, gx_hma hL hi hj (fun q => ⟨gx_in hj, gx_hma hC hj ht (fun y => ?_) (fun y => ?_)⟩) (fun q => ?_)⟩
      · refine br_f (by decide) (pk_eq i t (fun e => ?_) (fun e => ⟨gx_in hi, gx_hma hC hi ht (fun w => ?_) (fun w => ?_)⟩))
        · exact nm_e (nm_r (nI_1 j) (ihj _ (put ⟨Or.inl e, q, y⟩)))
        · exact nm_r (nI_1 j) (ihj _ (keep (fun z => z.1.elim (fun z => e z) (fun z => z w))))
        · exact nm_e (nm_r (nI_1 j) (ihj _ (put ⟨Or.inr w, q, y⟩)))
      · exact br_t rfl (nm_r (nI_1 j) (ihj _ (keep (fun z => y z.2.2))))
      · exact br_t rfl (nm_r (nI_1 j) (ihj _ (keep (fun z => q z.2.1))))
theorem gx_near_behind {post : Int32 → Prop} {C : Nat → Nat → Prop} {n : Nat} (hn : n < 16) (hC : ∀ n, n < 16 → gs_Mk (a_behind n) (fun d => C d n)) (h : ∀ r, gs_Fst r (gs_near C n) → post r) : wpX_nearest__behind post (f_stale, f_seen, f_seenCount, f_isStraight, f_meetings, f_codeCount, f_taskCount, f_hasRun, f_inputLeft, f_toldCount, f_lastNode, f_hasStopped, a_actKind, a_actVariable, a_actOperand, a_endKind, a_endVariable, a_endX, a_endY, a_path, a_pathSide, a_leaving, a_numberOf, a_nodeAt, a_successors, a_predecessors, a_before, a_behind, a_loop, a_liveAt, a_knownAt, a_code, a_task, a_variable, a_latestTold) (nI n) := by
  have hM : gs_Mk (a_behind (nI n).toNatClampNeg &&& (((1 : Int32) <<< (nI n &&& 31)) ^^^ (-1))) (fun d => C d n ∧ ¬ d = n) := by
    rw [gx_cl hn]
    exact gs_Mk_andn (hC n hn) (gs_Mk_bit hn)
  refine ⟨gx_in hn, nm_e ?_⟩
  generalize a_behind (nI n).toNatClampNeg &&& (((1 : Int32) <<< (nI n &&& 31)) ^^^ (-1)) = w at hM
  refine pk_loop (fun m i (_ : Unit) => wX_nearest__behind_12 post w f_stale f_seen f_seenCount f_isStraight f_meetings f_codeCount f_taskCount f_hasRun f_inputLeft f_toldCount f_lastNode f_hasStopped a_actKind a_actVariable a_actOperand a_endKind a_endVariable a_endX a_endY a_path a_pathSide a_leaving a_numberOf a_nodeAt a_successors a_predecessors a_before a_behind a_loop a_liveAt a_knownAt a_code a_task a_variable a_latestTold m (nI i)) (fun i _ => ∀ d, d < i → ¬ gs_near C n d) 16 0 () (by omega) (fun j hj => absurd hj (Nat.not_lt_zero j)) ?_ ?_
  · rintro m _ hI
    exact br_t gx_x16 (h _ (Or.inr ⟨rfl, hI⟩))
  · rintro m i _ hi hI ih
    have up : ¬ gs_near C n i → ∀ d, d < i + 1 → ¬ gs_near C n d := fun q d hd => by
      by_cases e : d = i
      · exact e ▸ q
      · exact hI d (by omega)
    have hz : (w &&& ((a_behind (nI i).toNatClampNeg) ^^^ (-1))) = 0 ↔ ∀ e, e < 16 → ¬ ((C e n ∧ ¬ e = n) ∧ ¬ C e i) := by
      rw [gx_cl hi]
      exact gs_Mk_z (gs_Mk_andn hM (hC i hi))
    refine br_f (gx_16 hi) (gx_hm hM hi (fun q => ⟨gx_in hi, br_c (fun y => ?_) (fun y => ?_)⟩) (fun q => ?_))
    · refine h _ (Or.inl ⟨i, hi, rfl, ⟨q.2, q.1, fun e he z1 z2 => ?_⟩, hI⟩)
      apply Classical.byContradiction
      exact fun z3 => hz.mp y e he ⟨⟨z2, z1⟩, z3⟩
    · refine nm_r (nI_1 i) (ih () (up (fun z => y (hz.mpr (fun e he w2 => w2.2 (z.2.2 e he w2.1.2 w2.1.1))))))
    · exact nm_r (nI_1 i) (ih () (up (fun z => q ⟨z.2.1, z.1⟩)))
theorem gx_border_behind {post : Int32 → Prop} {C K : Nat → Nat → Prop} {t : Nat} (ht : t < 16) (hC : ∀ n, n < 16 → gs_Mk (a_behind n) (fun d => C d n)) (hL : ∀ n, n < 16 → gs_Mk (a_successors n) (K n))
    (h : ∀ r, gs_Mk r (fun n => (n = t ∨ ¬ C t n) ∧ ∃ p, p < 16 ∧ K n p ∧ C t p) → post r) : wpX_border__behind_successors post (f_stale, f_seen, f_seenCount, f_isStraight, f_meetings, f_codeCount, f_taskCount, f_hasRun, f_inputLeft, f_toldCount, f_lastNode, f_hasStopped, a_actKind, a_actVariable, a_actOperand, a_endKind, a_endVariable, a_endX, a_endY, a_path, a_pathSide, a_leaving, a_numberOf, a_nodeAt, a_successors, a_predecessors, a_before, a_behind, a_loop, a_liveAt, a_knownAt, a_code, a_task, a_variable, a_latestTold) (nI t) := by
  refine pk_loop (fun m i r => wX_border__behind_successors_5 post (nI t) f_stale f_seen f_seenCount f_isStraight f_meetings f_codeCount f_taskCount f_hasRun f_inputLeft f_toldCount f_lastNode f_hasStopped a_actKind a_actVariable a_actOperand a_endKind a_endVariable a_endX a_endY a_path a_pathSide a_leaving a_numberOf a_nodeAt a_successors a_predecessors a_before a_behind a_loop a_liveAt a_knownAt a_code a_task a_variable a_latestTold m r (nI i)) (fun i r => gs_Mk r (fun n => n < i ∧ (n = t ∨ ¬ C t n) ∧ ∃ p, p < 16 ∧ K n p ∧ C t p)) 16 0 0 (by omega) (gs_Mk_0 (fun i _ z => absurd z.1 (Nat.not_lt_zero i))) ?_ ?_
  · rintro m r hI
    exact br_t gx_x16 (h r (gs_Mk_iff hI (fun n hn => ⟨fun z => z.2, fun z => ⟨hn, z⟩⟩)))
  · rintro m i r hi hI ih
    refine br_f (gx_16 hi) ?_
    refine pk_loop (fun m' j r => wX_border__behind_successors_15 post (wX_border__behind_successors_5 post (nI t) f_stale f_seen f_seenCount f_isStraight f_meetings f_codeCount f_taskCount f_hasRun f_inputLeft f_toldCount f_lastNode f_hasStopped a_actKind a_actVariable a_actOperand a_endKind a_endVariable a_endX a_endY a_path a_pathSide a_leaving a_numberOf a_nodeAt a_successors a_predecessors a_before a_behind a_loop a_liveAt a_knownAt a_code a_task a_variable a_latestTold m) (nI t) (nI i) f_stale f_seen f_seenCount f_isStraight f_meetings f_codeCount f_taskCount f_hasRun f_inputLeft f_toldCount f_lastNode f_hasStopped a_actKind a_actVariable a_actOperand a_endKind a_endVariable a_endX a_endY a_path a_pathSide a_leaving a_numberOf a_nodeAt a_successors a_predecessors a_before a_behind a_loop a_liveAt a_knownAt a_code a_task a_variable a_latestTold m' r (nI j)) (fun j r => gs_Mk r (fun n => (n < i ∧ (n = t ∨ ¬ C t n) ∧ ∃ p, p < 16 ∧ K n p ∧ C t p) ∨ (n = i ∧ (n = t ∨ ¬ C t n) ∧ ∃ p, p < j ∧ K n p ∧ C t p))) 16 0 r (by omega) (gs_Mk_iff hI (fun n _ => ⟨Or.inl, fun z => z.elim id (fun ⟨_, _, p, z, _⟩ => absurd z (Nat.not_lt_zero p))⟩)) ?_ ?_
    · rintro m' r hJ
      refine br_t gx_x16 (nm_r (nI_1 i) (ih r (gs_Mk_iff hJ (fun n _ => ?_))))
      constructor
      · rintro (z | ⟨rfl, z⟩)
        · exact ⟨by omega, z.2⟩
        · exact ⟨by omega, z⟩
      · rintro ⟨z1, z2⟩
        by_cases e : n = i
        · exact Or.inr ⟨e, z2⟩
        · exact Or.inl ⟨by omega, z2⟩
    · rintro m' j r hj hJ ihj
      have keep : ¬ ((i = t ∨ ¬ C t i) ∧ K i j ∧ C t j) → gs_Mk r (fun n => (n < i ∧ (n = t ∨ ¬ C t n) ∧ ∃ p, p < 16 ∧ K n p ∧ C t p) ∨ (n = i ∧ (n = t ∨ ¬ C t n) ∧ ∃ p, p < j + 1 ∧ K n p ∧ C t p)) := fun q => gs_Mk_iff hJ (fun n _ => by
        constructor
        · rintro (z | ⟨z1, z2, p, z3, z4⟩)
          · exact Or.inl z
          · exact Or.inr ⟨z1, z2, p, by omega, z4⟩
        · rintro (z | ⟨z1, z2, p, z3, z4⟩)
          · exact Or.inl z
          · by_cases e : p = j
            · subst e
              subst z1
              exact absurd ⟨z2, z4⟩ q
            · exact Or.inr ⟨z1, z2, p, by omega, z4⟩)
      have put : ((i = t ∨ ¬ C t i) ∧ K i j ∧ C t j) → gs_Mk (r ||| ((1 : Int32) <<< (nI i &&& 31))) (fun n => (n < i ∧ (n = t ∨ ¬ C t n) ∧ ∃ p, p < 16 ∧ K n p ∧ C t p) ∨ (n = i ∧ (n = t ∨ ¬ C t n) ∧ ∃ p, p < j + 1 ∧ K n p ∧ C t p)) := fun q => gs_Mk_iff (gs_Mk_set hJ hi) (fun n _ => by
        constructor
        · rintro ((z | ⟨z1, z2, p, z3, z4⟩) | rfl)
          · exact Or.inl z
          · exact Or.inr ⟨z1, z2, p, by omega, z4⟩
          · exact Or.inr ⟨rfl, q.1, j, by omega, q.2⟩
        · rintro (z | ⟨z1, _⟩)
          · exact Or.inl (Or.inl z)
          · exact Or.inr z1)
      refine br_f (gx_16 hj) ⟨gx_in hi, gx_hma hL hi hj (fun q => ⟨gx_in hj, gx_hma hC hj ht (fun y => ?_) (fun y => ?_)⟩) (fun q => ?_)⟩
      · refine br_f (by decide) (pk_eq i t (fun e => ?_) (fun e => ⟨gx_in hi, gx_hma hC hi ht (fun w => ?_) (fun w => ?_)⟩))
        · exact nm_e (nm_r (nI_1 j) (ihj _ (put ⟨Or.inl e, q, y⟩)))
        · exact nm_r (nI_1 j) (ihj _ (keep (fun z => z.1.elim (fun z => e z) (fun z => z w))))
        · exact nm_e (nm_r (nI_1 j) (ihj _ (put ⟨Or.inr w, q, y⟩)))
      · exact br_t rfl (nm_r (nI_1 j) (ihj _ (keep (fun z => y z.2.2))))
      · exact br_t rfl (nm_r (nI_1 j) (ihj _ (keep (fun z => q z.2.1))))
end
end
section
/-! X: the numbers -/
def gs_st2 (a b : Nat → Int32) : List (Nat × Nat) → Prop
  | [] => True
  | e :: t => a t.length = nI e.1 ∧ b t.length = nI e.2 ∧ gs_st2 a b t
theorem gs_st2_a {a b : Nat → Int32} {k : Nat} {v : Int32} : ∀ (l : List (Nat × Nat)), l.length ≤ k → gs_st2 a b l → gs_st2 (upd a k v) b l
  | [], _, _ => trivial
  | e :: t, hk, h => by
    simp only [List.length_cons] at hk
    exact ⟨(pk_un (by omega)).trans h.1, h.2.1, gs_st2_a t (by omega) h.2.2⟩
theorem gs_st2_b {a b : Nat → Int32} {k : Nat} {v : Int32} : ∀ (l : List (Nat × Nat)), l.length ≤ k → gs_st2 a b l → gs_st2 a (upd b k v) l
  | [], _, _ => trivial
  | e :: t, hk, h => by
    simp only [List.length_cons] at hk
    exact ⟨h.1, (pk_un (by omega)).trans h.2.1, gs_st2_b t (by omega) h.2.2⟩
theorem gx_ne1 {t : Nat} (h : t < 16) : ¬ nI t = -1 := by
  intro z
  have := nI_pos (n := t) (by omega)
  rw [z] at this
  exact this (by decide)
section
variable {f_stale f_seen f_seenCount f_isStraight f_meetings f_codeCount f_taskCount f_hasRun f_toldCount f_lastNode f_hasStopped : Int32} {f_inputLeft : Int64} {a_actKind a_actVariable a_actOperand a_endKind a_endVariable a_endX a_endY a_path a_pathSide a_leaving a_numberOf a_nodeAt a_successors a_predecessors a_before a_behind a_loop a_liveAt a_knownAt a_code a_task a_variable a_latestTold : Nat → Int32} {ek ex ey : Nat → Nat}
theorem gs_Inv_len {stk : List (Nat × Nat)} {sn : Nat → Bool} {lv : List Nat} (h : gs_Inv ek ex ey stk sn lv) : stk.length ≤ 16 ∧ lv.length ≤ 16 := by
  constructor
  · have := gs_nd_len (stk.map Prod.fst) sn h.2.2.1 (fun n hn => by
      obtain ⟨e, he, rfl⟩ := List.mem_map.mp hn
      exact ⟨(h.1 e he).1, (h.1 e he).2.2⟩)
    rw [List.length_map] at this
    exact Nat.le_trans this (gs_cn_le _ 16)
  · exact Nat.le_trans (gs_nd_len lv sn h.2.2.2.1 h.2.1) (gs_cn_le _ 16)
/-- what X's going through holds of the pure one -/
def gx_DS (S : List (Nat × Nat) × (Nat → Bool) × List Nat) (s : Int32 × Int32 × Int32 × (Nat → Int32) × (Nat → Int32) × (Nat → Int32)) : Prop :=
  s.1 = nI S.1.length ∧ gs_Mk s.2.1 (fun i => S.2.1 i = true) ∧ s.2.2.1 = nI S.2.2.length ∧ gs_st2 s.2.2.2.1 s.2.2.2.2.1 S.1 ∧ gs_st s.2.2.2.2.2 S.2.2
/-- the numbers as they shall be -/
def gx_NA (ek ex ey : Nat → Nat) (nodeAt : Nat → Int32) : Prop := ∀ k, k < (gs_lv ek ex ey).length → nodeAt k = nI (gs_at (gs_lv ek ex ey) k)
theorem gx_num_173 {post : SX → Prop} (hx : ∀ n, ex n < 16) (hy : ∀ n, ey n < 16) (hc : f_seenCount = nI (gs_lv ek ex ey).length) (hl : gs_st a_leaving (gs_lv ek ex ey))
    (h : ∀ nu na, gx_NU ek ex ey nu → gx_NA ek ex ey na → post (f_stale, f_seen, f_seenCount, f_isStraight, f_meetings, f_codeCount, f_taskCount, f_hasRun, f_inputLeft, f_toldCount, f_lastNode, f_hasStopped, a_actKind, a_actVariable, a_actOperand, a_endKind, a_endVariable, a_endX, a_endY, a_path, a_pathSide, a_leaving, nu, na, a_successors, a_predecessors, a_before, a_behind, a_loop, a_liveAt, a_knownAt, a_code, a_task, a_variable, a_latestTold)) : ∃ m, wX_numberNodes_173 post f_stale f_seen f_seenCount f_isStraight f_meetings f_codeCount f_taskCount f_hasRun f_inputLeft f_toldCount f_lastNode f_hasStopped m 0 a_actKind a_actVariable a_actOperand a_endKind a_endVariable a_endX a_endY a_path a_pathSide a_leaving a_numberOf a_nodeAt a_successors a_predecessors a_before a_behind a_loop a_liveAt a_knownAt a_code a_task a_variable a_latestTold := by
  have L := gs_lv_len (ek := ek) hx hy
  have nd := gs_lv_nd (ek := ek) hx hy
  refine pk_loop (fun m i (s : (Nat → Int32) × (Nat → Int32)) => wX_numberNodes_173 post f_stale f_seen f_seenCount f_isStraight f_meetings f_codeCount f_taskCount f_hasRun f_inputLeft f_toldCount f_lastNode f_hasStopped m (nI i) a_actKind a_actVariable a_actOperand a_endKind a_endVariable a_endX a_endY a_path a_pathSide a_leaving s.1 s.2 a_successors a_predecessors a_before a_behind a_loop a_liveAt a_knownAt a_code a_task a_variable a_latestTold) (fun i s => ∀ j, j < i → s.1 (gs_at (gs_lv ek ex ey) j) = nI j ∧ s.2 j = nI (gs_at (gs_lv ek ex ey) j)) (gs_lv ek ex ey).length 0 (a_numberOf, a_nodeAt) (by omega) (fun j hj => absurd hj (Nat.not_lt_zero j)) ?_ ?_
  · rintro m s hI
    refine br_t ?_ (h _ _ (fun n hn => ?_) (fun k hk => (hI k hk).2))
    · rw [hc]
      exact nI_le (Nat.le_refl _) (by omega)
    · have hm := (gs_sn_lv hx hy).mp hn
      have := (hI _ (gs_ix_lt _ n hm)).1
      rw [gs_at_ix _ n hm] at this
      exact this
  · rintro m i s hi hI ih
    have e : (f_seenCount - 1) - nI i = nI ((gs_lv ek ex ey).length - 1 - i) := by
      rw [hc, show (1 : Int32) = nI 1 from rfl, pk_sub (by omega), pk_sub (by omega)]
    have em : gs_at (gs_lv ek ex ey) i < 16 := gs_sn_lt hx hy ((gs_sn_lv hx hy).mpr (gs_at_mem _ i hi))
    refine br_f ?_ ⟨?_, nm_r (e' := nI (gs_at (gs_lv ek ex ey) i)) ?_ ⟨gx_in em, nm_r (e' := upd s.1 (gs_at (gs_lv ek ex ey) i) (nI i)) (by rw [gx_cl em]) ⟨gx_in (by omega), nm_r (e' := upd s.2 i (nI (gs_at (gs_lv ek ex ey) i))) (by rw [gx_cl (by omega)]) (nm_r (nI_1 i) (ih (_, _) (fun j hj => ?_)))⟩⟩⟩
    · rw [hc]
      exact nI_ge hi (by omega)
    · rw [e]
      exact gx_in (by omega)
    · rw [e, gx_cl (by omega)]
      exact gs_st_at _ i hl hi
    · by_cases q : j = i
      · subst q
        exact ⟨pk_us, pk_us⟩
      · have hj2 := hI j (by omega)
        refine ⟨(pk_un (fun z => q ?_)).trans hj2.1, (pk_un q).trans hj2.2⟩
        have a1 := gs_ix_at _ j nd (show j < (gs_lv ek ex ey).length by omega)
        have a2 := gs_ix_at _ i nd hi
        rw [← a1, ← a2, z]
theorem gx_numbers {post : SX → Prop} (GE : gx_GE ek ex ey a_endKind a_endX a_endY)
    (h : ∀ m pa si le nu na, gs_Mk m (fun i => gs_sn ek ex ey i = true) → gx_NU ek ex ey nu → gx_NA ek ex ey na → post (f_stale, m, nI (gs_lv ek ex ey).length, f_isStraight, f_meetings, f_codeCount, f_taskCount, f_hasRun, f_inputLeft, f_toldCount, f_lastNode, f_hasStopped, a_actKind, a_actVariable, a_actOperand, a_endKind, a_endVariable, a_endX, a_endY, pa, si, le, nu, na, a_successors, a_predecessors, a_before, a_behind, a_loop, a_liveAt, a_knownAt, a_code, a_task, a_variable, a_latestTold)) : wpX_numberNodes post (f_stale, f_seen, f_seenCount, f_isStraight, f_meetings, f_codeCount, f_taskCount, f_hasRun, f_inputLeft, f_toldCount, f_lastNode, f_hasStopped, a_actKind, a_actVariable, a_actOperand, a_endKind, a_endVariable, a_endX, a_endY, a_path, a_pathSide, a_leaving, a_numberOf, a_nodeAt, a_successors, a_predecessors, a_before, a_behind, a_loop, a_liveAt, a_knownAt, a_code, a_task, a_variable, a_latestTold) := by
  have hx := GE.2.1
  have hy := GE.2.2.1
  have K : ∀ (m : Nat) (s : Int32 × Int32 × Int32 × (Nat → Int32) × (Nat → Int32) × (Nat → Int32)), gx_DS (gs_F ek ex ey) s → ∃ n173 : Nat, wX_numberNodes_173 post f_stale s.2.1 s.2.2.1 f_isStraight f_meetings f_codeCount f_taskCount f_hasRun f_inputLeft f_toldCount f_lastNode f_hasStopped n173 0 a_actKind a_actVariable a_actOperand a_endKind a_endVariable a_endX a_endY s.2.2.2.1 s.2.2.2.2.1 s.2.2.2.2.2 a_numberOf a_nodeAt a_successors a_predecessors a_before a_behind a_loop a_liveAt a_knownAt a_code a_task a_variable a_latestTold := by
    intro m s hS
    refine gx_num_173 hx hy hS.2.2.1 hS.2.2.2.2 (fun nu na h1 h2 => ?_)
    rw [hS.2.2.1]
    exact h _ _ _ _ _ _ hS.2.1 h1 h2
  refine nm_e (nm_e ?_)
  refine pk_loop (fun m i (s : Int32 × Int32 × Int32 × (Nat → Int32) × (Nat → Int32) × (Nat → Int32)) => wX_numberNodes_28 post f_stale f_isStraight f_meetings f_codeCount f_taskCount f_hasRun f_inputLeft f_toldCount f_lastNode f_hasStopped m s.1 (nI i) s.2.1 s.2.2.1 a_actKind a_actVariable a_actOperand a_endKind a_endVariable a_endX a_endY s.2.2.2.1 s.2.2.2.2.1 s.2.2.2.2.2 a_numberOf a_nodeAt a_successors a_predecessors a_before a_behind a_loop a_liveAt a_knownAt a_code a_task a_variable a_latestTold) (fun i s => gx_DS (gs_it (gs_ds ek ex ey) i gs_d0) s) 48 0 (1, 1, 0, upd a_path 0 0, upd a_pathSide 0 0, a_leaving) (by omega) ?_ ?_ ?_
  · refine ⟨rfl, gs_Mk_iff gx_one (fun i _ => (decide_eq_true_iff (p := i = 0)).symm), rfl, ⟨rfl, rfl, trivial⟩, trivial⟩
  · rintro m s hI
    rw [← gs_F_eq] at hI
    exact br_t (by decide) (K m s hI)
  · rintro m i s hi hI ih
    have inv := gs_itinv (ek := ek) hx hy i
    have fin := gs_end (ek := ek) hx hy (i := i)
    have stp := gs_it_s (gs_ds ek ex ey) i gs_d0
    refine br_f (nI_ge (b := 48) hi (by decide)) ?_
    generalize gs_it (gs_ds ek ex ey) i gs_d0 = S at hI inv fin stp
    obtain ⟨stk, sn, lv⟩ := S
    obtain ⟨x1, fs, fc, pa, si, le⟩ := s
    obtain ⟨i1, i2, i3, i4, i5⟩ := hI
    dsimp only at i1 i2 i3 i4 i5 inv fin
    have len := gs_Inv_len inv
    cases stk with
    | nil =>
      refine br_t ?_ (K m (x1, fs, fc, pa, si, le) ?_)
      · dsimp only
        rw [i1]
        decide
      · rw [← fin rfl]
        exact ⟨i1, i2, i3, i4, i5⟩
    | cons e t =>
      obtain ⟨n, k⟩ := e
      simp only [List.length_cons] at len
      have tl : t.length < 16 := by omega
      have hn := (inv.1 (n, k) List.mem_cons_self)
      have hn16 : n < 16 := hn.1
      have hk2 : k ≤ 2 := hn.2.1
      have i1' : x1 = nI (t.length + 1) := i1
      have e1 : x1 - 1 = nI t.length := by rw [i1']; exact nI_pred _
      refine br_f ?_ ⟨?_, nm_r (e' := nI n) ?_ ⟨?_, nm_r (e' := nI k) ?_ ?_⟩⟩
      · dsimp only
        rw [i1']
        exact nI_nle (by omega) (by omega)
      · dsimp only
        rw [e1]
        exact gx_in tl
      · dsimp only
        rw [e1, gx_cl tl]
        exact i4.1
      · dsimp only
        rw [e1]
        exact gx_in tl
      · dsimp only
        rw [e1, gx_cl tl]
        exact i4.2.1
      · rcases gs_ds_cases (ek := ek) (ex := ex) (ey := ey) (n := n) sn hk2 with z | ⟨z, hs⟩ | ⟨z, s, hs, hns⟩
        · subst z
          have inv2 := gs_Inv_pop inv
          have len2 := (gs_Inv_len inv2).2
          simp only [List.length_cons] at len2
          rw [gs_ds_pop] at stp
          refine br_t rfl ⟨?_, nm_r (e' := upd le lv.length (nI n)) ?_ (nm_r (e' := nI (lv.length + 1)) ?_ (nm_r (e' := nI t.length) ?_ (nm_r (nI_1 i) (ih (nI t.length, fs, nI (lv.length + 1), pa, si, upd le lv.length (nI n)) ?_))))⟩
          · dsimp only
            rw [i3]
            exact gx_in (by omega)
          · dsimp only
            rw [i3, gx_cl (by omega)]
          · dsimp only
            rw [i3]
            exact nI_1 _
          · dsimp only
            rw [i1']
            exact pk_m1 _
          · rw [stp]
            exact ⟨rfl, i2, rfl, i4.2.2, gs_st_push i5⟩
        · rw [gs_ds_step z hs] at stp
          have fin2 : gx_DS (gs_it (gs_ds ek ex ey) (i + 1) gs_d0) (x1, fs, fc, pa, upd si t.length (nI (k + 1)), le) := by
            rw [stp]
            exact ⟨i1, i2, i3, ⟨i4.1, pk_us, gs_st2_b t (Nat.le_refl _) i4.2.2⟩, i5⟩
          refine br_f ?_ ⟨?_, nm_r (e' := upd si t.length (nI (k + 1))) ?_ (gx_succ GE hn16 z (fun s h16 q => ?_) (fun q => ?_))⟩
          · exact fun q => absurd ((nI_eq (b := 2) (by omega) (by decide)).mp q) (by omega)
          · dsimp only
            rw [e1]
            exact gx_in tl
          · dsimp only
            rw [e1, gx_cl tl, nI_1]
          · refine br_f (gx_ne1 h16) (gx_hm i2 h16 (fun _ => nm_r (nI_1 i) (ih _ fin2)) (fun w => absurd (hs s q) w))
          · exact br_t rfl (nm_r (nI_1 i) (ih _ fin2))
        · rw [gs_ds_push z hs hns] at stp
          have inv2 := gs_Inv_push hx hy inv z hs hns
          have len2 := (gs_Inv_len inv2).1
          simp only [List.length_cons] at len2
          have tl2 : t.length + 1 < 16 := by omega
          refine br_f ?_ ⟨?_, nm_r (e' := upd si t.length (nI (k + 1))) ?_ (gx_succ GE hn16 z (fun s' h16 q => ?_) (fun q => ?_))⟩
          · exact fun q => absurd ((nI_eq (b := 2) (by omega) (by decide)).mp q) (by omega)
          · dsimp only
            rw [e1]
            exact gx_in tl
          · dsimp only
            rw [e1, gx_cl tl, nI_1]
          · have ss : s = s' := Option.some.inj (hs.symm.trans q)
            subst ss
            refine br_f (gx_ne1 h16) (gx_hm i2 h16 (fun w => absurd w hns) (fun _ => ?_))
            refine br_f ?_ (nm_e ⟨?_, nm_r (e' := upd pa (t.length + 1) (nI s)) ?_ ⟨?_, nm_r (e' := upd (upd si t.length (nI (k + 1))) (t.length + 1) 0) ?_ (nm_r (e' := nI (t.length + 2)) ?_ (nm_r (nI_1 i) (ih (nI (t.length + 2), fs ||| ((1 : Int32) <<< (nI s &&& 31)), fc, upd pa (t.length + 1) (nI s), upd (upd si t.length (nI (k + 1))) (t.length + 1) 0, le) ?_)))⟩⟩)
            · dsimp only
              rw [i1']
              exact gx_16 tl2
            · dsimp only
              rw [i1']
              exact gx_in tl2
            · dsimp only
              rw [i1', gx_cl tl2]
            · dsimp only
              rw [i1']
              exact gx_in tl2
            · dsimp only
              rw [i1', gx_cl tl2]
            · dsimp only
              rw [i1']
              exact nI_1 _
            · rw [stp]
              refine ⟨rfl, gs_Mk_iff (gs_Mk_set i2 h16) (fun j _ => ?_), i3, ?_, i5⟩
              · rw [Bool.or_eq_true, decide_eq_true_iff]
              · have a1 := gs_st2_b (v := nI (k + 1)) t (Nat.le_refl _) i4.2.2
                have a2 : gs_st2 pa (upd si t.length (nI (k + 1))) ((n, k + 1) :: t) := ⟨i4.1, pk_us, a1⟩
                exact ⟨pk_us, pk_us, gs_st2_b _ (Nat.le_refl _) (gs_st2_a _ (Nat.le_refl _) a2)⟩
          · rw [hs] at q
            exact nomatch q
end
end
section
/-! X: live variables -/
section
variable (ak av ac ek ev : Nat → Nat)
def gs_rep (n v : Nat) : Prop := (ak n = 1 ∨ ak n = 3 ∨ ak n = 5) ∧ av n = v
def gs_look (n v : Nat) : Prop := ((ak n = 2 ∨ ak n = 4) ∧ av n = v) ∨ (ak n = 3 ∧ ac n = v)
def gs_hit (n v : Nat) : Prop := gs_look ak av ac n v ∨ (¬ gs_rep ak av n v ∧ ek n = 2 ∧ ev n = v)
def gs_rpm (n : Nat) : Int32 := if ak n = 1 ∨ ak n = 3 ∨ ak n = 5 then (1 : Int32) <<< (nI (av n) &&& 31) else 0
/-- v is live at n -/
def gs_liv (ex ey : Nat → Nat) (v n : Nat) : Prop := ∃ m, gs_cl (fun x => x = n) (fun j k => gs_E ek ex ey j k ∧ ¬ gs_rep ak av j v) m ∧ gs_hit ak av ac ek ev m v
/-- the acts as X holds them -/
def gx_GA (a_actKind a_actVariable a_actOperand a_endVariable : Nat → Int32) : Prop :=
  (∀ n, ak n ≤ 5) ∧ (∀ n, av n < 4) ∧ (∀ n, ac n < 16) ∧ (∀ n, ak n = 3 → ac n < 4) ∧ (∀ n, ev n < 4) ∧ (∀ n, a_actKind n = nI (ak n)) ∧ (∀ n, a_actVariable n = nI (av n)) ∧ (∀ n, a_actOperand n = nI (ac n)) ∧ (∀ n, a_endVariable n = nI (ev n))
end
section
variable {f_stale f_seen f_seenCount f_isStraight f_meetings f_codeCount f_taskCount f_hasRun f_toldCount f_lastNode f_hasStopped : Int32} {f_inputLeft : Int64} {a_actKind a_actVariable a_actOperand a_endKind a_endVariable a_endX a_endY a_path a_pathSide a_leaving a_numberOf a_nodeAt a_successors a_predecessors a_before a_behind a_loop a_liveAt a_knownAt a_code a_task a_variable a_latestTold : Nat → Int32} {ek ex ey ak av ac ev : Nat → Nat}
theorem gs_rpm_Mk (hv : ∀ n, av n < 4) (n : Nat) : gs_Mk (gs_rpm ak av n) (gs_rep ak av n) := by
  have := hv n
  unfold gs_rpm
  by_cases z : ak n = 1 ∨ ak n = 3 ∨ ak n = 5
  · rw [if_pos z]
    exact gs_Mk_iff (gs_Mk_bit (by omega)) (fun i _ => ⟨fun q => ⟨z, q.symm⟩, fun q => q.2.symm⟩)
  · rw [if_neg z]
    exact gs_Mk_0 (fun i _ q => z q.1)
theorem gx_repl {post : Int32 → Prop} {n : Nat} (GA : gx_GA ak av ac ev a_actKind a_actVariable a_actOperand a_endVariable) (hn : n < 16) (h : post (gs_rpm ak av n)) : wpX_replacedBy post (f_stale, f_seen, f_seenCount, f_isStraight, f_meetings, f_codeCount, f_taskCount, f_hasRun, f_inputLeft, f_toldCount, f_lastNode, f_hasStopped, a_actKind, a_actVariable, a_actOperand, a_endKind, a_endVariable, a_endX, a_endY, a_path, a_pathSide, a_leaving, a_numberOf, a_nodeAt, a_successors, a_predecessors, a_before, a_behind, a_loop, a_liveAt, a_knownAt, a_code, a_task, a_variable, a_latestTold) (nI n) := by
  obtain ⟨g1, g2, g3, g4, g5, g6, g7, g8, g9⟩ := GA
  have ka := g1 n
  have eq : ∀ b, b < 6 → (nI (ak n) = nI b ↔ ak n = b) := fun b hb => nI_eq (by omega) (by omega)
  have v0 : wX_replacedBy_27 post (nI n) 1 f_stale f_seen f_seenCount f_isStraight f_meetings f_codeCount f_taskCount f_hasRun f_inputLeft f_toldCount f_lastNode f_hasStopped a_actKind a_actVariable a_actOperand a_endKind a_endVariable a_endX a_endY a_path a_pathSide a_leaving a_numberOf a_nodeAt a_successors a_predecessors a_before a_behind a_loop a_liveAt a_knownAt a_code a_task a_variable a_latestTold ↔ post ((1 : Int32) <<< (nI (av n) &&& 31)) := by
    unfold wX_replacedBy_27
    rw [gx_cl hn, g7]
    exact ⟨fun z => (z.2 (by decide)).2, fun z => ⟨fun q => absurd q (by decide), fun _ => ⟨gx_in hn, z⟩⟩⟩
  have v1 : (ak n = 1 ∨ ak n = 3 ∨ ak n = 5) → wX_replacedBy_22 post (nI n) f_stale f_seen f_seenCount f_isStraight f_meetings f_codeCount f_taskCount f_hasRun f_inputLeft f_toldCount f_lastNode f_hasStopped a_actKind a_actVariable a_actOperand a_endKind a_endVariable a_endX a_endY a_path a_pathSide a_leaving a_numberOf a_nodeAt a_successors a_predecessors a_before a_behind a_loop a_liveAt a_knownAt a_code a_task a_variable a_latestTold := fun z => by
    refine v0.mpr ?_
    unfold gs_rpm at h
    rw [if_pos z] at h
    exact h
  refine ⟨gx_in hn, nm_r (e' := nI (ak n)) (by rw [gx_cl hn, g6]) (br_c (fun z => v1 (Or.inl ((eq 1 (by omega)).mp z))) (fun z1 => br_c (fun z => v1 (Or.inr (Or.inl ((eq 3 (by omega)).mp z)))) (fun z3 => br_c (fun z => v1 (Or.inr (Or.inr ((eq 5 (by omega)).mp z)))) (fun z5 => ?_))))⟩
  refine br_t rfl ?_
  unfold gs_rpm at h
  rw [if_neg] at h
  · exact h
  · rintro (z | z | z)
    · exact z1 ((eq 1 (by omega)).mpr z)
    · exact z3 ((eq 3 (by omega)).mpr z)
    · exact z5 ((eq 5 (by omega)).mpr z)
theorem gx_look {post : Int32 → Prop} {n : Nat} (GE : gx_GE ek ex ey a_endKind a_endX a_endY) (GA : gx_GA ak av ac ev a_actKind a_actVariable a_actOperand a_endVariable) (hn : n < 16) (h : ∀ r, gs_Mk r (gs_hit ak av ac ek ev n) → post r) : wpX_lookedAtBy post (f_stale, f_seen, f_seenCount, f_isStraight, f_meetings, f_codeCount, f_taskCount, f_hasRun, f_inputLeft, f_toldCount, f_lastNode, f_hasStopped, a_actKind, a_actVariable, a_actOperand, a_endKind, a_endVariable, a_endX, a_endY, a_path, a_pathSide, a_leaving, a_numberOf, a_nodeAt, a_successors, a_predecessors, a_before, a_behind, a_loop, a_liveAt, a_knownAt, a_code, a_task, a_variable, a_latestTold) (nI n) := by
  have GA' := GA
  obtain ⟨g1, g2, g3, g4, g5, g6, g7, g8, g9⟩ := GA
  have ka := g1 n
  have eq : ∀ b, b < 6 → (nI (ak n) = nI b ↔ ak n = b) := fun b hb => nI_eq (by omega) (by omega)
  have hk2 := GE.1 n
  have e2 : (a_endKind (nI n).toNatClampNeg = 2) ↔ ek n = 2 := by
    rw [gx_cl hn, GE.2.2.2.1]
    exact nI_eq (b := 2) (by omega) (by decide)
  have s3 : ∀ r, gs_Mk r (gs_look ak av ac n) → wX_lookedAtBy_42 post (nI n) r f_stale f_seen f_seenCount f_isStraight f_meetings f_codeCount f_taskCount f_hasRun f_inputLeft f_toldCount f_lastNode f_hasStopped a_actKind a_actVariable a_actOperand a_endKind a_endVariable a_endX a_endY a_path a_pathSide a_leaving a_numberOf a_nodeAt a_successors a_predecessors a_before a_behind a_loop a_liveAt a_knownAt a_code a_task a_variable a_latestTold := by
    intro r hr
    refine ⟨gx_in hn, br_c (fun z => ⟨gx_in hn, gx_repl GA' hn (nm_e (h _ ?_))⟩) (fun z => h _ ?_)⟩
    · rw [gx_cl hn, g9]
      have := g5 n
      apply gs_Mk_iff (gs_Mk_or hr (gs_Mk_andn (gs_Mk_bit (s := ev n) (by omega)) (gs_rpm_Mk g2 n)))
      intro i _
      constructor
      · rintro (q | ⟨q1, q2⟩)
        · exact Or.inl q
        · exact Or.inr ⟨q2, e2.mp z, q1.symm⟩
      · rintro (q | ⟨q1, _, q2⟩)
        · exact Or.inl q
        · exact Or.inr ⟨q2.symm, q1⟩
    · apply gs_Mk_iff hr
      intro i _
      exact ⟨Or.inl, fun q => q.elim id (fun q => absurd (e2.mpr q.2.1) z)⟩
  have av4 := g2 n
  have s2 : ∀ r, gs_Mk r (fun i => (ak n = 2 ∨ ak n = 4) ∧ av n = i) → wX_lookedAtBy_28 post (nI n) (nI (ak n)) r f_stale f_seen f_seenCount f_isStraight f_meetings f_codeCount f_taskCount f_hasRun f_inputLeft f_toldCount f_lastNode f_hasStopped a_actKind a_actVariable a_actOperand a_endKind a_endVariable a_endX a_endY a_path a_pathSide a_leaving a_numberOf a_nodeAt a_successors a_predecessors a_before a_behind a_loop a_liveAt a_knownAt a_code a_task a_variable a_latestTold := by
    intro r hr
    refine br_c (fun z => ⟨gx_in hn, nm_e (s3 _ ?_)⟩) (fun z => s3 _ ?_)
    · have z3 := (eq 3 (by omega)).mp z
      rw [gx_cl hn, g8]
      have := g4 n z3
      apply gs_Mk_iff (gs_Mk_bit (s := ac n) (by omega))
      intro i _
      constructor
      · exact fun q => Or.inr ⟨z3, q.symm⟩
      · rintro (⟨q, _⟩ | ⟨_, q⟩)
        · omega
        · exact q.symm
    · apply gs_Mk_iff hr
      intro i _
      constructor
      · exact fun q => Or.inl q
      · rintro (q | ⟨q, _⟩)
        · exact q
        · exact absurd ((eq 3 (by omega)).mpr q) z
  have s1 : (ak n = 2 ∨ ak n = 4) → wX_lookedAtBy_19 post (nI n) (nI (ak n)) f_stale f_seen f_seenCount f_isStraight f_meetings f_codeCount f_taskCount f_hasRun f_inputLeft f_toldCount f_lastNode f_hasStopped a_actKind a_actVariable a_actOperand a_endKind a_endVariable a_endX a_endY a_path a_pathSide a_leaving a_numberOf a_nodeAt a_successors a_predecessors a_before a_behind a_loop a_liveAt a_knownAt a_code a_task a_variable a_latestTold := by
    intro z
    refine ⟨gx_in hn, nm_e (s2 _ ?_)⟩
    rw [gx_cl hn, g7]
    exact gs_Mk_iff (gs_Mk_bit (s := av n) (by omega)) (fun i _ => ⟨fun q => ⟨z, q.symm⟩, fun q => q.2.symm⟩)
  refine ⟨gx_in hn, nm_r (e' := nI (ak n)) (by rw [gx_cl hn, g6]) (br_c (fun z => s1 (Or.inl ((eq 2 (by omega)).mp z))) (fun z2 => br_c (fun z => s1 (Or.inr ((eq 4 (by omega)).mp z))) (fun z4 => s2 _ (gs_Mk_0 ?_))))⟩
  rintro i _ ⟨q | q, _⟩
  · exact z2 ((eq 2 (by omega)).mpr q)
  · exact z4 ((eq 4 (by omega)).mpr q)
theorem gx_liveBehind {post : Int32 → Prop} {n : Nat} (hn : n < 16) (h : post (gs_lb a_successors a_liveAt n 16)) : wpX_liveBehind post (f_stale, f_seen, f_seenCount, f_isStraight, f_meetings, f_codeCount, f_taskCount, f_hasRun, f_inputLeft, f_toldCount, f_lastNode, f_hasStopped, a_actKind, a_actVariable, a_actOperand, a_endKind, a_endVariable, a_endX, a_endY, a_path, a_pathSide, a_leaving, a_numberOf, a_nodeAt, a_successors, a_predecessors, a_before, a_behind, a_loop, a_liveAt, a_knownAt, a_code, a_task, a_variable, a_latestTold) (nI n) := by
  refine pk_loop (fun m i s => wX_liveBehind_4 post (nI n) f_stale f_seen f_seenCount f_isStraight f_meetings f_codeCount f_taskCount f_hasRun f_inputLeft f_toldCount f_lastNode f_hasStopped a_actKind a_actVariable a_actOperand a_endKind a_endVariable a_endX a_endY a_path a_pathSide a_leaving a_numberOf a_nodeAt a_successors a_predecessors a_before a_behind a_loop a_liveAt a_knownAt a_code a_task a_variable a_latestTold m s (nI i)) (fun i s => s = gs_lb a_successors a_liveAt n i) 16 0 0 (by omega) rfl ?_ ?_
  · rintro m s rfl
    exact br_t gx_x16 h
  · rintro m i s hi rfl ih
    refine br_f (gx_16 hi) ⟨gx_in hn, ?_⟩
    rw [gx_cl hn]
    refine gx_hb hi (fun q => ⟨gx_in hi, nm_r (e' := gs_lb a_successors a_liveAt n (i + 1)) ?_ (nm_r (nI_1 i) (ih _ rfl))⟩) (fun q => nm_r (nI_1 i) (ih _ ?_))
    · rw [gx_cl hi]
      exact (if_pos q).symm
    · exact (if_neg (fun z => by rw [q] at z; exact nomatch z)).symm
theorem gx_live {post : SX → Prop} (GE : gx_GE ek ex ey a_endKind a_endX a_endY) (GA : gx_GA ak av ac ev a_actKind a_actVariable a_actOperand a_endVariable) (LK : gx_LK ek ex ey a_successors a_predecessors)
    (h : ∀ l, (∀ n, gs_sn ek ex ey n = true → gs_Mk (l n) (fun v => gs_liv ak av ac ek ev ex ey v n)) → post (f_stale, f_seen, f_seenCount, f_isStraight, f_meetings, f_codeCount, f_taskCount, f_hasRun, f_inputLeft, f_toldCount, f_lastNode, f_hasStopped, a_actKind, a_actVariable, a_actOperand, a_endKind, a_endVariable, a_endX, a_endY, a_path, a_pathSide, a_leaving, a_numberOf, a_nodeAt, a_successors, a_predecessors, a_before, a_behind, a_loop, l, a_knownAt, a_code, a_task, a_variable, a_latestTold)) : wpX_findLive post (f_stale, f_seen, f_seenCount, f_isStraight, f_meetings, f_codeCount, f_taskCount, f_hasRun, f_inputLeft, f_toldCount, f_lastNode, f_hasStopped, a_actKind, a_actVariable, a_actOperand, a_endKind, a_endVariable, a_endX, a_endY, a_path, a_pathSide, a_leaving, a_numberOf, a_nodeAt, a_successors, a_predecessors, a_before, a_behind, a_loop, a_liveAt, a_knownAt, a_code, a_task, a_variable, a_latestTold) := by
  have hx := GE.2.1
  have hy := GE.2.2.1
  have fin : ∀ l, (∀ n, n < 16 → gs_Mk (l n) (gs_hit ak av ac ek ev n)) → ∀ n, gs_sn ek ex ey n = true → gs_Mk (gs_it (gs_ls a_successors (gs_rpm ak av)) 15 l n) (fun v => gs_liv ak av ac ek ev ex ey v n) := by
    intro l hl n hn v
    have hn16 := gs_sn_lt hx hy hn
    rcases Nat.lt_or_ge v 32 with hv | hv
    · rw [gs_live_ok hv hn16]
      constructor
      · rintro ⟨m, hm, h1, h2⟩
        have h3 := (hl m hm v).mp h2
        refine ⟨h3.1, m, ?_, h3.2⟩
        refine gs_cl_mono h1 (fun j e => gs_cl_b e) (fun j k _ s e => gs_cl_s s ⟨((LK.1 j e.1 k).mp e.2.2.1).2.2, fun q => e.2.2.2 ((gs_rpm_Mk GA.2.1 j v).mpr ⟨h3.1, q⟩)⟩)
      · rintro ⟨hv16, m, h1, h2⟩
        have key := gs_cl_i h1 (fun m => gs_sn ek ex ey m = true ∧ gs_cl (fun x => x = n) (fun j k => j < 16 ∧ k < 16 ∧ bt (a_successors j) k = true ∧ ¬ bt (gs_rpm ak av j) v = true) m) ?_ ?_
        · have m16 := gs_sn_lt hx hy key.1
          exact ⟨m, m16, key.2, (hl m m16 v).mpr ⟨hv16, h2⟩⟩
        · rintro j rfl
          exact ⟨hn, gs_cl_b rfl⟩
        · rintro j k _ ⟨s1, s2⟩ ⟨e1, e2⟩
          have j16 := gs_sn_lt hx hy s1
          have k1 := gs_sn_E hx hy s1 e1
          have k16 := gs_sn_lt hx hy k1
          exact ⟨k1, gs_cl_s s2 ⟨j16, k16, (LK.1 j j16 k).mpr ⟨k16, s1, e1⟩, fun q => e2 ((gs_rpm_Mk GA.2.1 j v).mp q).2⟩⟩
    · rw [b_big hv]
      constructor
      · exact fun z => nomatch z
      · intro z
        omega
  refine pk_loop (fun m i (s : Nat → Int32) => wX_findLive_2 post f_stale f_seen f_seenCount f_isStraight f_meetings f_codeCount f_taskCount f_hasRun f_inputLeft f_toldCount f_lastNode f_hasStopped m (nI i) a_actKind a_actVariable a_actOperand a_endKind a_endVariable a_endX a_endY a_path a_pathSide a_leaving a_numberOf a_nodeAt a_successors a_predecessors a_before a_behind a_loop s a_knownAt a_code a_task a_variable a_latestTold) (fun i s => ∀ n, n < i → gs_Mk (s n) (gs_hit ak av ac ek ev n)) 16 0 a_liveAt (by omega) (fun j hj => absurd hj (Nat.not_lt_zero j)) ?_ ?_
  · rintro m l hl
    refine br_t gx_x16 ?_
    refine pk_loop (fun m i (s : Nat → Int32) => wX_findLive_27 post f_stale f_seen f_seenCount f_isStraight f_meetings f_codeCount f_taskCount f_hasRun f_inputLeft f_toldCount f_lastNode f_hasStopped m (nI i) a_actKind a_actVariable a_actOperand a_endKind a_endVariable a_endX a_endY a_path a_pathSide a_leaving a_numberOf a_nodeAt a_successors a_predecessors a_before a_behind a_loop s a_knownAt a_code a_task a_variable a_latestTold) (fun i s => 1 ≤ i ∧ s = gs_it (gs_ls a_successors (gs_rpm ak av)) (i - 1) l) 16 1 l (by omega) ⟨by omega, rfl⟩ ?_ ?_
    · rintro m s ⟨_, rfl⟩
      exact br_t gx_x16 (h _ (fin l hl))
    · rintro m i s hi ⟨h1, rfl⟩ ih
      refine br_f (gx_16 hi) ?_
      refine pk_loop (fun m' j (s : Nat → Int32) => wX_findLive_35 post (wX_findLive_27 post f_stale f_seen f_seenCount f_isStraight f_meetings f_codeCount f_taskCount f_hasRun f_inputLeft f_toldCount f_lastNode f_hasStopped m) (nI i) f_stale f_seen f_seenCount f_isStraight f_meetings f_codeCount f_taskCount f_hasRun f_inputLeft f_toldCount f_lastNode f_hasStopped m' (nI j) a_actKind a_actVariable a_actOperand a_endKind a_endVariable a_endX a_endY a_path a_pathSide a_leaving a_numberOf a_nodeAt a_successors a_predecessors a_before a_behind a_loop s a_knownAt a_code a_task a_variable a_latestTold) (fun j s => s = gs_ls1 a_successors (gs_rpm ak av) (gs_it (gs_ls a_successors (gs_rpm ak av)) (i - 1) l) j) 16 0 _ (by omega) rfl ?_ ?_
      · rintro m' s rfl
        refine br_t gx_x16 (nm_r (nI_1 i) (ih _ ⟨by omega, ?_⟩))
        obtain ⟨j, rfl⟩ : ∃ j, i = j + 1 := ⟨i - 1, by omega⟩
        exact (gs_it_s (gs_ls a_successors (gs_rpm ak av)) j l).symm
      · rintro m' j s hj rfl ihj
        refine br_f (gx_16 hj) ⟨gx_in hj, gx_liveBehind hj (gx_repl GA hj ⟨gx_in hj, nm_r (e' := gs_ls1 a_successors (gs_rpm ak av) (gs_it (gs_ls a_successors (gs_rpm ak av)) (i - 1) l) (j + 1)) ?_ (nm_r (nI_1 j) (ihj _ rfl))⟩)⟩
        rw [gx_cl hj]
        rfl
  · rintro m i s hi hI ih
    refine br_f (gx_16 hi) (gx_look GE GA hi (fun r hr => ⟨gx_in hi, nm_r (e' := upd s i r) (by rw [gx_cl hi]) (nm_r (nI_1 i) (ih _ (fun n hn => ?_)))⟩))
    by_cases e : n = i
    · subst e
      rw [pk_us]
      exact hr
    · rw [pk_un e]
      exact hI n (by omega)
end
end
section
/-! X: known values -/
theorem gx_kd_s (a : Nat) : gs_kd (a + 1) = nI a := by
  unfold gs_kd
  rw [if_neg (by omega), Nat.add_sub_cancel]
theorem gx_kd_0 : gs_kd 0 = -1 := rfl
theorem gx_kd_inj {a b : Nat} (ha : a ≤ 17) (hb : b ≤ 17) : gs_kd a = gs_kd b ↔ a = b := by
  constructor
  · intro h
    cases a with
    | zero =>
      cases b with
      | zero => rfl
      | succ b =>
        rw [gx_kd_s, gx_kd_0] at h
        have := nI_pos (n := b) (by omega)
        rw [← h] at this
        exact absurd (by decide) this
    | succ a =>
      cases b with
      | zero =>
        rw [gx_kd_s, gx_kd_0] at h
        have := nI_pos (n := a) (by omega)
        rw [h] at this
        exact absurd (by decide) this
      | succ b =>
        rw [gx_kd_s, gx_kd_s, nI_eq (by omega) (by omega)] at h
        omega
  · intro h
    rw [h]
noncomputable def gs_fl (a b : Nat → Nat) : Int32 := if gs_B (b = a) = true then 0 else 1
theorem gs_fl_0 {a b : Nat → Nat} (h : b = a) : gs_fl a b = 0 := if_pos (gs_B_t.mpr h)
theorem gs_fl_1 {a b : Nat → Nat} (h : ¬ b = a) : gs_fl a b = 1 := if_neg (fun z => h (gs_B_t.mp z))
theorem gs_fl_z {a b : Nat → Nat} : gs_fl a b = 0 ↔ b = a := by
  constructor
  · intro h
    apply Classical.byContradiction
    intro z
    rw [gs_fl_1 z] at h
    exact absurd h (by decide)
  · exact gs_fl_0
theorem gs_fl_n (a b : Nat → Nat) : narrow .boolean (.int (gs_fl a b)) = .int (gs_fl a b) := by
  by_cases z : b = a
  · rw [gs_fl_0 z]
    rfl
  · rw [gs_fl_1 z]
    rfl
section
variable {f_stale f_seen f_seenCount f_isStraight f_meetings f_codeCount f_taskCount f_hasRun f_toldCount f_lastNode f_hasStopped : Int32} {f_inputLeft : Int64} {a_actKind a_actVariable a_actOperand a_endKind a_endVariable a_endX a_endY a_path a_pathSide a_leaving a_numberOf a_nodeAt a_successors a_predecessors a_before a_behind a_loop a_liveAt a_knownAt a_code a_task a_variable a_latestTold : Nat → Int32} {ek ex ey ak av ac ev : Nat → Nat}
theorem gx_made {post : Int32 → Prop} {kv : Nat → Nat} {n v : Nat} (GA : gx_GA ak av ac ev a_actKind a_actVariable a_actOperand a_endVariable) (hK : ∀ i, i < 64 → a_knownAt i = gs_kd (kv i)) (hle : ∀ i, kv i ≤ 17) (hn : n < 16) (hv : v < 4) (hall : ∀ v, v < 4 → kv (4 * n + v) ≠ 0)
    (h : post (gs_kd (gs_md ak av ac kv n v))) : wpX_made__knownAt post (f_stale, f_seen, f_seenCount, f_isStraight, f_meetings, f_codeCount, f_taskCount, f_hasRun, f_inputLeft, f_toldCount, f_lastNode, f_hasStopped, a_actKind, a_actVariable, a_actOperand, a_endKind, a_endVariable, a_endX, a_endY, a_path, a_pathSide, a_leaving, a_numberOf, a_nodeAt, a_successors, a_predecessors, a_before, a_behind, a_loop, a_liveAt, a_knownAt, a_code, a_task, a_variable, a_latestTold) (nI n * 4) (nI n) (nI v) := by
  obtain ⟨g1, g2, g3, g4, g5, g6, g7, g8, g9⟩ := GA
  have e : ∀ u, nI n * 4 + nI u = nI (4 * n + u) := fun u => by
    rw [show (4 : Int32) = nI 4 from rfl, pk_mul, nI_add, Nat.mul_comm]
  have av4 := g2 n
  have ac16 := g3 n
  have ak5 := g1 n
  unfold wpX_made__knownAt
  refine ⟨by rw [e]; exact vp_in_nI (by omega) (by decide), nm_r (e' := gs_kd (kv (4 * n + v))) (by rw [e, nI_clamp (by omega)]; exact hK _ (by omega)) ⟨gx_in hn, ?_⟩⟩
  simp only [gx_cl hn, g6, g7, g8]
  unfold gs_md at h
  refine br_c (fun z => ?_) (fun z => ?_)
  · have z' : v = av n := (nI_eq (by omega) (by omega)).mp z
    rw [if_neg (fun w => w z')] at h
    refine ⟨gx_in hn, nm_e ?_⟩
    have hc : ak n = 0 ∨ ak n = 1 ∨ ak n = 2 ∨ ak n = 3 ∨ ak n = 4 ∨ ak n = 5 := by omega
    rcases hc with c | c | c | c | c | c <;> rw [c] at h ⊢
    · exact br_t (by decide) h
    · exact br_f (by decide) (br_f (by decide) (br_t rfl ⟨gx_in hn, by rw [if_pos rfl, gx_kd_s] at h; exact h⟩))
    · rw [if_neg (by decide), if_pos rfl] at h
      refine br_f (by decide) (br_f (by decide) (br_f (by decide) (br_t rfl ?_)))
      have h17 := hle (4 * n + v)
      have h0 := hall v hv
      by_cases q : kv (4 * n + v) = 17
      · rw [q] at h ⊢
        exact br_t rfl h
      · rw [if_neg q, gx_kd_s] at h
        obtain ⟨b, hb⟩ : ∃ b, kv (4 * n + v) = b + 1 := ⟨kv (4 * n + v) - 1, by omega⟩
        rw [hb, gx_kd_s]
        rw [hb, Nat.add_sub_cancel] at h
        refine br_f (fun w => ?_) ⟨gx_in hn, by decide, ?_⟩
        · have := (nI_eq (b := 16) (by omega) (by decide)).mp w
          omega
        · rw [nI_add, show (16 : Int32) = nI 16 from rfl, pk_rem (by omega) (by decide) (by decide)]
          exact h
    · rw [if_neg (by decide), if_neg (by decide), if_pos rfl] at h
      have c4 := g4 n c
      refine br_f (by decide) (br_f (by decide) (br_f (by decide) (br_f (by decide) (br_t rfl ⟨gx_in hn, ?_, ?_⟩))))
      · rw [e]
        exact vp_in_nI (by omega) (by decide)
      · rw [e, nI_clamp (by omega), hK _ (by omega)]
        exact h
    · exact br_f (by decide) (br_f (by decide) (br_f (by decide) (br_f (by decide) (br_f (by decide) (br_t rfl h)))))
    · exact br_f (by decide) (br_f (by decide) (br_f (by decide) (br_f (by decide) (br_f (by decide) (br_f (by decide) (br_t rfl h))))))
  · rw [if_pos (fun w => z (by rw [w]))] at h
    exact h
theorem gs_gw_le (hac : ∀ n, ac n < 16) {kv : Nat → Nat} (h : ∀ i, kv i ≤ 17) (n t w i : Nat) : gs_gw ak av ac kv n t w i ≤ 17 := by
  unfold gs_gw
  split
  · exact gs_jn_le (gs_md_le hac h n _)
  · exact h i
theorem gs_gw_nz {kv : Nat → Nat} {n t w i : Nat} (h : kv i ≠ 0) : gs_gw ak av ac kv n t w i ≠ 0 := by
  unfold gs_gw
  split
  · unfold gs_jn
    split
    · rename_i z
      rcases z with z | z
      · exact absurd z h
      · exact z ▸ h
    · omega
  · exact h
theorem gx_give {post : Int32 → SX → Prop} {kv : Nat → Nat} {n t : Nat} (GA : gx_GA ak av ac ev a_actKind a_actVariable a_actOperand a_endVariable) (hK : ∀ i, i < 64 → a_knownAt i = gs_kd (kv i)) (hle : ∀ i, kv i ≤ 17) (hn : n < 16) (ht : t < 16) (hall : ∀ v, v < 4 → kv (4 * n + v) ≠ 0)
    (h : ∀ a, (∀ i, i < 64 → a i = gs_kd (gs_gv ak av ac kv n t i)) → post (gs_fl kv (gs_gv ak av ac kv n t)) (f_stale, f_seen, f_seenCount, f_isStraight, f_meetings, f_codeCount, f_taskCount, f_hasRun, f_inputLeft, f_toldCount, f_lastNode, f_hasStopped, a_actKind, a_actVariable, a_actOperand, a_endKind, a_endVariable, a_endX, a_endY, a_path, a_pathSide, a_leaving, a_numberOf, a_nodeAt, a_successors, a_predecessors, a_before, a_behind, a_loop, a_liveAt, a, a_code, a_task, a_variable, a_latestTold)) : wpX_give post (f_stale, f_seen, f_seenCount, f_isStraight, f_meetings, f_codeCount, f_taskCount, f_hasRun, f_inputLeft, f_toldCount, f_lastNode, f_hasStopped, a_actKind, a_actVariable, a_actOperand, a_endKind, a_endVariable, a_endX, a_endY, a_path, a_pathSide, a_leaving, a_numberOf, a_nodeAt, a_successors, a_predecessors, a_before, a_behind, a_loop, a_liveAt, a_knownAt, a_code, a_task, a_variable, a_latestTold) (nI n) (nI t) := by
  have g3 := GA.2.2.1
  have g4 := GA.2.2.2.1
  refine pk_loop (fun m i (s : Int32 × (Nat → Int32)) => wX_give_5 post (nI n) (nI t) f_stale f_seen f_seenCount f_isStraight f_meetings f_codeCount f_taskCount f_hasRun f_inputLeft f_toldCount f_lastNode f_hasStopped m s.1 (nI i) a_actKind a_actVariable a_actOperand a_endKind a_endVariable a_endX a_endY a_path a_pathSide a_leaving a_numberOf a_nodeAt a_successors a_predecessors a_before a_behind a_loop a_liveAt s.2 a_code a_task a_variable a_latestTold) (fun w s => s.1 = gs_fl kv (gs_gw ak av ac kv n t w) ∧ ∀ i, i < 64 → s.2 i = gs_kd (gs_gw ak av ac kv n t w i)) 4 0 (0, a_knownAt) (by omega) ⟨(gs_fl_0 (gs_gw_0 kv n t)).symm, fun i hi => by rw [gs_gw_0]; exact hK i hi⟩ ?_ ?_
  · rintro m ⟨s1, s2⟩ ⟨e1, e2⟩
    dsimp only at e1 e2
    subst e1
    exact br_t (by decide) ⟨gs_fl_n _ _, h s2 e2⟩
  · rintro m w ⟨s1, s2⟩ hw ⟨e1, e2⟩ ih
    dsimp only at e1 e2
    have e : nI t * 4 + nI w = nI (4 * t + w) := by
      rw [show (4 : Int32) = nI 4 from rfl, pk_mul, nI_add, Nat.mul_comm]
    refine br_f (nI_ge (b := 4) hw (by decide)) (gx_made GA e2 (gs_gw_le g3 hle n t w) hn hw (fun v hv => gs_gw_nz (hall v hv)) ?_)
    rw [gs_md_in kv n t w w hw (Nat.le_refl _) g4]
    refine nm_r e ⟨vp_in_nI (by omega) (by decide), nm_r (e' := gs_kd (kv (4 * t + w))) ?_ ?_⟩
    · rw [nI_clamp (by omega)]
      show s2 (4 * t + w) = _
      rw [e2 (4 * t + w) (by omega), gs_gw_at]
    · have hl1 := hle (4 * t + w)
      have hl2 := gs_md_le (av := av) (ak := ak) g3 hle n w
      have key : wX_give_64 post (wX_give_5 post (nI n) (nI t) f_stale f_seen f_seenCount f_isStraight f_meetings f_codeCount f_taskCount f_hasRun f_inputLeft f_toldCount f_lastNode f_hasStopped m) (nI n) (nI t) s1 (nI w) (nI (4 * t + w)) (gs_kd (kv (4 * t + w))) (gs_kd (gs_jn (kv (4 * t + w)) (gs_md ak av ac kv n w))) f_stale f_seen f_seenCount f_isStraight f_meetings f_codeCount f_taskCount f_hasRun f_inputLeft f_toldCount f_lastNode f_hasStopped a_actKind a_actVariable a_actOperand a_endKind a_endVariable a_endX a_endY a_path a_pathSide a_leaving a_numberOf a_nodeAt a_successors a_predecessors a_before a_behind a_loop a_liveAt s2 a_code a_task a_variable a_latestTold := by
        have hj := gs_jn_le (h := kv (4 * t + w)) hl2
        refine br_c (fun z => nm_r (nI_1 w) (ih (s1, s2) ?_)) (fun z => ⟨vp_in_nI (by omega) (by decide), nm_r (e' := upd s2 (4 * t + w) (gs_kd (gs_jn (kv (4 * t + w)) (gs_md ak av ac kv n w)))) (by rw [nI_clamp (by omega)]) (nm_r (nI_1 w) (ih (1, _) ?_))⟩)
        · have z' := (gx_kd_inj hj hl1).mp z
          have same : gs_gw ak av ac kv n t (w + 1) = gs_gw ak av ac kv n t w := by
            rw [gs_gw_s, z']
            funext i
            unfold gs_un1
            by_cases q : i = 4 * t + w
            · rw [if_pos q, q, gs_gw_at]
            · rw [if_neg q]
          rw [same]
          exact ⟨e1, e2⟩
        · have z' : ¬ gs_jn (kv (4 * t + w)) (gs_md ak av ac kv n w) = kv (4 * t + w) := fun q => z (by rw [q])
          refine ⟨(gs_fl_1 (fun q => z' ?_)).symm, fun i hi => ?_⟩
          · have := congrFun q (4 * t + w)
            rw [gs_gw_s] at this
            unfold gs_un1 at this
            rw [if_pos rfl] at this
            exact this
          · rw [gs_gw_s]
            unfold gs_un1
            by_cases q : i = 4 * t + w
            · rw [if_pos q, q]
              exact pk_us
            · rw [if_neg q]
              exact (pk_un q).trans (e2 i hi)
      refine br_c (fun z => ?_) (fun z => br_c (fun y => ?_) (fun y => ?_))
      · have z' : kv (4 * t + w) = 0 := (gx_kd_inj hl1 (by omega)).mp (z.trans gx_kd_0.symm)
        have ej : gs_jn (kv (4 * t + w)) (gs_md ak av ac kv n w) = gs_md ak av ac kv n w := if_pos (Or.inl z')
        rw [ej] at key
        exact key
      · have y' := (gx_kd_inj hl1 hl2).mp y
        have ej : gs_jn (kv (4 * t + w)) (gs_md ak av ac kv n w) = gs_md ak av ac kv n w := if_pos (Or.inr y')
        rw [ej] at key
        exact key
      · have ej : gs_jn (kv (4 * t + w)) (gs_md ak av ac kv n w) = 17 := by
          apply if_neg
          rintro (q | q)
          · exact z (by rw [q]; rfl)
          · exact y (by rw [q])
        rw [ej] at key
        exact key
/-- one side of X's giving on -/
def gs_sd (ak av ac ek ex ey : Nat → Nat) (ch : Bool) (co : Nat) (kv : Nat → Nat) (n k : Nat) : Nat → Nat :=
  match gs_sc ek ex ey n k with
  | none => kv
  | some s => if ch = false ∨ k = co then gs_gv ak av ac kv n s else kv
theorem gs_gv_nz {kv : Nat → Nat} {n t i : Nat} (h : kv i ≠ 0) : gs_gv ak av ac kv n t i ≠ 0 := gs_gw_nz h
theorem gs_sd_ok (hac : ∀ n, ac n < 16) (hc3 : ∀ n, ak n = 3 → ac n < 4) (hx : ∀ n, ex n < 16) (hy : ∀ n, ey n < 16) {ch : Bool} {co : Nat} {kv : Nat → Nat} {n k : Nat} (hk : k < 2) (h : gs_KI kv) (hn : n < 16) (he : kv (4 * n) ≠ 0) : gs_KI (gs_sd ak av ac ek ex ey ch co kv n k) ∧ gs_sd ak av ac ek ex ey ch co kv n k (4 * n) ≠ 0 ∧ (gs_sd ak av ac ek ex ey ch co kv n k = kv ∨ gs_kc kv < gs_kc (gs_sd ak av ac ek ex ey ch co kv n k)) := by
  unfold gs_sd
  cases e : gs_sc ek ex ey n k with
  | none => exact ⟨h, he, Or.inl rfl⟩
  | some s =>
    have s16 : s < 16 := gs_E_lt ek ex ey hx hy ((gs_E_sc ek ex ey).mpr ⟨k, hk, e⟩)
    dsimp only
    split
    · exact ⟨gs_gv_KI hac hc3 h hn he, gs_gv_nz he, gs_gv_grow hc3 h hn s16 he⟩
    · exact ⟨h, he, Or.inl rfl⟩
theorem gs_KI_all {kv : Nat → Nat} (h : gs_KI kv) {n : Nat} (hn : n < 16) (he : kv (4 * n) ≠ 0) : ∀ v, v < 4 → kv (4 * n + v) ≠ 0 := by
  rcases h.2 n hn with z | z
  · exact absurd (z 0 (by omega)) he
  · exact z
/-- both sides -/
theorem gs_sd_go (hk2 : ∀ n, ek n ≤ 2) (hac : ∀ n, ac n < 16) (hc3 : ∀ n, ak n = 3 → ac n < 4) {kv : Nat → Nat} {n : Nat} (h : gs_KI kv) (hn : n < 16) (he : kv (4 * n) ≠ 0) {ch : Bool} {co : Nat} (hch : ch = true ↔ ek n = 2 ∧ gs_md ak av ac kv n (ev n) ≠ 17) (hco : co = if gs_md ak av ac kv n (ev n) = 1 then 0 else 1) :
    gs_sd ak av ac ek ex ey ch co (gs_sd ak av ac ek ex ey ch co kv n 0) n 1 = gs_go ak av ac ek ev ex ey kv n := by
  have k3 := hk2 n
  have hc : ek n = 0 ∨ ek n = 1 ∨ ek n = 2 := by omega
  unfold gs_go
  rcases hc with c | c | c
  · have s0 : ∀ k, gs_sc ek ex ey n k = none := fun k => by unfold gs_sc; rw [if_neg (by omega), if_neg (by omega)]
    unfold gs_sd
    rw [s0, s0, if_pos c]
  · have s0 : gs_sc ek ex ey n 0 = some (ex n) := by unfold gs_sc; rw [if_neg (by omega), if_pos ⟨c, rfl⟩]
    have s1 : gs_sc ek ex ey n 1 = none := by unfold gs_sc; rw [if_neg (by omega), if_neg (by omega)]
    have hf : ch = false := by
      cases ch
      · rfl
      · have := (hch.mp rfl).1
        omega
    unfold gs_sd
    rw [s0, s1, if_neg (by omega), if_pos (Or.inl c)]
    exact if_pos (Or.inl hf)
  · have s0 : gs_sc ek ex ey n 0 = some (ex n) := by unfold gs_sc; rw [if_pos c, if_pos rfl]
    have s1 : gs_sc ek ex ey n 1 = some (ey n) := by unfold gs_sc; rw [if_pos c, if_neg (by omega)]
    unfold gs_sd
    rw [s0, s1]
    dsimp only
    rw [if_neg (by omega : ¬ ek n = 0)]
    by_cases m17 : gs_md ak av ac kv n (ev n) = 17
    · have hf : ch = false := by
        cases ch
        · rfl
        · exact absurd m17 (hch.mp rfl).2
      rw [if_pos (Or.inl hf), if_pos (Or.inl hf), if_pos m17]
      by_cases xy : ex n = ey n
      · rw [if_pos (Or.inr xy), ← xy]
        exact gs_gv_twice hc3 h hn he
      · rw [if_neg (by omega)]
    · have hT : ch = true := hch.mpr ⟨c, m17⟩
      subst hT
      by_cases m1 : gs_md ak av ac kv n (ev n) = 1
      · rw [if_pos m1] at hco
        subst hco
        rw [if_neg (by simp), if_pos (Or.inr rfl), if_neg m17, if_pos m1]
        split <;> rfl
      · rw [if_neg m1] at hco
        subst hco
        rw [if_pos (Or.inr rfl), if_neg (by simp), if_neg m17, if_neg m1]
        split
        · rename_i z
          rcases z with z | z
          · omega
          · rw [z]
        · rfl
theorem gx_giveOn_58 {post : Int32 → SX → Prop} {kv0 kv : Nat → Nat} {n i m : Nat} {ch : Bool} {co : Nat} (GE : gx_GE ek ex ey a_endKind a_endX a_endY) (GA : gx_GA ak av ac ev a_actKind a_actVariable a_actOperand a_endVariable) (hI : gs_KI kv) (hn : n < 16) (he : kv (4 * n) ≠ 0) (hi : i < 2) (hco : co < 2) (h0 : gs_kc kv0 < gs_kc kv ∨ kv = kv0) (hK : ∀ i, i < 64 → a_knownAt i = gs_kd (kv i))
    (h : ∀ a, (∀ j, j < 64 → a j = gs_kd (gs_sd ak av ac ek ex ey ch co kv n i j)) → wX_giveOn_58 post (nI n) (if ch = true then 1 else 0) (nI co) m (gs_fl kv0 (gs_sd ak av ac ek ex ey ch co kv n i)) (nI (i + 1)) f_stale f_seen f_seenCount f_isStraight f_meetings f_codeCount f_taskCount f_hasRun f_inputLeft f_toldCount f_lastNode f_hasStopped a_actKind a_actVariable a_actOperand a_endKind a_endVariable a_endX a_endY a_path a_pathSide a_leaving a_numberOf a_nodeAt a_successors a_predecessors a_before a_behind a_loop a_liveAt a a_code a_task a_variable a_latestTold) : wX_giveOn_58 post (nI n) (if ch = true then 1 else 0) (nI co) (m + 1) (gs_fl kv0 kv) (nI i) f_stale f_seen f_seenCount f_isStraight f_meetings f_codeCount f_taskCount f_hasRun f_inputLeft f_toldCount f_lastNode f_hasStopped a_actKind a_actVariable a_actOperand a_endKind a_endVariable a_endX a_endY a_path a_pathSide a_leaving a_numberOf a_nodeAt a_successors a_predecessors a_before a_behind a_loop a_liveAt a_knownAt a_code a_task a_variable a_latestTold := by
  refine br_f (nI_ge (b := 2) hi (by decide)) (gx_succ GE hn hi (fun s s16 hs => ?_) (fun hs => ?_))
  · have sd : gs_sd ak av ac ek ex ey ch co kv n i = if ch = false ∨ i = co then gs_gv ak av ac kv n s else kv := by
      unfold gs_sd
      rw [hs]
    have no : ¬ (ch = false ∨ i = co) → wX_giveOn_94 post (wX_giveOn_58 post (nI n) (if ch = true then 1 else 0) (nI co) m) (nI n) (if ch = true then 1 else 0) (nI co) (gs_fl kv0 kv) (nI i) (nI s) f_stale f_seen f_seenCount f_isStraight f_meetings f_codeCount f_taskCount f_hasRun f_inputLeft f_toldCount f_lastNode f_hasStopped a_actKind a_actVariable a_actOperand a_endKind a_endVariable a_endX a_endY a_path a_pathSide a_leaving a_numberOf a_nodeAt a_successors a_predecessors a_before a_behind a_loop a_liveAt a_knownAt a_code a_task a_variable a_latestTold := by
      intro q
      rw [sd, if_neg q] at h
      exact br_t rfl (nm_r (nI_1 i) (h _ hK))
    have yes : (ch = false ∨ i = co) → wX_giveOn_90 post (wX_giveOn_58 post (nI n) (if ch = true then 1 else 0) (nI co) m) (nI n) (if ch = true then 1 else 0) (nI co) (gs_fl kv0 kv) (nI i) (nI s) f_stale f_seen f_seenCount f_isStraight f_meetings f_codeCount f_taskCount f_hasRun f_inputLeft f_toldCount f_lastNode f_hasStopped a_actKind a_actVariable a_actOperand a_endKind a_endVariable a_endX a_endY a_path a_pathSide a_leaving a_numberOf a_nodeAt a_successors a_predecessors a_before a_behind a_loop a_liveAt a_knownAt a_code a_task a_variable a_latestTold := by
      intro q
      rw [sd, if_pos q] at h
      refine br_f (by decide) (gx_give GA hK hI.1 hn s16 (gs_KI_all hI hn he) (fun a ha => ?_))
      refine br_c (fun z => nm_r (nI_1 i) ?_) (fun z => nm_r (nI_1 i) ?_)
      · have z' := gs_fl_z.mp z
        have := h a ha
        rw [z'] at this
        exact this
      · have z' : ¬ gs_gv ak av ac kv n s = kv := fun y => z (gs_fl_0 y)
        have gr := (gs_gv_grow (av := av) GA.2.2.2.1 hI hn s16 he).resolve_left z'
        have := h a ha
        rw [gs_fl_1 (fun y => ?_)] at this
        · exact this
        · rw [y] at gr
          rcases h0 with w | w
          · omega
          · rw [w] at gr
            omega
    refine br_f (gx_ne1 s16) (br_c (fun z => yes (Or.inl ?_)) (fun z => br_c (fun y => yes (Or.inr ((nI_eq (by omega) (by omega)).mp y))) (fun y => no ?_)))
    · cases ch
      · rfl
      · exact absurd z (by decide)
    · rintro (q | q)
      · subst q
        exact z rfl
      · exact y (by rw [q])
  · have sd : gs_sd ak av ac ek ex ey ch co kv n i = kv := by
      unfold gs_sd
      rw [hs]
    rw [sd] at h
    exact br_t rfl (br_t rfl (nm_r (nI_1 i) (h _ hK)))
theorem gx_giveOn {post : Int32 → SX → Prop} {kv : Nat → Nat} {n : Nat} (GE : gx_GE ek ex ey a_endKind a_endX a_endY) (GA : gx_GA ak av ac ev a_actKind a_actVariable a_actOperand a_endVariable) (hI : gs_KI kv) (hn : n < 16) (he : kv (4 * n) ≠ 0) (hK : ∀ i, i < 64 → a_knownAt i = gs_kd (kv i))
    (h : ∀ a, (∀ j, j < 64 → a j = gs_kd (gs_go ak av ac ek ev ex ey kv n j)) → post (gs_fl kv (gs_go ak av ac ek ev ex ey kv n)) (f_stale, f_seen, f_seenCount, f_isStraight, f_meetings, f_codeCount, f_taskCount, f_hasRun, f_inputLeft, f_toldCount, f_lastNode, f_hasStopped, a_actKind, a_actVariable, a_actOperand, a_endKind, a_endVariable, a_endX, a_endY, a_path, a_pathSide, a_leaving, a_numberOf, a_nodeAt, a_successors, a_predecessors, a_before, a_behind, a_loop, a_liveAt, a, a_code, a_task, a_variable, a_latestTold)) : wpX_giveOn post (f_stale, f_seen, f_seenCount, f_isStraight, f_meetings, f_codeCount, f_taskCount, f_hasRun, f_inputLeft, f_toldCount, f_lastNode, f_hasStopped, a_actKind, a_actVariable, a_actOperand, a_endKind, a_endVariable, a_endX, a_endY, a_path, a_pathSide, a_leaving, a_numberOf, a_nodeAt, a_successors, a_predecessors, a_before, a_behind, a_loop, a_liveAt, a_knownAt, a_code, a_task, a_variable, a_latestTold) (nI n) := by
  have hx := GE.2.1
  have hy := GE.2.2.1
  have hac := GA.2.2.1
  have hc3 := GA.2.2.2.1
  have ev4 := GA.2.2.2.2.1 n
  have hk2 := GE.1 n
  have e2 : (a_endKind (nI n).toNatClampNeg = 2) ↔ ek n = 2 := by
    rw [gx_cl hn, GE.2.2.2.1]
    exact nI_eq (b := 2) (by omega) (by decide)
  have ml := gs_md_le (ak := ak) (av := av) hac hI.1 n (ev n)
  have m17 : gs_kd (gs_md ak av ac kv n (ev n)) = 16 ↔ gs_md ak av ac kv n (ev n) = 17 := gx_kd_inj (b := 17) ml (by omega)
  have m1 : gs_kd (gs_md ak av ac kv n (ev n)) = 0 ↔ gs_md ak av ac kv n (ev n) = 1 := gx_kd_inj (b := 1) ml (by omega)
  have run : ∀ (ch : Bool), (ch = true ↔ ek n = 2 ∧ gs_md ak av ac kv n (ev n) ≠ 17) → wX_giveOn_40 post (nI n) (gs_kd (gs_md ak av ac kv n (ev n))) (if ch = true then 1 else 0) f_stale f_seen f_seenCount f_isStraight f_meetings f_codeCount f_taskCount f_hasRun f_inputLeft f_toldCount f_lastNode f_hasStopped a_actKind a_actVariable a_actOperand a_endKind a_endVariable a_endX a_endY a_path a_pathSide a_leaving a_numberOf a_nodeAt a_successors a_predecessors a_before a_behind a_loop a_liveAt a_knownAt a_code a_task a_variable a_latestTold := by
    intro ch hch
    have both : ∀ co, co < 2 → (co = if gs_md ak av ac kv n (ev n) = 1 then 0 else 1) → ∃ n58, wX_giveOn_58 post (nI n) (if ch = true then 1 else 0) (nI co) n58 0 0 f_stale f_seen f_seenCount f_isStraight f_meetings f_codeCount f_taskCount f_hasRun f_inputLeft f_toldCount f_lastNode f_hasStopped a_actKind a_actVariable a_actOperand a_endKind a_endVariable a_endX a_endY a_path a_pathSide a_leaving a_numberOf a_nodeAt a_successors a_predecessors a_before a_behind a_loop a_liveAt a_knownAt a_code a_task a_variable a_latestTold := by
      intro co hco hc
      have a1 := gs_sd_ok (ek := ek) (av := av) hac hc3 hx hy (ch := ch) (co := co) (k := 0) (by omega) hI hn he
      have go := gs_sd_go (ex := ex) (ey := ey) GE.1 hac hc3 hI hn he hch hc
      refine ⟨3, ?_⟩
      have st := gx_giveOn_58 (post := post) (m := 2) (i := 0) (kv0 := kv) (ch := ch) GE GA hI hn he (by omega) hco (Or.inr rfl) hK (fun a ha => gx_giveOn_58 (m := 1) (i := 1) GE GA a1.1 hn a1.2.1 (by omega) hco (a1.2.2.elim Or.inr Or.inl) ha (fun b hb => br_t (by decide) ⟨gs_fl_n _ _, by
        rw [go] at hb ⊢
        exact h b hb⟩))
      rw [gs_fl_0 rfl] at st
      exact st
    refine br_c (fun z => both 0 (by omega) (by rw [if_pos (m1.mp z)])) (fun z => both 1 (by omega) (by rw [if_neg (fun w => z (m1.mpr w))]))
  refine ⟨gx_in hn, ?_⟩
  have e9 : a_endVariable (nI n).toNatClampNeg = nI (ev n) := by rw [gx_cl hn]; exact GA.2.2.2.2.2.2.2.2 n
  rw [e9]
  refine gx_made GA hK hI.1 hn ev4 (gs_KI_all hI hn he) ⟨gx_in hn, br_c (fun z => br_c (fun y => ?_) (fun y => ?_)) (fun z => ?_)⟩
  · exact run false ⟨fun q => (nomatch q), fun q => absurd (m17.mp y) q.2⟩
  · exact run true ⟨fun _ => ⟨e2.mp z, fun w => y (m17.mpr w)⟩, fun _ => rfl⟩
  · exact run false ⟨fun q => (nomatch q), fun q => absurd (e2.mpr q.1) z⟩
theorem gx_known {post : SX → Prop} (GE : gx_GE ek ex ey a_endKind a_endX a_endY) (GA : gx_GA ak av ac ev a_actKind a_actVariable a_actOperand a_endVariable)
    (h : ∀ a, (∀ j, j < 64 → a j = gs_kd (gs_kF ak av ac ek ev ex ey j)) → post (f_stale, f_seen, f_seenCount, f_isStraight, f_meetings, f_codeCount, f_taskCount, f_hasRun, f_inputLeft, f_toldCount, f_lastNode, f_hasStopped, a_actKind, a_actVariable, a_actOperand, a_endKind, a_endVariable, a_endX, a_endY, a_path, a_pathSide, a_leaving, a_numberOf, a_nodeAt, a_successors, a_predecessors, a_before, a_behind, a_loop, a_liveAt, a, a_code, a_task, a_variable, a_latestTold)) : wpX_findKnown post (f_stale, f_seen, f_seenCount, f_isStraight, f_meetings, f_codeCount, f_taskCount, f_hasRun, f_inputLeft, f_toldCount, f_lastNode, f_hasStopped, a_actKind, a_actVariable, a_actOperand, a_endKind, a_endVariable, a_endX, a_endY, a_path, a_pathSide, a_leaving, a_numberOf, a_nodeAt, a_successors, a_predecessors, a_before, a_behind, a_loop, a_liveAt, a_knownAt, a_code, a_task, a_variable, a_latestTold) := by
  have hx := GE.2.1
  have hy := GE.2.2.1
  have hac := GA.2.2.1
  have hc3 := GA.2.2.2.1
  refine pk_loop (fun m i (s : Nat → Int32) => wX_findKnown_2 post f_stale f_seen f_seenCount f_isStraight f_meetings f_codeCount f_taskCount f_hasRun f_inputLeft f_toldCount f_lastNode f_hasStopped m (nI i) a_actKind a_actVariable a_actOperand a_endKind a_endVariable a_endX a_endY a_path a_pathSide a_leaving a_numberOf a_nodeAt a_successors a_predecessors a_before a_behind a_loop a_liveAt s a_code a_task a_variable a_latestTold) (fun i s => ∀ j, j < i → s j = gs_kd (gs_k0 j)) 64 0 a_knownAt (by omega) (fun j hj => absurd hj (Nat.not_lt_zero j)) ?_ ?_
  · rintro m l hl
    refine br_t (by decide) ?_
    refine pk_loop (fun m i (s : Int32 × (Nat → Int32)) => wX_findKnown_34 post m s.1 (nI i) f_stale f_seen f_seenCount f_isStraight f_meetings f_codeCount f_taskCount f_hasRun f_inputLeft f_toldCount f_lastNode f_hasStopped a_actKind a_actVariable a_actOperand a_endKind a_endVariable a_endX a_endY a_path a_pathSide a_leaving a_numberOf a_nodeAt a_successors a_predecessors a_before a_behind a_loop a_liveAt s.2 a_code a_task a_variable a_latestTold) (fun i s => (s.1 = 0 → gs_ks ak av ac ek ev ex ey (gs_it (gs_ks ak av ac ek ev ex ey) i gs_k0) = gs_it (gs_ks ak av ac ek ev ex ey) i gs_k0) ∧ ∀ j, j < 64 → s.2 j = gs_kd (gs_it (gs_ks ak av ac ek ev ex ey) i gs_k0 j)) 81 0 (1, l) (by omega) ⟨fun z => absurd (show (1 : Int32) = 0 from z) (by decide), hl⟩ ?_ ?_
    · rintro m s ⟨_, hs⟩
      rw [← gs_kF_eq] at hs
      exact br_t (by decide) (h _ hs)
    · rintro m i s hi ⟨hf, hs⟩ ih
      refine br_f (nI_ge (b := 81) hi (by decide)) (br_c (fun z => ?_) (fun z => ?_))
      · rw [gs_kF_end hac hc3 hx hy (hf z)] at hs
        exact h _ hs
      · have KI := gs_kit_KI (ek := ek) (ev := ev) (av := av) hac hc3 hx hy i
        have st := gs_it_s (gs_ks ak av ac ek ev ex ey) i gs_k0
        generalize gs_it (gs_ks ak av ac ek ev ex ey) i gs_k0 = kv at hs KI st
        refine pk_loop (fun m' j (s : Int32 × (Nat → Int32)) => wX_findKnown_48 post (wX_findKnown_34 post m) (nI i) m' s.1 (nI j) f_stale f_seen f_seenCount f_isStraight f_meetings f_codeCount f_taskCount f_hasRun f_inputLeft f_toldCount f_lastNode f_hasStopped a_actKind a_actVariable a_actOperand a_endKind a_endVariable a_endX a_endY a_path a_pathSide a_leaving a_numberOf a_nodeAt a_successors a_predecessors a_before a_behind a_loop a_liveAt s.2 a_code a_task a_variable a_latestTold) (fun j s => s.1 = gs_fl kv (gs_ks1 ak av ac ek ev ex ey kv j) ∧ ∀ q, q < 64 → s.2 q = gs_kd (gs_ks1 ak av ac ek ev ex ey kv j q)) 16 0 (0, s.2) (by omega) ⟨(gs_fl_0 rfl).symm, hs⟩ ?_ ?_
        · rintro m' t ⟨t1, t2⟩
          refine br_t gx_x16 (nm_r (nI_1 i) (ih t ⟨fun w => ?_, ?_⟩))
          · rw [st]
            rw [t1] at w
            have w' : gs_ks ak av ac ek ev ex ey kv = kv := gs_fl_z.mp w
            rw [w']
            exact w'
          · rw [st]
            exact t2
        · rintro m' j ⟨t1, t2⟩ hj ⟨h1, h2⟩ ihj
          dsimp only at h1 h2
          have ok := gs_ks1_ok (ek := ek) (ev := ev) (av := av) hac hc3 hx hy KI j (by omega)
          have e : nI j * 4 = nI (4 * j) := by rw [show (4 : Int32) = nI 4 from rfl, pk_mul, Nat.mul_comm]
          have cell : t2 (nI j * 4).toNatClampNeg = gs_kd (gs_ks1 ak av ac ek ev ex ey kv j (4 * j)) := by
            rw [e, nI_clamp (by omega)]
            exact h2 _ (by omega)
          have z0 : (t2 (nI j * 4).toNatClampNeg = -1) ↔ gs_ks1 ak av ac ek ev ex ey kv j (4 * j) = 0 := by
            rw [cell]
            exact gx_kd_inj (b := 0) (ok.1.1 _) (by omega)
          refine br_f (gx_16 hj) ⟨?_, br_c (fun w => ?_) (fun w => ?_)⟩
          · rw [e]
            exact vp_in_nI (by omega) (by decide)
          · have s1 : gs_ks1 ak av ac ek ev ex ey kv (j + 1) = gs_ks1 ak av ac ek ev ex ey kv j := if_pos (z0.mp w)
            refine nm_r (nI_1 j) (ihj (t1, t2) ?_)
            rw [s1]
            exact ⟨h1, h2⟩
          · have w' : ¬ gs_ks1 ak av ac ek ev ex ey kv j (4 * j) = 0 := fun q => w (z0.mpr q)
            have s1 : gs_ks1 ak av ac ek ev ex ey kv (j + 1) = gs_go ak av ac ek ev ex ey (gs_ks1 ak av ac ek ev ex ey kv j) j := if_neg w'
            have g := gs_go_ok (ek := ek) (ev := ev) (av := av) hac hc3 hx hy ok.1 hj w'
            refine gx_giveOn GE GA ok.1 hj w' h2 (fun a ha => br_c (fun q => nm_r (nI_1 j) (ihj (t1, a) ?_)) (fun q => nm_r (nI_1 j) (ihj (1, a) ?_)))
            · have q' := gs_fl_z.mp q
              rw [s1]
              refine ⟨?_, ha⟩
              rw [q']
              exact h1
            · have q' : ¬ gs_go ak av ac ek ev ex ey (gs_ks1 ak av ac ek ev ex ey kv j) j = gs_ks1 ak av ac ek ev ex ey kv j := fun y => q (gs_fl_0 y)
              have gr := g.2.resolve_left q'
              rw [s1]
              refine ⟨(gs_fl_1 (fun y => ?_)).symm, ha⟩
              rw [y] at gr
              rcases ok.2 with o | o
              · rw [o] at gr
                omega
              · omega
  · rintro m i s hi hI ih
    have put : ∀ v, v = gs_kd (gs_k0 i) → ∀ j, j < i + 1 → upd s i v j = gs_kd (gs_k0 j) := by
      intro v hv j hj
      by_cases e : j = i
      · subst e
        rw [pk_us]
        exact hv
      · rw [pk_un e]
        exact hI j (by omega)
    refine br_f (nI_ge (b := 64) hi (by decide)) (pk_le 4 i (fun z => ⟨vp_in_nI hi (by decide), nm_r (e' := upd s i (-1)) (by rw [nI_clamp (by omega)]) (nm_r (nI_1 i) (ih _ (put _ ?_)))⟩) (fun z => ⟨vp_in_nI hi (by decide), nm_r (e' := upd s i 0) (by rw [nI_clamp (by omega)]) (nm_r (nI_1 i) (ih _ (put _ ?_)))⟩))
    · unfold gs_k0
      rw [if_neg (by omega)]
      rfl
    · unfold gs_k0
      rw [if_pos (by omega)]
      rfl
end
end
section
/-! X: the code -/
section
variable {f_stale f_seen f_seenCount f_isStraight f_meetings f_codeCount f_taskCount f_hasRun f_toldCount f_lastNode f_hasStopped : Int32} {f_inputLeft : Int64} {a_actKind a_actVariable a_actOperand a_endKind a_endVariable a_endX a_endY a_path a_pathSide a_leaving a_numberOf a_nodeAt a_successors a_predecessors a_before a_behind a_loop a_liveAt a_knownAt a_code a_task a_variable a_latestTold : Nat → Int32} {ek ex ey ev : Nat → Nat}
theorem gx_addTask {post : SX → Prop} {tk : List Nat} {w : Nat} {p : Int32} (hp : p = nI w) (ht : gs_st a_task tk) (hl : tk.length < 176) (h : ∀ t, gs_st t (w :: tk) → post (f_stale, f_seen, f_seenCount, f_isStraight, f_meetings, f_codeCount, nI (w :: tk).length, f_hasRun, f_inputLeft, f_toldCount, f_lastNode, f_hasStopped, a_actKind, a_actVariable, a_actOperand, a_endKind, a_endVariable, a_endX, a_endY, a_path, a_pathSide, a_leaving, a_numberOf, a_nodeAt, a_successors, a_predecessors, a_before, a_behind, a_loop, a_liveAt, a_knownAt, a_code, t, a_variable, a_latestTold)) : wpX_addTask post (f_stale, f_seen, f_seenCount, f_isStraight, f_meetings, f_codeCount, nI tk.length, f_hasRun, f_inputLeft, f_toldCount, f_lastNode, f_hasStopped, a_actKind, a_actVariable, a_actOperand, a_endKind, a_endVariable, a_endX, a_endY, a_path, a_pathSide, a_leaving, a_numberOf, a_nodeAt, a_successors, a_predecessors, a_before, a_behind, a_loop, a_liveAt, a_knownAt, a_code, a_task, a_variable, a_latestTold) p := by
  subst hp
  refine br_f (nI_ge (b := 176) hl (by decide)) ⟨vp_in_nI hl (by decide), nm_r (e' := upd a_task tk.length (nI w)) (by rw [nI_clamp (by omega)]) (nm_r (nI_1 _) (h _ (gs_st_push ht)))⟩
theorem gx_addWord {post : SX → Prop} {wd : List Nat} {w : Nat} {p : Int32} (hp : p = nI w) (ht : gs_st a_code wd) (hl : wd.length < 160) (h : ∀ t, gs_st t (w :: wd) → post (f_stale, f_seen, f_seenCount, f_isStraight, f_meetings, nI (w :: wd).length, f_taskCount, f_hasRun, f_inputLeft, f_toldCount, f_lastNode, f_hasStopped, a_actKind, a_actVariable, a_actOperand, a_endKind, a_endVariable, a_endX, a_endY, a_path, a_pathSide, a_leaving, a_numberOf, a_nodeAt, a_successors, a_predecessors, a_before, a_behind, a_loop, a_liveAt, a_knownAt, t, a_task, a_variable, a_latestTold)) : wpX_addWord post (f_stale, f_seen, f_seenCount, f_isStraight, f_meetings, nI wd.length, f_taskCount, f_hasRun, f_inputLeft, f_toldCount, f_lastNode, f_hasStopped, a_actKind, a_actVariable, a_actOperand, a_endKind, a_endVariable, a_endX, a_endY, a_path, a_pathSide, a_leaving, a_numberOf, a_nodeAt, a_successors, a_predecessors, a_before, a_behind, a_loop, a_liveAt, a_knownAt, a_code, a_task, a_variable, a_latestTold) p := by
  subst hp
  refine br_f (nI_ge (b := 160) hl (by decide)) ⟨vp_in_nI hl (by decide), nm_r (e' := upd a_code wd.length (nI w)) (by rw [nI_clamp (by omega)]) (nm_r (nI_1 _) (h _ (gs_st_push ht)))⟩
theorem gs_Fst_ch (hx : ∀ n, ex n < 16) (hy : ∀ n, ey n < 16) {r : Int32} {m n : Nat} (hn : n < 16) (h : gs_Fst r (gs_near (gs_bf ek ex ey) m)) : r = nI n ↔ gs_ch ek ex ey m n := by
  rcases h with ⟨d, hd, rfl, h1, h2⟩ | ⟨rfl, h1⟩
  · rw [nI_eq (by omega) (by omega)]
    constructor
    · rintro rfl
      exact ⟨h1, h2⟩
    · intro z
      rcases Nat.lt_trichotomy d n with q | q | q
      · exact absurd h1 (z.2 d q)
      · exact q
      · exact absurd z.1 (h2 n q)
  · constructor
    · intro z
      exact absurd z.symm (gx_ne1 hn)
    · intro z
      exact absurd z.1 (h1 n hn)
/-- what X knows when it writes -/
def gx_CW (ek ex ey : Nat → Nat) (f_seenCount f_meetings : Int32) (a_numberOf a_nodeAt a_before a_loop : Nat → Int32) : Prop :=
  f_seenCount = nI (gs_lv ek ex ey).length ∧ gs_Mk f_meetings (gs_mt ek ex ey) ∧ gx_NU ek ex ey a_numberOf ∧ gx_NA ek ex ey a_nodeAt ∧ (∀ n, n < 16 → gs_Mk (a_before n) (fun d => gs_bf ek ex ey d n)) ∧ (∀ n, n < 16 → gs_Mk (a_loop n) (gs_lp ek ex ey n))
theorem gx_open_30 {post : SX → Prop} {n : Nat} (hx : ∀ n, ex n < 16) (hy : ∀ n, ey n < 16) (CW : gx_CW ek ex ey f_seenCount f_meetings a_numberOf a_nodeAt a_before a_loop) (hn : n < 16) : ∀ (k : Nat) (s : List Nat × List Nat) (c t : Nat → Int32), k ≤ (gs_lv ek ex ey).length → gs_st c s.1 → gs_st t s.2 → (gs_ob ek ex ey n k s).1.length < 160 → (gs_ob ek ex ey n k s).2.length ≤ 176 →
    (∀ c' t', gs_st c' (n :: (gs_ob ek ex ey n k s).1) → gs_st t' (gs_ob ek ex ey n k s).2 → post (f_stale, f_seen, f_seenCount, f_isStraight, f_meetings, nI (n :: (gs_ob ek ex ey n k s).1).length, nI (gs_ob ek ex ey n k s).2.length, f_hasRun, f_inputLeft, f_toldCount, f_lastNode, f_hasStopped, a_actKind, a_actVariable, a_actOperand, a_endKind, a_endVariable, a_endX, a_endY, a_path, a_pathSide, a_leaving, a_numberOf, a_nodeAt, a_successors, a_predecessors, a_before, a_behind, a_loop, a_liveAt, a_knownAt, c', t', a_variable, a_latestTold)) →
    wX_openNode_30 post (nI n) (k + 1) (nI k + (-1)) f_stale f_seen f_seenCount f_isStraight f_meetings (nI s.1.length) (nI s.2.length) f_hasRun f_inputLeft f_toldCount f_lastNode f_hasStopped a_actKind a_actVariable a_actOperand a_endKind a_endVariable a_endX a_endY a_path a_pathSide a_leaving a_numberOf a_nodeAt a_successors a_predecessors a_before a_behind a_loop a_liveAt a_knownAt c t a_variable a_latestTold
  | 0, s, c, t, _, hc, ht, hl1, hl2, h => by
    refine br_t (by decide) (gx_addWord (w := n) ?_ hc hl1 (fun c' hc' => h c' t hc' ht))
    rw [Int32.zero_add]
  | k + 1, s, c, t, hk, hc, ht, hl1, hl2, h => by
    have L := gs_lv_len (ek := ek) hx hy
    have hm : gs_at (gs_lv ek ex ey) k ∈ gs_lv ek ex ey := gs_at_mem _ k hk
    have hs : gs_sn ek ex ey (gs_at (gs_lv ek ex ey) k) = true := (gs_sn_lv hx hy).mpr hm
    have m16 := gs_sn_lt hx hy hs
    have hna := CW.2.2.2.1 k hk
    have ih := gx_open_30 (post := post) hx hy CW hn k
    unfold gs_ob at hl1 hl2 h
    rw [pk_m1]
    refine br_f (nI_pos (by omega)) ⟨gx_in (by omega), nm_r (e' := nI (gs_at (gs_lv ek ex ey) k)) (by rw [gx_cl (by omega)]; exact hna) (gx_hm CW.2.1 m16 (fun q => ?_) (fun q => ?_))⟩
    · refine gx_near_before m16 CW.2.2.2.2.1 (fun r hr => br_c (fun z => ?_) (fun z => ?_))
      · have kid : gs_kid ek ex ey n (gs_at (gs_lv ek ex ey) k) = true := gs_B_t.mpr ⟨q, (gs_Fst_ch hx hy hn hr).mp z⟩
        rw [if_pos kid] at hl1 hl2 h
        have g := gs_ob_len (ek := ek) (ex := ex) (ey := ey) n k ((32 + gs_at (gs_lv ek ex ey) k) :: s.1, 80 :: (256 + gs_at (gs_lv ek ex ey) k) :: s.2)
        simp only [List.length_cons] at g
        refine gx_addWord (w := 32 + gs_at (gs_lv ek ex ey) k) (nI_add 32 _) hc (by omega) (fun c1 hc1 => ?_)
        refine gx_addTask (w := 256 + gs_at (gs_lv ek ex ey) k) (nI_add 256 _) ht (by omega) (fun t1 ht1 => ?_)
        refine gx_addTask (w := 80) rfl ht1 (by simp only [List.length_cons]; omega) (fun t2 ht2 => nm_e ?_)
        exact ih ((32 + gs_at (gs_lv ek ex ey) k) :: s.1, 80 :: (256 + gs_at (gs_lv ek ex ey) k) :: s.2) c1 t2 (by omega) hc1 ht2 hl1 hl2 h
      · have kid : ¬ gs_kid ek ex ey n (gs_at (gs_lv ek ex ey) k) = true := fun w => z ((gs_Fst_ch hx hy hn hr).mpr (gs_B_t.mp w).2)
        rw [if_neg kid] at hl1 hl2 h
        exact nm_e (ih s c t (by omega) hc ht hl1 hl2 h)
    · have kid : ¬ gs_kid ek ex ey n (gs_at (gs_lv ek ex ey) k) = true := fun w => q (gs_B_t.mp w).1
      rw [if_neg kid] at hl1 hl2 h
      exact nm_e (ih s c t (by omega) hc ht hl1 hl2 h)
theorem gx_lenp (hx : ∀ n, ex n < 16) (hy : ∀ n, ey n < 16) : nI (gs_lv ek ex ey).length - 1 = nI (gs_lv ek ex ey).length + (-1) := by
  obtain ⟨t, ht⟩ := gs_lv_0 (ek := ek) hx hy
  rw [ht, List.length_cons, nI_pred, pk_m1]
theorem gx_open {post : SX → Prop} {n : Nat} {wd tk : List Nat} (hx : ∀ n, ex n < 16) (hy : ∀ n, ey n < 16) (CW : gx_CW ek ex ey f_seenCount f_meetings a_numberOf a_nodeAt a_before a_loop) (hn : n < 16) (hc : gs_st a_code wd) (ht : gs_st a_task tk) (hl1 : (gs_op ek ex ey ev n (wd, tk)).1.length ≤ 160) (hl2 : (gs_ob ek ex ey n (gs_lv ek ex ey).length (gs_o1 ek ex ey n (wd, tk))).2.length ≤ 176)
    (h : ∀ c' t', gs_st c' (gs_op ek ex ey ev n (wd, tk)).1 → gs_st t' (gs_ob ek ex ey n (gs_lv ek ex ey).length (gs_o1 ek ex ey n (wd, tk))).2 → post (f_stale, f_seen, f_seenCount, f_isStraight, f_meetings, nI (gs_op ek ex ey ev n (wd, tk)).1.length, nI (gs_ob ek ex ey n (gs_lv ek ex ey).length (gs_o1 ek ex ey n (wd, tk))).2.length, f_hasRun, f_inputLeft, f_toldCount, f_lastNode, f_hasStopped, a_actKind, a_actVariable, a_actOperand, a_endKind, a_endVariable, a_endX, a_endY, a_path, a_pathSide, a_leaving, a_numberOf, a_nodeAt, a_successors, a_predecessors, a_before, a_behind, a_loop, a_liveAt, a_knownAt, c', t', a_variable, a_latestTold)) :
    wpX_openNode post (f_stale, f_seen, f_seenCount, f_isStraight, f_meetings, nI wd.length, nI tk.length, f_hasRun, f_inputLeft, f_toldCount, f_lastNode, f_hasStopped, a_actKind, a_actVariable, a_actOperand, a_endKind, a_endVariable, a_endX, a_endY, a_path, a_pathSide, a_leaving, a_numberOf, a_nodeAt, a_successors, a_predecessors, a_before, a_behind, a_loop, a_liveAt, a_knownAt, a_code, a_task, a_variable, a_latestTold) (nI n) := by
  have hz : (a_loop (nI n).toNatClampNeg = 0) ↔ ¬ ∃ p, gs_ret ek ex ey n p := by
    rw [gx_cl hn, gs_Mk_z (CW.2.2.2.2.2 n hn)]
    constructor
    · rintro z ⟨p, hp⟩
      exact z n hn (gs_lp_h hp)
    · rintro z i _ ⟨p, hp, _⟩
      exact z ⟨p, hp⟩
  have hsc := CW.1
  unfold gs_op at hl1 h
  dsimp only at hl1 h
  simp only [List.length_cons] at hl1
  refine ⟨gx_in hn, br_c (fun z => ?_) (fun z => ?_)⟩
  · have o1 : gs_o1 ek ex ey n (wd, tk) = (wd, tk) := if_neg (fun w => hz.mp z (gs_B_t.mp w))
    rw [o1] at hl1 hl2 h
    refine nm_r (e' := nI (gs_lv ek ex ey).length + (-1)) (by rw [hsc]; exact gx_lenp hx hy) ⟨_, gx_open_30 hx hy CW hn (gs_lv ek ex ey).length (wd, tk) a_code a_task (Nat.le_refl _) hc ht (by omega) hl2 h⟩
  · have hd : gs_hd ek ex ey n = true := by
      apply gs_B_t.mpr
      apply Classical.byContradiction
      exact fun w => z (hz.mpr w)
    have o1 : gs_o1 ek ex ey n (wd, tk) = ((16 + n) :: wd, 80 :: tk) := if_pos hd
    rw [o1] at hl1 hl2 h
    have g := gs_ob_len (ek := ek) (ex := ex) (ey := ey) n (gs_lv ek ex ey).length ((16 + n) :: wd, 80 :: tk)
    simp only [List.length_cons] at g
    refine gx_addWord (w := 16 + n) (nI_add 16 n) hc (by omega) (fun c1 hc1 => gx_addTask (w := 80) rfl ht (by omega) (fun t1 ht1 => ?_))
    refine nm_r (e' := nI (gs_lv ek ex ey).length + (-1)) (by rw [hsc]; exact gx_lenp hx hy) ⟨_, gx_open_30 hx hy CW hn (gs_lv ek ex ey).length ((16 + n) :: wd, 80 :: tk) c1 t1 (Nat.le_refl _) hc1 ht1 (by omega) hl2 h⟩
theorem gx_way {post : Int32 → Prop} {n s : Nat} (hx : ∀ n, ex n < 16) (hy : ∀ n, ey n < 16) (CW : gx_CW ek ex ey f_seenCount f_meetings a_numberOf a_nodeAt a_before a_loop) (hn : gs_sn ek ex ey n = true) (hs : gs_sn ek ex ey s = true) (h : post (nI (gs_way ek ex ey n s))) : wpX_wayTo post (f_stale, f_seen, f_seenCount, f_isStraight, f_meetings, f_codeCount, f_taskCount, f_hasRun, f_inputLeft, f_toldCount, f_lastNode, f_hasStopped, a_actKind, a_actVariable, a_actOperand, a_endKind, a_endVariable, a_endX, a_endY, a_path, a_pathSide, a_leaving, a_numberOf, a_nodeAt, a_successors, a_predecessors, a_before, a_behind, a_loop, a_liveAt, a_knownAt, a_code, a_task, a_variable, a_latestTold) (nI n) (nI s) := by
  have n16 := gs_sn_lt hx hy hn
  have s16 := gs_sn_lt hx hy hs
  have hl := (gx_nu_lt hx hy CW.2.2.1 hn hs).1
  unfold gs_way at h
  refine ⟨gx_in s16, gx_in n16, br_c (fun z => ?_) (fun z => ?_)⟩
  · have z' := hl.mp z
    rw [if_neg (by omega)] at h
    refine gx_hm CW.2.1 s16 (fun q => ?_) (fun q => ?_)
    · rw [if_pos (gs_B_t.mpr q)] at h
      rw [show (112 : Int32) + nI s = nI (112 + s) from nI_add 112 s]
      exact h
    · rw [if_neg (fun w => q (gs_B_t.mp w))] at h
      rw [show (256 : Int32) + nI s = nI (256 + s) from nI_add 256 s]
      exact h
  · have z' : ¬ gs_nu ek ex ey n < gs_nu ek ex ey s := fun w => z (hl.mpr w)
    rw [if_pos (by omega)] at h
    rw [show (96 : Int32) + nI s = nI (96 + s) from nI_add 96 s]
    exact h
theorem gx_goon {post : SX → Prop} {n : Nat} {tk : List Nat} (GE : gx_GE ek ex ey a_endKind a_endX a_endY) (hev : ∀ n, a_endVariable n = nI (ev n)) (CW : gx_CW ek ex ey f_seenCount f_meetings a_numberOf a_nodeAt a_before a_loop) (hn : gs_sn ek ex ey n = true) (ht : gs_st a_task tk) (hl : (gs_gon ek ex ey ev n ++ tk).length ≤ 176)
    (h : ∀ t', gs_st t' (gs_gon ek ex ey ev n ++ tk) → post (f_stale, f_seen, f_seenCount, f_isStraight, f_meetings, f_codeCount, nI (gs_gon ek ex ey ev n ++ tk).length, f_hasRun, f_inputLeft, f_toldCount, f_lastNode, f_hasStopped, a_actKind, a_actVariable, a_actOperand, a_endKind, a_endVariable, a_endX, a_endY, a_path, a_pathSide, a_leaving, a_numberOf, a_nodeAt, a_successors, a_predecessors, a_before, a_behind, a_loop, a_liveAt, a_knownAt, a_code, t', a_variable, a_latestTold)) : wpX_addGoingOn post (f_stale, f_seen, f_seenCount, f_isStraight, f_meetings, f_codeCount, nI tk.length, f_hasRun, f_inputLeft, f_toldCount, f_lastNode, f_hasStopped, a_actKind, a_actVariable, a_actOperand, a_endKind, a_endVariable, a_endX, a_endY, a_path, a_pathSide, a_leaving, a_numberOf, a_nodeAt, a_successors, a_predecessors, a_before, a_behind, a_loop, a_liveAt, a_knownAt, a_code, a_task, a_variable, a_latestTold) (nI n) := by
  obtain ⟨g1, g2, g3, g4, g5, g6⟩ := GE
  have n16 := gs_sn_lt g2 g3 hn
  have k2 := g1 n
  have eK : ∀ b, b < 3 → (a_endKind (nI n).toNatClampNeg = nI b ↔ ek n = b) := fun b hb => by
    rw [gx_cl n16, g4]
    exact nI_eq (by omega) (by omega)
  have eX : a_endX (nI n).toNatClampNeg = nI (ex n) := by rw [gx_cl n16, g5]
  have eY : a_endY (nI n).toNatClampNeg = nI (ey n) := by rw [gx_cl n16, g6]
  have eV : a_endVariable (nI n).toNatClampNeg = nI (ev n) := by rw [gx_cl n16, hev]
  unfold gs_gon at hl h
  refine ⟨gx_in n16, br_c (fun z => ?_) (fun z => ⟨gx_in n16, ?_⟩)⟩
  · rw [if_pos ((eK 0 (by omega)).mp z)] at hl h
    exact gx_addTask (w := 128) rfl ht (by simp only [List.length_append, List.length_cons] at hl; omega) h
  · have z0 : ¬ ek n = 0 := fun w => z ((eK 0 (by omega)).mpr w)
    rw [if_neg z0] at hl h
    have hEx : gs_E ek ex ey n (ex n) := by
      by_cases k1 : ek n = 1
      · exact Or.inl ⟨k1, rfl⟩
      · exact Or.inr ⟨by omega, Or.inl rfl⟩
    rw [eX]
    have one : ek n = 1 ∨ ex n = ey n → wX_addGoingOn_54 post (nI (gs_way ek ex ey n (ex n))) f_stale f_seen f_seenCount f_isStraight f_meetings f_codeCount (nI tk.length) f_hasRun f_inputLeft f_toldCount f_lastNode f_hasStopped a_actKind a_actVariable a_actOperand a_endKind a_endVariable a_endX a_endY a_path a_pathSide a_leaving a_numberOf a_nodeAt a_successors a_predecessors a_before a_behind a_loop a_liveAt a_knownAt a_code a_task a_variable a_latestTold := by
      intro q
      rw [if_pos q] at hl h
      exact gx_addTask rfl ht (by simp only [List.length_append, List.length_cons] at hl; omega) h
    refine gx_way g2 g3 CW hn (gs_sn_E g2 g3 hn hEx) ⟨gx_in n16, br_c (fun y => one (Or.inl ((eK 1 (by omega)).mp y))) (fun y => ⟨gx_in n16, gx_in n16, br_c (fun w => one (Or.inr ?_)) (fun w => ⟨gx_in n16, ?_⟩)⟩)⟩
    · rw [eY, nI_eq (by have := g2 n; omega) (by have := g3 n; omega)] at w
      exact w
    · have y1 : ¬ ek n = 1 := fun q => y ((eK 1 (by omega)).mpr q)
      have xy : ¬ ex n = ey n := fun q => w (by rw [eY, q])
      rw [if_neg (fun q => q.elim y1 xy)] at hl h
      have hEy : gs_E ek ex ey n (ey n) := Or.inr ⟨by omega, Or.inr rfl⟩
      rw [eY]
      simp only [List.length_append, List.length_cons, List.length_nil] at hl
      refine gx_way g2 g3 CW hn (gs_sn_E g2 g3 hn hEy) ?_
      refine gx_addTask (w := 80) rfl ht (by omega) (fun t1 h1 => ?_)
      refine gx_addTask (w := gs_way ek ex ey n (ey n)) rfl h1 (by simp only [List.length_cons]; omega) (fun t2 h2 => ?_)
      refine gx_addTask (w := 64) rfl h2 (by simp only [List.length_cons]; omega) (fun t3 h3 => ?_)
      refine gx_addTask (w := gs_way ek ex ey n (ex n)) rfl h3 (by simp only [List.length_cons]; omega) (fun t4 h4 => ?_)
      refine ⟨gx_in n16, gx_addTask (w := 48 + ev n) (by rw [eV]; exact nI_add 48 _) h4 (by simp only [List.length_cons]; omega) (fun t5 h5 => ?_)⟩
      exact h t5 h5
theorem gx_write {post : SX → Prop} (GE : gx_GE ek ex ey a_endKind a_endX a_endY) (hev : ∀ n, a_endVariable n = nI (ev n)) (hv : ∀ n, ev n < 4) (CW : gx_CW ek ex ey f_seenCount f_meetings a_numberOf a_nodeAt a_before a_loop)
    (h0 : f_isStraight = 0 → post (f_stale, f_seen, f_seenCount, f_isStraight, f_meetings, 0, 0, f_hasRun, f_inputLeft, f_toldCount, f_lastNode, f_hasStopped, a_actKind, a_actVariable, a_actOperand, a_endKind, a_endVariable, a_endX, a_endY, a_path, a_pathSide, a_leaving, a_numberOf, a_nodeAt, a_successors, a_predecessors, a_before, a_behind, a_loop, a_liveAt, a_knownAt, a_code, a_task, a_variable, a_latestTold)) (h1 : ¬ f_isStraight = 0 → ∀ tc c t, gs_st c (gs_cF ek ex ey ev).1 → post (f_stale, f_seen, f_seenCount, f_isStraight, f_meetings, nI (gs_cF ek ex ey ev).1.length, tc, f_hasRun, f_inputLeft, f_toldCount, f_lastNode, f_hasStopped, a_actKind, a_actVariable, a_actOperand, a_endKind, a_endVariable, a_endX, a_endY, a_path, a_pathSide, a_leaving, a_numberOf, a_nodeAt, a_successors, a_predecessors, a_before, a_behind, a_loop, a_liveAt, a_knownAt, c, t, a_variable, a_latestTold)) : wpX_writeCode post (f_stale, f_seen, f_seenCount, f_isStraight, f_meetings, f_codeCount, f_taskCount, f_hasRun, f_inputLeft, f_toldCount, f_lastNode, f_hasStopped, a_actKind, a_actVariable, a_actOperand, a_endKind, a_endVariable, a_endX, a_endY, a_path, a_pathSide, a_leaving, a_numberOf, a_nodeAt, a_successors, a_predecessors, a_before, a_behind, a_loop, a_liveAt, a_knownAt, a_code, a_task, a_variable, a_latestTold) := by
  have hk := GE.1
  have hx := GE.2.1
  have hy := GE.2.2.1
  refine br_c h0 (fun z => ?_)
  have h1 := h1 z
  refine gx_addTask (tk := []) (w := 256) rfl trivial (by decide) (fun t0 ht0 => ?_)
  refine pk_loop (fun m i (s : Int32 × Int32 × (Nat → Int32) × (Nat → Int32)) => wX_writeCode_27 post m (nI i) f_stale f_seen f_seenCount f_isStraight f_meetings s.1 s.2.1 f_hasRun f_inputLeft f_toldCount f_lastNode f_hasStopped a_actKind a_actVariable a_actOperand a_endKind a_endVariable a_endX a_endY a_path a_pathSide a_leaving a_numberOf a_nodeAt a_successors a_predecessors a_before a_behind a_loop a_liveAt a_knownAt s.2.2.1 s.2.2.2 a_variable a_latestTold) (fun i s => s.1 = nI (gs_ci ek ex ey ev i).1.length ∧ s.2.1 = nI (gs_ci ek ex ey ev i).2.length ∧ gs_st s.2.2.1 (gs_ci ek ex ey ev i).1 ∧ gs_st s.2.2.2 (gs_ci ek ex ey ev i).2) 176 0 (0, nI [256].length, a_code, t0) (by omega) (by rw [gs_ci_0]; exact ⟨rfl, rfl, trivial, ht0⟩) ?_ ?_
  · rintro m s hI
    have hI2 : s.1 = nI (gs_cF ek ex ey ev).1.length ∧ gs_st s.2.2.1 (gs_cF ek ex ey ev).1 := by
      rw [← gs_ci_F]
      exact ⟨hI.1, hI.2.2.1⟩
    obtain ⟨s1, s2, c, t⟩ := s
    have e1 : s1 = nI (gs_cF ek ex ey ev).1.length := hI2.1
    subst e1
    exact br_t (by decide) (h1 s2 c t hI2.2)
  · rintro m i ⟨s1, s2, c, t⟩ hi ⟨i1, i2, i3, i4⟩ ih
    dsimp only at i1 i2 i3 i4
    have st := gs_ci_s ek ex ey ev i
    obtain ⟨b, cs⟩ := gs_ci_CS (ev := ev) hk hx hy hv i
    obtain ⟨b2, cs2⟩ := gs_ci_CS (ev := ev) hk hx hy hv (i + 1)
    have fin := gs_ci_end (ev := ev) hk hx hy hv (i := i)
    rw [st] at cs2 ih
    generalize gs_ci ek ex ey ev i = S at i1 i2 i3 i4 st cs cs2 fin ih
    obtain ⟨wd, tk⟩ := S
    dsimp only at i1 i2 i3 i4 fin
    subst i1 i2
    refine br_f (nI_ge (b := 176) hi (by decide)) ?_
    cases tk with
    | nil =>
      refine br_t (show nI 0 ≤ (0 : Int32) by decide) ?_
      have f := fin rfl
      rw [← f] at h1
      exact h1 _ c t i3
    | cons q r =>
      have len := gs_CS_len cs
      have len2 := gs_CS_len cs2
      simp only [List.length_cons] at len
      have e1 : nI (q :: r).length - 1 = nI r.length := by rw [List.length_cons]; exact nI_pred _
      refine br_f (nI_nle (by simp) (by simp only [List.length_cons]; omega)) (nm_r e1 ⟨vp_in_nI (by omega) (by decide), nm_r (e' := nI q) (by rw [nI_clamp (by omega)]; exact i4.1) ?_⟩)
      obtain ⟨Wr, ci, _⟩ := cs
      have q272 : q < 272 := by
        rcases ci.1 q List.mem_cons_self with w | w
        · omega
        · have := gs_sn_lt hx hy w.2
          omega
      refine pk_lt q 256 (fun w => ?_) (fun w => ?_)
      · have cs1 : gs_cs ek ex ey ev (wd, q :: r) = (q :: wd, r) := if_pos w
        rw [cs1] at ih
        exact gx_addWord rfl i3 (by omega) (fun c' hc' => nm_r (nI_1 i) (ih (_, _, c', t) ⟨rfl, rfl, hc', i4.2⟩))
      · have cs1 : gs_cs ek ex ey ev (wd, q :: r) = gs_op ek ex ey ev (q - 256) (wd, r) := if_neg (by omega)
        rw [cs1] at ih len2
        have hsn : gs_sn ek ex ey (q - 256) = true := by
          rcases ci.1 q List.mem_cons_self with w' | w'
          · omega
          · exact w'.2
        have e2 : nI q - 256 = nI (q - 256) := pk_sub (b := 256) w
        rw [e2]
        have l2 : (gs_gon ek ex ey ev (q - 256) ++ (gs_ob ek ex ey (q - 256) (gs_lv ek ex ey).length (gs_o1 ek ex ey (q - 256) (wd, r))).2).length ≤ 158 := len2.2
        have l3 := l2
        rw [List.length_append] at l3
        refine gx_open (ev := ev) hx hy CW (by omega) i3 i4.2 (by omega) (by omega) (fun c' t' hc' ht' => ?_)
        refine gx_goon GE hev CW hsn ht' (by omega) (fun t2 ht2 => ?_)
        exact nm_r (nI_1 i) (ih (_, _, c', t2) ⟨rfl, rfl, hc', ht2⟩)
end
end
section
/-! X: study as a whole; the answers' specifications -/
section
variable (ak av ac ek ev ex ey : Nat → Nat)
/-- what X has worked out -/
def gx_VX (f_seen f_seenCount f_isStraight f_meetings f_codeCount : Int32) (a_numberOf a_nodeAt a_successors a_predecessors a_before a_behind a_loop a_liveAt a_knownAt a_code : Nat → Int32) : Prop :=
  gs_Mk f_seen (fun i => gs_sn ek ex ey i = true) ∧ gx_CW ek ex ey f_seenCount f_meetings a_numberOf a_nodeAt a_before a_loop ∧ gx_LK ek ex ey a_successors a_predecessors ∧
  (∀ n, n < 16 → gs_Mk (a_behind n) (fun d => gs_bh ek ex ey d n)) ∧ ((f_isStraight = 1 ∧ gs_strt ek ex ey) ∨ (f_isStraight = 0 ∧ ¬ gs_strt ek ex ey)) ∧
  (∀ n, gs_sn ek ex ey n = true → gs_Mk (a_liveAt n) (fun v => gs_liv ak av ac ek ev ex ey v n)) ∧ (∀ j, j < 64 → a_knownAt j = gs_kd (gs_kF ak av ac ek ev ex ey j)) ∧
  (¬ f_isStraight = 0 → f_codeCount = nI (gs_cF ek ex ey ev).1.length ∧ gs_st a_code (gs_cF ek ex ey ev).1)
def gx_RX (u : SX) : Prop := match u with
  | (f_stale, f_seen, f_seenCount, f_isStraight, f_meetings, f_codeCount, f_taskCount, f_hasRun, f_inputLeft, f_toldCount, f_lastNode, f_hasStopped, a_actKind, a_actVariable, a_actOperand, a_endKind, a_endVariable, a_endX, a_endY, a_path, a_pathSide, a_leaving, a_numberOf, a_nodeAt, a_successors, a_predecessors, a_before, a_behind, a_loop, a_liveAt, a_knownAt, a_code, a_task, a_variable, a_latestTold) => gx_GE ek ex ey a_endKind a_endX a_endY ∧ gx_GA ak av ac ev a_actKind a_actVariable a_actOperand a_endVariable ∧ (f_stale = 0 → gx_VX ak av ac ek ev ex ey f_seen f_seenCount f_isStraight f_meetings f_codeCount a_numberOf a_nodeAt a_successors a_predecessors a_before a_behind a_loop a_liveAt a_knownAt a_code)
end
/-- what the runs leave -/
def gx_run (u : SX) : Int32 × Int32 × Int32 × Int32 × (Nat → Int32) × (Nat → Int32) := match u with
  | (f_stale, f_seen, f_seenCount, f_isStraight, f_meetings, f_codeCount, f_taskCount, f_hasRun, f_inputLeft, f_toldCount, f_lastNode, f_hasStopped, a_actKind, a_actVariable, a_actOperand, a_endKind, a_endVariable, a_endX, a_endY, a_path, a_pathSide, a_leaving, a_numberOf, a_nodeAt, a_successors, a_predecessors, a_before, a_behind, a_loop, a_liveAt, a_knownAt, a_code, a_task, a_variable, a_latestTold) => (f_hasRun, f_toldCount, f_lastNode, f_hasStopped, a_variable, a_latestTold)
section
variable {f_stale f_seen f_seenCount f_isStraight f_meetings f_codeCount f_taskCount f_hasRun f_toldCount f_lastNode f_hasStopped : Int32} {f_inputLeft : Int64} {a_actKind a_actVariable a_actOperand a_endKind a_endVariable a_endX a_endY a_path a_pathSide a_leaving a_numberOf a_nodeAt a_successors a_predecessors a_before a_behind a_loop a_liveAt a_knownAt a_code a_task a_variable a_latestTold : Nat → Int32} {ek ex ey ak av ac ev : Nat → Nat}
theorem gx_study {post : SX → Prop} (R : gx_RX ak av ac ek ev ex ey (f_stale, f_seen, f_seenCount, f_isStraight, f_meetings, f_codeCount, f_taskCount, f_hasRun, f_inputLeft, f_toldCount, f_lastNode, f_hasStopped, a_actKind, a_actVariable, a_actOperand, a_endKind, a_endVariable, a_endX, a_endY, a_path, a_pathSide, a_leaving, a_numberOf, a_nodeAt, a_successors, a_predecessors, a_before, a_behind, a_loop, a_liveAt, a_knownAt, a_code, a_task, a_variable, a_latestTold)) (h : ∀ f_seen f_seenCount f_isStraight f_meetings f_codeCount f_taskCount a_path a_pathSide a_leaving a_numberOf a_nodeAt a_successors a_predecessors a_before a_behind a_loop a_liveAt a_knownAt a_code a_task, gx_VX ak av ac ek ev ex ey f_seen f_seenCount f_isStraight f_meetings f_codeCount a_numberOf a_nodeAt a_successors a_predecessors a_before a_behind a_loop a_liveAt a_knownAt a_code → post (0, f_seen, f_seenCount, f_isStraight, f_meetings, f_codeCount, f_taskCount, f_hasRun, f_inputLeft, f_toldCount, f_lastNode, f_hasStopped, a_actKind, a_actVariable, a_actOperand, a_endKind, a_endVariable, a_endX, a_endY, a_path, a_pathSide, a_leaving, a_numberOf, a_nodeAt, a_successors, a_predecessors, a_before, a_behind, a_loop, a_liveAt, a_knownAt, a_code, a_task, a_variable, a_latestTold)) : wpX_study post (f_stale, f_seen, f_seenCount, f_isStraight, f_meetings, f_codeCount, f_taskCount, f_hasRun, f_inputLeft, f_toldCount, f_lastNode, f_hasStopped, a_actKind, a_actVariable, a_actOperand, a_endKind, a_endVariable, a_endX, a_endY, a_path, a_pathSide, a_leaving, a_numberOf, a_nodeAt, a_successors, a_predecessors, a_before, a_behind, a_loop, a_liveAt, a_knownAt, a_code, a_task, a_variable, a_latestTold) := by
  obtain ⟨GE, GA, V⟩ := R
  have hx := GE.2.1
  have hy := GE.2.2.1
  refine br_c (fun z => ?_) (fun z => ?_)
  · subst z
    exact h _ _ _ _ _ _ _ _ _ _ _ _ _ _ _ _ _ _ _ _ (V rfl)
  · refine gx_numbers GE (fun m pa si le nu na h1 h2 h3 => ?_)
    refine gx_link GE h1 (fun su pr LK => ?_)
    refine gx_stops GE h1 (fun st hst => ?_)
    refine gx_before hx hy LK (fun bf hbf => ?_)
    refine gx_behind hx hy LK hst (fun bh hbh => ?_)
    refine gx_loops hx hy LK hbf (fun lp hlp => ?_)
    refine gx_straight hx hy LK h2 hbf (fun r hr => ?_)
    refine gx_live GE GA LK (fun l hl => ?_)
    refine gx_known GE GA (fun kn hkn => ?_)
    refine gx_meet hx hy LK h2 (fun mt hmt => ?_)
    have CW : gx_CW ek ex ey (nI (gs_lv ek ex ey).length) mt nu na bf lp := ⟨rfl, hmt, h2, h3, hbf, hlp⟩
    refine gx_write GE GA.2.2.2.2.2.2.2.2 GA.2.2.2.2.1 CW (fun w => ?_) (fun w tc c t hc => ?_)
    · exact h _ _ _ _ _ _ _ _ _ _ _ _ _ _ _ _ _ _ _ _ ⟨h1, CW, LK, hbh, hr, hl, hkn, fun q => absurd w q⟩
    · exact h _ _ _ _ _ _ _ _ _ _ _ _ _ _ _ _ _ _ _ _ ⟨h1, CW, LK, hbh, hr, hl, hkn, fun _ => ⟨rfl, hc⟩⟩
theorem gx_RX0 {GV : Prop} (h : gx_GE ek ex ey a_endKind a_endX a_endY ∧ gx_GA ak av ac ev a_actKind a_actVariable a_actOperand a_endVariable ∧ GV) (V : gx_VX ak av ac ek ev ex ey f_seen f_seenCount f_isStraight f_meetings f_codeCount a_numberOf a_nodeAt a_successors a_predecessors a_before a_behind a_loop a_liveAt a_knownAt a_code) : gx_RX ak av ac ek ev ex ey (0, f_seen, f_seenCount, f_isStraight, f_meetings, f_codeCount, f_taskCount, f_hasRun, f_inputLeft, f_toldCount, f_lastNode, f_hasStopped, a_actKind, a_actVariable, a_actOperand, a_endKind, a_endVariable, a_endX, a_endY, a_path, a_pathSide, a_leaving, a_numberOf, a_nodeAt, a_successors, a_predecessors, a_before, a_behind, a_loop, a_liveAt, a_knownAt, a_code, a_task, a_variable, a_latestTold) := ⟨h.1, h.2.1, fun _ => V⟩
theorem gx_isNode {A B : Prop} {p : Int32} (ht : ∀ n, n < 16 → p = nI n → B) (hf : (∀ n, n < 16 → p ≠ nI n) → A) : wpX_isNode (fun r => (r = 0 → A) ∧ (¬ r = 0 → B)) p := by
  refine br_c (fun z => br_t rfl (hf (fun n hn e => ?_))) (fun z => ?_)
  · subst e
    exact nI_pos (by omega) z
  · obtain ⟨j, hj, rfl⟩ := nI_of z
    refine pk_le 16 j (fun w => br_t rfl (hf (fun n hn e => ?_))) (fun w => br_f (by decide) (ht j w rfl))
    have := (nI_eq hj (by omega)).mp e
    omega
theorem gx_isVar {A B : Prop} {p : Int32} (ht : ∀ n, n < 4 → p = nI n → B) (hf : (∀ n, n < 4 → p ≠ nI n) → A) : wpX_isVariable (fun r => (r = 0 → A) ∧ (¬ r = 0 → B)) p := by
  refine br_c (fun z => br_t rfl (hf (fun n hn e => ?_))) (fun z => ?_)
  · subst e
    exact nI_pos (by omega) z
  · obtain ⟨j, hj, rfl⟩ := nI_of z
    refine pk_le 4 j (fun w => br_t rfl (hf (fun n hn e => ?_))) (fun w => br_f (by decide) (ht j w rfl))
    have := (nI_eq hj (by omega)).mp e
    omega
theorem gx_isSeen {A B : Prop} {p : Int32} (hx : ∀ n, ex n < 16) (hy : ∀ n, ey n < 16) (hM : gs_Mk f_seen (fun i => gs_sn ek ex ey i = true)) (ht : ∀ n, gs_sn ek ex ey n = true → p = nI n → B) (hf : (∀ n, gs_sn ek ex ey n = true → p ≠ nI n) → A) : wpX_isSeen (fun r => (r = 0 → A) ∧ (¬ r = 0 → B)) (f_stale, f_seen, f_seenCount, f_isStraight, f_meetings, f_codeCount, f_taskCount, f_hasRun, f_inputLeft, f_toldCount, f_lastNode, f_hasStopped, a_actKind, a_actVariable, a_actOperand, a_endKind, a_endVariable, a_endX, a_endY, a_path, a_pathSide, a_leaving, a_numberOf, a_nodeAt, a_successors, a_predecessors, a_before, a_behind, a_loop, a_liveAt, a_knownAt, a_code, a_task, a_variable, a_latestTold) p := by
  refine gx_isNode (fun n hn e => ?_) (fun q => ?_)
  · subst e
    refine gx_hm hM hn (fun w => br_f (by decide) (ht n w rfl)) (fun w => br_t rfl (hf (fun m hm e => w ?_)))
    have := (nI_eq (by omega) (by have := gs_sn_lt hx hy hm; omega)).mp e
    exact this ▸ hm
  · exact br_t rfl (hf (fun n hn => q n (gs_sn_lt hx hy hn)))
end
/-- an answer of a seen node, or -1 -/
def gs_Q (ek ex ey : Nat → Nat) (Q : Nat → Int32 → Prop) (p r : Int32) : Prop := (∃ n, gs_sn ek ex ey n = true ∧ p = nI n ∧ Q n r) ∨ ((∀ n, gs_sn ek ex ey n = true → p ≠ nI n) ∧ r = -1)
theorem gs_Q_uniq {ek ex ey : Nat → Nat} (hx : ∀ n, ex n < 16) (hy : ∀ n, ey n < 16) {Q : Nat → Int32 → Prop} {p r r' : Int32} (hQ : ∀ n, n < 16 → ∀ r r', Q n r → Q n r' → r' = r) (h : gs_Q ek ex ey Q p r) (h' : gs_Q ek ex ey Q p r') : r' = r := by
  rcases h with ⟨n, h1, h2, h3⟩ | ⟨h1, h2⟩
  · rcases h' with ⟨m, h4, h5, h6⟩ | ⟨h4, h5⟩
    · have n16 := gs_sn_lt hx hy h1
      have m16 := gs_sn_lt hx hy h4
      have e : n = m := (nI_eq (by omega) (by omega)).mp (h2.symm.trans h5)
      subst e
      exact hQ n n16 r r' h3 h6
    · exact absurd h2 (h4 n h1)
  · rcases h' with ⟨m, h4, h5, h6⟩ | ⟨h4, h5⟩
    · exact absurd h5 (h1 m h4)
    · rw [h2, h5]
end
section
/-! X: the questions -/
noncomputable def gs_mk1 (P : Nat → Prop) : Nat → Int32
  | 0 => 0
  | n + 1 => if gs_B (P n) = true then gs_mk1 P n ||| ((1 : Int32) <<< (nI n &&& 31)) else gs_mk1 P n
noncomputable def gs_mkm (P : Nat → Prop) : Int32 := gs_mk1 P 16
theorem gs_mk1_ok (P : Nat → Prop) : ∀ n, n ≤ 16 → gs_Mk (gs_mk1 P n) (fun i => i < n ∧ P i)
  | 0, _ => gs_Mk_0 (fun i _ z => absurd z.1 (Nat.not_lt_zero i))
  | n + 1, h => by
    have ih := gs_mk1_ok P n (by omega)
    unfold gs_mk1
    by_cases z : gs_B (P n) = true
    · rw [if_pos z]
      apply gs_Mk_iff (gs_Mk_set ih (by omega : n < 16))
      intro i _
      constructor
      · rintro (q | rfl)
        · exact ⟨by omega, q.2⟩
        · exact ⟨by omega, gs_B_t.mp z⟩
      · rintro ⟨q1, q2⟩
        by_cases e : i = n
        · exact Or.inr e
        · exact Or.inl ⟨by omega, q2⟩
    · rw [if_neg z]
      apply gs_Mk_iff ih
      intro i _
      constructor
      · exact fun q => ⟨by omega, q.2⟩
      · rintro ⟨q1, q2⟩
        by_cases e : i = n
        · exact absurd (gs_B_t.mpr (e ▸ q2)) z
        · exact ⟨by omega, q2⟩
theorem gs_mkm_ok (P : Nat → Prop) : gs_Mk (gs_mkm P) P := gs_Mk_iff (gs_mk1_ok P 16 (Nat.le_refl _)) (fun i hi => ⟨fun z => z.2, fun z => ⟨hi, z⟩⟩)
noncomputable def gs_cnt (P : Nat → Prop) (k : Nat) : Nat := gs_cn (fun i => gs_B (P i)) k
theorem gs_cnt_le (P : Nat → Prop) (k : Nat) : gs_cnt P k ≤ k := gs_cn_le _ k
theorem gs_cnt_t {P : Nat → Prop} {k : Nat} (h : P k) : gs_cnt P (k + 1) = gs_cnt P k + 1 := by
  show gs_cn (fun i => gs_B (P i)) k + (if gs_B (P k) = true then 1 else 0) = _
  rw [if_pos (gs_B_t.mpr h)]
  rfl
theorem gs_cnt_f {P : Nat → Prop} {k : Nat} (h : ¬ P k) : gs_cnt P (k + 1) = gs_cnt P k := by
  show gs_cn (fun i => gs_B (P i)) k + (if gs_B (P k) = true then 1 else 0) = _
  rw [if_neg (fun z => h (gs_B_t.mp z))]
  rfl
section
variable (ak av ac ek ev ex ey : Nat → Nat)
/-- the head of the least loop among those below h -/
noncomputable def gs_hf (n : Nat) : Nat → Int32 × Nat
  | 0 => (-1, 17)
  | h + 1 => if gs_B (gs_lp ek ex ey h n ∧ gs_cnt (gs_lp ek ex ey h) 16 < (gs_hf n h).2) = true then (nI h, gs_cnt (gs_lp ek ex ey h) 16) else gs_hf n h
def gs_chg (v n : Nat) : Prop := gs_sn ek ex ey n = true ∧ (ak n = 1 ∨ ak n = 2 ∨ ak n = 3 ∨ ak n = 5) ∧ av n = v
def gs_mg (v : Nat) : Nat → Prop := gs_cl (fun k => ∃ n, (n = 0 ∨ gs_chg ak av ek ex ey v n) ∧ gs_edge ek ex ey n k) (fun j k => gs_edge ek ex ey j k)
def gs_Qset (w : Int32) (n : Nat) (r : Int32) : Prop := (w = 0 ∧ gs_Mk r (gs_edge ek ex ey n)) ∨ (w = 1 ∧ gs_Mk r (gs_rul ek ex ey n)) ∨ (w = 2 ∧ gs_Mk r (gs_lp ek ex ey n)) ∨ ((w ≠ 0 ∧ w ≠ 1 ∧ w ≠ 2) ∧ r = -1)
def gs_Amg (p r : Int32) : Prop := (∃ v, v < 4 ∧ p = nI v ∧ gs_Mk r (gs_mg ak av ek ex ey v)) ∨ ((∀ v, v < 4 → p ≠ nI v) ∧ r = -1)
def gs_Akn (p q r : Int32) : Prop := (∃ n v, n < 16 ∧ v < 4 ∧ p = nI n ∧ q = nI v ∧ r = gs_kd (gs_kF ak av ac ek ev ex ey (4 * n + v))) ∨ (((∀ n, n < 16 → p ≠ nI n) ∨ (∀ v, v < 4 → q ≠ nI v)) ∧ r = -1)
def gs_Aws (r : Int32) : Prop := (gs_strt ek ex ey ∧ r = nI (gs_cF ek ex ey ev).1.length) ∨ (¬ gs_strt ek ex ey ∧ r = -1)
def gs_Awd (p r : Int32) : Prop := (gs_strt ek ex ey ∧ ∃ j, j < (gs_cF ek ex ey ev).1.length ∧ p = nI j ∧ r = nI (gs_at (gs_cF ek ex ey ev).1 ((gs_cF ek ex ey ev).1.length - 1 - j))) ∨ ((¬ gs_strt ek ex ey ∨ ∀ j, j < (gs_cF ek ex ey ev).1.length → p ≠ nI j) ∧ r = -1)
end
section
variable {f_stale f_seen f_seenCount f_isStraight f_meetings f_codeCount f_taskCount f_hasRun f_toldCount f_lastNode f_hasStopped : Int32} {f_inputLeft : Int64} {a_actKind a_actVariable a_actOperand a_endKind a_endVariable a_endX a_endY a_path a_pathSide a_leaving a_numberOf a_nodeAt a_successors a_predecessors a_before a_behind a_loop a_liveAt a_knownAt a_code a_task a_variable a_latestTold : Nat → Int32} {ek ex ey ak av ac ev : Nat → Nat}
theorem gx_edgeOf {post : Int32 → Prop} {n : Nat} (hn : n < 16) (hb : ∀ n, n < 16 → gs_Mk (a_before n) (fun d => gs_bf ek ex ey d n)) (LK : gx_LK ek ex ey a_successors a_predecessors) (h : ∀ r, gs_Mk r (gs_edge ek ex ey n) → post r) : wpX_edgeOf post (f_stale, f_seen, f_seenCount, f_isStraight, f_meetings, f_codeCount, f_taskCount, f_hasRun, f_inputLeft, f_toldCount, f_lastNode, f_hasStopped, a_actKind, a_actVariable, a_actOperand, a_endKind, a_endVariable, a_endX, a_endY, a_path, a_pathSide, a_leaving, a_numberOf, a_nodeAt, a_successors, a_predecessors, a_before, a_behind, a_loop, a_liveAt, a_knownAt, a_code, a_task, a_variable, a_latestTold) (nI n) :=
  gx_border_before hn hb LK.2 (fun r hr => h r (gs_Mk_iff hr (fun i _ => and_congr Iff.rfl ⟨fun ⟨p, h1, h2, h3⟩ => ⟨p, h1, h2.1, h2.2, h3⟩, fun ⟨p, h1, h2, h3, h4⟩ => ⟨p, h1, ⟨h2, h3⟩, h4⟩⟩)))
theorem gx_rulers {post : Int32 → Prop} {n : Nat} (hn : n < 16) (hb : ∀ n, n < 16 → gs_Mk (a_behind n) (fun d => gs_bh ek ex ey d n)) (LK : gx_LK ek ex ey a_successors a_predecessors) (h : ∀ r, gs_Mk r (gs_rul ek ex ey n) → post r) : wpX_border__behind_successors post (f_stale, f_seen, f_seenCount, f_isStraight, f_meetings, f_codeCount, f_taskCount, f_hasRun, f_inputLeft, f_toldCount, f_lastNode, f_hasStopped, a_actKind, a_actVariable, a_actOperand, a_endKind, a_endVariable, a_endX, a_endY, a_path, a_pathSide, a_leaving, a_numberOf, a_nodeAt, a_successors, a_predecessors, a_before, a_behind, a_loop, a_liveAt, a_knownAt, a_code, a_task, a_variable, a_latestTold) (nI n) :=
  gx_border_behind hn hb LK.1 (fun r hr => h r (gs_Mk_iff hr (fun i _ => and_congr Iff.rfl ⟨fun ⟨p, h1, h2, h3⟩ => ⟨p, h1, h2.1, h2.2, h3⟩, fun ⟨p, h1, h2, h3, h4⟩ => ⟨p, h1, ⟨h2, h3⟩, h4⟩⟩)))
theorem gx_number_1 {post : Int32 → SX → Prop} {n : Nat} {u : SX} (hx : ∀ n, ex n < 16) (hy : ∀ n, ey n < 16) (V : gx_VX ak av ac ek ev ex ey f_seen f_seenCount f_isStraight f_meetings f_codeCount a_numberOf a_nodeAt a_successors a_predecessors a_before a_behind a_loop a_liveAt a_knownAt a_code) (n16 : n < 16) (hn : gs_sn ek ex ey n = true) (done : ∀ r, r = nI (gs_nu ek ex ey n) → post r u) : vp_in (nI n) 16 ∧ post (a_numberOf (nI n).toNatClampNeg) u :=
  ⟨gx_in n16, done _ (by rw [gx_cl n16]; exact V.2.1.2.2.1 n hn)⟩
theorem gx_live_1 {post : Int32 → SX → Prop} {n : Nat} {u : SX} (hx : ∀ n, ex n < 16) (hy : ∀ n, ey n < 16) (V : gx_VX ak av ac ek ev ex ey f_seen f_seenCount f_isStraight f_meetings f_codeCount a_numberOf a_nodeAt a_successors a_predecessors a_before a_behind a_loop a_liveAt a_knownAt a_code) (n16 : n < 16) (hn : gs_sn ek ex ey n = true) (done : ∀ r, gs_Mk r (fun v => gs_liv ak av ac ek ev ex ey v n) → post r u) : vp_in (nI n) 16 ∧ post (a_liveAt (nI n).toNatClampNeg) u :=
  ⟨gx_in n16, done _ (by rw [gx_cl n16]; exact V.2.2.2.2.2.1 n hn)⟩
theorem gx_chief_1 {post : Int32 → SX → Prop} {n : Nat} {u : SX} (hx : ∀ n, ex n < 16) (hy : ∀ n, ey n < 16) (V : gx_VX ak av ac ek ev ex ey f_seen f_seenCount f_isStraight f_meetings f_codeCount a_numberOf a_nodeAt a_successors a_predecessors a_before a_behind a_loop a_liveAt a_knownAt a_code) (n16 : n < 16) (hn : gs_sn ek ex ey n = true) (done : ∀ r, gs_Fst r (gs_near (gs_bf ek ex ey) n) → post r u) : wpX_nearest__before (fun r => post r u) (f_stale, f_seen, f_seenCount, f_isStraight, f_meetings, f_codeCount, f_taskCount, f_hasRun, f_inputLeft, f_toldCount, f_lastNode, f_hasStopped, a_actKind, a_actVariable, a_actOperand, a_endKind, a_endVariable, a_endX, a_endY, a_path, a_pathSide, a_leaving, a_numberOf, a_nodeAt, a_successors, a_predecessors, a_before, a_behind, a_loop, a_liveAt, a_knownAt, a_code, a_task, a_variable, a_latestTold) (nI n) :=
  gx_near_before n16 V.2.1.2.2.2.2.1 done
theorem gx_tail_1 {post : Int32 → SX → Prop} {n : Nat} {u : SX} (hx : ∀ n, ex n < 16) (hy : ∀ n, ey n < 16) (V : gx_VX ak av ac ek ev ex ey f_seen f_seenCount f_isStraight f_meetings f_codeCount a_numberOf a_nodeAt a_successors a_predecessors a_before a_behind a_loop a_liveAt a_knownAt a_code) (n16 : n < 16) (hn : gs_sn ek ex ey n = true) (done : ∀ r, gs_Fst r (gs_near (gs_bh ek ex ey) n) → post r u) : wpX_nearest__behind (fun r => post r u) (f_stale, f_seen, f_seenCount, f_isStraight, f_meetings, f_codeCount, f_taskCount, f_hasRun, f_inputLeft, f_toldCount, f_lastNode, f_hasStopped, a_actKind, a_actVariable, a_actOperand, a_endKind, a_endVariable, a_endX, a_endY, a_path, a_pathSide, a_leaving, a_numberOf, a_nodeAt, a_successors, a_predecessors, a_before, a_behind, a_loop, a_liveAt, a_knownAt, a_code, a_task, a_variable, a_latestTold) (nI n) :=
  gx_near_behind n16 V.2.2.2.1 done
theorem gx_depth_1 {post : Int32 → SX → Prop} {n : Nat} (hx : ∀ n, ex n < 16) (hy : ∀ n, ey n < 16) (V : gx_VX ak av ac ek ev ex ey f_seen f_seenCount f_isStraight f_meetings f_codeCount a_numberOf a_nodeAt a_successors a_predecessors a_before a_behind a_loop a_liveAt a_knownAt a_code) (n16 : n < 16) (hn : gs_sn ek ex ey n = true) (done : ∀ r, r = nI (gs_cnt (fun h => gs_lp ek ex ey h n) 16) → post r (f_stale, f_seen, f_seenCount, f_isStraight, f_meetings, f_codeCount, f_taskCount, f_hasRun, f_inputLeft, f_toldCount, f_lastNode, f_hasStopped, a_actKind, a_actVariable, a_actOperand, a_endKind, a_endVariable, a_endX, a_endY, a_path, a_pathSide, a_leaving, a_numberOf, a_nodeAt, a_successors, a_predecessors, a_before, a_behind, a_loop, a_liveAt, a_knownAt, a_code, a_task, a_variable, a_latestTold)) : ∃ m, wX_depth_18 post (nI n) f_stale f_seen f_seenCount f_isStraight f_meetings f_codeCount f_taskCount f_hasRun f_inputLeft f_toldCount f_lastNode f_hasStopped a_actKind a_actVariable a_actOperand a_endKind a_endVariable a_endX a_endY a_path a_pathSide a_leaving a_numberOf a_nodeAt a_successors a_predecessors a_before a_behind a_loop a_liveAt a_knownAt a_code a_task a_variable a_latestTold m 0 0 := by
  refine pk_loop (fun m i s => wX_depth_18 post (nI n) f_stale f_seen f_seenCount f_isStraight f_meetings f_codeCount f_taskCount f_hasRun f_inputLeft f_toldCount f_lastNode f_hasStopped a_actKind a_actVariable a_actOperand a_endKind a_endVariable a_endX a_endY a_path a_pathSide a_leaving a_numberOf a_nodeAt a_successors a_predecessors a_before a_behind a_loop a_liveAt a_knownAt a_code a_task a_variable a_latestTold m s (nI i)) (fun i s => s = nI (gs_cnt (fun h => gs_lp ek ex ey h n) i)) 16 0 0 (by omega) rfl ?_ ?_
  · rintro m s hs
    exact br_t gx_x16 (done s hs)
  · rintro m i s hi rfl ih
    refine br_f (gx_16 hi) ⟨gx_in hi, gx_hma V.2.1.2.2.2.2.2 hi n16 (fun q => nm_r (nI_1 _) (nm_r (nI_1 i) (ih _ ?_))) (fun q => nm_r (nI_1 i) (ih _ ?_))⟩
    · rw [gs_cnt_t (P := fun h => gs_lp ek ex ey h n) q]
    · rw [gs_cnt_f (P := fun h => gs_lp ek ex ey h n) q]
theorem gx_sizeOf {post : Int32 → Prop} {a : Int32} {P : Nat → Prop} (hM : gs_Mk a P) (h : post (nI (gs_cnt P 16))) : wpX_sizeOf post a := by
  refine pk_loop (fun m i s => wX_sizeOf_4 post a m s (nI i)) (fun i s => s = nI (gs_cnt P i)) 16 0 0 (by omega) rfl ?_ ?_
  · rintro m s rfl
    exact br_t gx_x16 h
  · rintro m i s hi rfl ih
    refine br_f (gx_16 hi) (gx_hm hM hi (fun q => nm_r (nI_1 _) (nm_r (nI_1 i) (ih _ ?_))) (fun q => nm_r (nI_1 i) (ih _ ?_)))
    · rw [gs_cnt_t q]
    · rw [gs_cnt_f q]
theorem gs_hf_le (n : Nat) : ∀ h, (gs_hf ek ex ey n h).2 ≤ 17
  | 0 => Nat.le_refl 17
  | h + 1 => by
    have ih := gs_hf_le n h
    have c := gs_cnt_le (gs_lp ek ex ey h) 16
    unfold gs_hf
    split
    · show gs_cnt (gs_lp ek ex ey h) 16 ≤ 17
      omega
    · exact ih
theorem gx_head_1 {post : Int32 → SX → Prop} {n : Nat} (hx : ∀ n, ex n < 16) (hy : ∀ n, ey n < 16) (V : gx_VX ak av ac ek ev ex ey f_seen f_seenCount f_isStraight f_meetings f_codeCount a_numberOf a_nodeAt a_successors a_predecessors a_before a_behind a_loop a_liveAt a_knownAt a_code) (n16 : n < 16) (hn : gs_sn ek ex ey n = true) (done : ∀ r, r = (gs_hf ek ex ey n 16).1 → post r (f_stale, f_seen, f_seenCount, f_isStraight, f_meetings, f_codeCount, f_taskCount, f_hasRun, f_inputLeft, f_toldCount, f_lastNode, f_hasStopped, a_actKind, a_actVariable, a_actOperand, a_endKind, a_endVariable, a_endX, a_endY, a_path, a_pathSide, a_leaving, a_numberOf, a_nodeAt, a_successors, a_predecessors, a_before, a_behind, a_loop, a_liveAt, a_knownAt, a_code, a_task, a_variable, a_latestTold)) : ∃ m, wX_head_22 post (nI n) f_stale f_seen f_seenCount f_isStraight f_meetings f_codeCount f_taskCount f_hasRun f_inputLeft f_toldCount f_lastNode f_hasStopped a_actKind a_actVariable a_actOperand a_endKind a_endVariable a_endX a_endY a_path a_pathSide a_leaving a_numberOf a_nodeAt a_successors a_predecessors a_before a_behind a_loop a_liveAt a_knownAt a_code a_task a_variable a_latestTold m (-1) 17 0 := by
  refine pk_loop (fun m i (s : Int32 × Int32) => wX_head_22 post (nI n) f_stale f_seen f_seenCount f_isStraight f_meetings f_codeCount f_taskCount f_hasRun f_inputLeft f_toldCount f_lastNode f_hasStopped a_actKind a_actVariable a_actOperand a_endKind a_endVariable a_endX a_endY a_path a_pathSide a_leaving a_numberOf a_nodeAt a_successors a_predecessors a_before a_behind a_loop a_liveAt a_knownAt a_code a_task a_variable a_latestTold m s.1 s.2 (nI i)) (fun i s => s.1 = (gs_hf ek ex ey n i).1 ∧ s.2 = nI (gs_hf ek ex ey n i).2) 16 0 (-1, 17) (by omega) ⟨rfl, rfl⟩ ?_ ?_
  · rintro m s hs
    exact br_t gx_x16 (done _ hs.1)
  · rintro m i ⟨s1, s2⟩ hi ⟨h1, h2⟩ ih
    dsimp only at h1 h2
    subst h1 h2
    have c := gs_cnt_le (gs_lp ek ex ey i) 16
    have l := gs_hf_le (ek := ek) (ex := ex) (ey := ey) n i
    refine br_f (gx_16 hi) ⟨gx_in hi, gx_sizeOf (P := gs_lp ek ex ey i) (by rw [gx_cl hi]; exact V.2.1.2.2.2.2.2 i hi) ⟨gx_in hi, gx_hma V.2.1.2.2.2.2.2 hi n16 (fun q => pk_le (gs_hf ek ex ey n i).2 (gs_cnt (gs_lp ek ex ey i) 16) (fun w => nm_r (nI_1 i) (ih _ ?_)) (fun w => nm_r (nI_1 i) (ih (nI i, nI (gs_cnt (gs_lp ek ex ey i) 16)) ?_))) (fun q => nm_r (nI_1 i) (ih _ ?_))⟩⟩
    · have e : gs_hf ek ex ey n (i + 1) = gs_hf ek ex ey n i := if_neg (fun z => by have := (gs_B_t.mp z).2; omega)
      rw [e]
      exact ⟨rfl, rfl⟩
    · have e : gs_hf ek ex ey n (i + 1) = (nI i, gs_cnt (gs_lp ek ex ey i) 16) := if_pos (gs_B_t.mpr ⟨q, w⟩)
      rw [e]
      exact ⟨rfl, rfl⟩
    · have e : gs_hf ek ex ey n (i + 1) = gs_hf ek ex ey n i := if_neg (fun z => q (gs_B_t.mp z).1)
      rw [e]
      exact ⟨rfl, rfl⟩
theorem gx_m_number {post : Int32 → SX → Prop} {p : Int32} (R : gx_RX ak av ac ek ev ex ey (f_stale, f_seen, f_seenCount, f_isStraight, f_meetings, f_codeCount, f_taskCount, f_hasRun, f_inputLeft, f_toldCount, f_lastNode, f_hasStopped, a_actKind, a_actVariable, a_actOperand, a_endKind, a_endVariable, a_endX, a_endY, a_path, a_pathSide, a_leaving, a_numberOf, a_nodeAt, a_successors, a_predecessors, a_before, a_behind, a_loop, a_liveAt, a_knownAt, a_code, a_task, a_variable, a_latestTold)) (h : ∀ r u, gs_Q ek ex ey (fun n r => r = nI (gs_nu ek ex ey n)) p r → gx_RX ak av ac ek ev ex ey u → gx_run u = gx_run (f_stale, f_seen, f_seenCount, f_isStraight, f_meetings, f_codeCount, f_taskCount, f_hasRun, f_inputLeft, f_toldCount, f_lastNode, f_hasStopped, a_actKind, a_actVariable, a_actOperand, a_endKind, a_endVariable, a_endX, a_endY, a_path, a_pathSide, a_leaving, a_numberOf, a_nodeAt, a_successors, a_predecessors, a_before, a_behind, a_loop, a_liveAt, a_knownAt, a_code, a_task, a_variable, a_latestTold) → post r u) : wpX_number post (f_stale, f_seen, f_seenCount, f_isStraight, f_meetings, f_codeCount, f_taskCount, f_hasRun, f_inputLeft, f_toldCount, f_lastNode, f_hasStopped, a_actKind, a_actVariable, a_actOperand, a_endKind, a_endVariable, a_endX, a_endY, a_path, a_pathSide, a_leaving, a_numberOf, a_nodeAt, a_successors, a_predecessors, a_before, a_behind, a_loop, a_liveAt, a_knownAt, a_code, a_task, a_variable, a_latestTold) p := by
  have R' := R
  obtain ⟨GE, GA, _⟩ := R
  have hx := GE.2.1
  have hy := GE.2.2.1
  unfold wpX_number
  refine gx_study R' (fun f_seen f_seenCount f_isStraight f_meetings f_codeCount f_taskCount a_path a_pathSide a_leaving a_numberOf a_nodeAt a_successors a_predecessors a_before a_behind a_loop a_liveAt a_knownAt a_code a_task V => ?_)
  have RN := gx_RX0 R' V (f_taskCount := f_taskCount) (f_hasRun := f_hasRun) (f_toldCount := f_toldCount) (f_lastNode := f_lastNode) (f_hasStopped := f_hasStopped) (f_inputLeft := f_inputLeft) (a_path := a_path) (a_pathSide := a_pathSide) (a_leaving := a_leaving) (a_task := a_task) (a_variable := a_variable) (a_latestTold := a_latestTold)
  refine gx_isSeen hx hy V.1 (fun n hn e => ?_) (fun q => h _ _ (Or.inr ⟨q, rfl⟩) RN rfl)
  subst e
  have n16 := gs_sn_lt hx hy hn
  have done : ∀ r, (fun n r => r = nI (gs_nu ek ex ey n)) n r → post r (0, f_seen, f_seenCount, f_isStraight, f_meetings, f_codeCount, f_taskCount, f_hasRun, f_inputLeft, f_toldCount, f_lastNode, f_hasStopped, a_actKind, a_actVariable, a_actOperand, a_endKind, a_endVariable, a_endX, a_endY, a_path, a_pathSide, a_leaving, a_numberOf, a_nodeAt, a_successors, a_predecessors, a_before, a_behind, a_loop, a_liveAt, a_knownAt, a_code, a_task, a_variable, a_latestTold) := fun r hr => h r _ (Or.inl ⟨n, hn, rfl, hr⟩) RN rfl
  exact gx_number_1 hx hy V n16 hn done
theorem gx_m_chief {post : Int32 → SX → Prop} {p : Int32} (R : gx_RX ak av ac ek ev ex ey (f_stale, f_seen, f_seenCount, f_isStraight, f_meetings, f_codeCount, f_taskCount, f_hasRun, f_inputLeft, f_toldCount, f_lastNode, f_hasStopped, a_actKind, a_actVariable, a_actOperand, a_endKind, a_endVariable, a_endX, a_endY, a_path, a_pathSide, a_leaving, a_numberOf, a_nodeAt, a_successors, a_predecessors, a_before, a_behind, a_loop, a_liveAt, a_knownAt, a_code, a_task, a_variable, a_latestTold)) (h : ∀ r u, gs_Q ek ex ey (fun n r => gs_Fst r (gs_near (gs_bf ek ex ey) n)) p r → gx_RX ak av ac ek ev ex ey u → gx_run u = gx_run (f_stale, f_seen, f_seenCount, f_isStraight, f_meetings, f_codeCount, f_taskCount, f_hasRun, f_inputLeft, f_toldCount, f_lastNode, f_hasStopped, a_actKind, a_actVariable, a_actOperand, a_endKind, a_endVariable, a_endX, a_endY, a_path, a_pathSide, a_leaving, a_numberOf, a_nodeAt, a_successors, a_predecessors, a_before, a_behind, a_loop, a_liveAt, a_knownAt, a_code, a_task, a_variable, a_latestTold) → post r u) : wpX_chief post (f_stale, f_seen, f_seenCount, f_isStraight, f_meetings, f_codeCount, f_taskCount, f_hasRun, f_inputLeft, f_toldCount, f_lastNode, f_hasStopped, a_actKind, a_actVariable, a_actOperand, a_endKind, a_endVariable, a_endX, a_endY, a_path, a_pathSide, a_leaving, a_numberOf, a_nodeAt, a_successors, a_predecessors, a_before, a_behind, a_loop, a_liveAt, a_knownAt, a_code, a_task, a_variable, a_latestTold) p := by
  have R' := R
  obtain ⟨GE, GA, _⟩ := R
  have hx := GE.2.1
  have hy := GE.2.2.1
  unfold wpX_chief
  refine gx_study R' (fun f_seen f_seenCount f_isStraight f_meetings f_codeCount f_taskCount a_path a_pathSide a_leaving a_numberOf a_nodeAt a_successors a_predecessors a_before a_behind a_loop a_liveAt a_knownAt a_code a_task V => ?_)
  have RN := gx_RX0 R' V (f_taskCount := f_taskCount) (f_hasRun := f_hasRun) (f_toldCount := f_toldCount) (f_lastNode := f_lastNode) (f_hasStopped := f_hasStopped) (f_inputLeft := f_inputLeft) (a_path := a_path) (a_pathSide := a_pathSide) (a_leaving := a_leaving) (a_task := a_task) (a_variable := a_variable) (a_latestTold := a_latestTold)
  refine gx_isSeen hx hy V.1 (fun n hn e => ?_) (fun q => h _ _ (Or.inr ⟨q, rfl⟩) RN rfl)
  subst e
  have n16 := gs_sn_lt hx hy hn
  have done : ∀ r, (fun n r => gs_Fst r (gs_near (gs_bf ek ex ey) n)) n r → post r (0, f_seen, f_seenCount, f_isStraight, f_meetings, f_codeCount, f_taskCount, f_hasRun, f_inputLeft, f_toldCount, f_lastNode, f_hasStopped, a_actKind, a_actVariable, a_actOperand, a_endKind, a_endVariable, a_endX, a_endY, a_path, a_pathSide, a_leaving, a_numberOf, a_nodeAt, a_successors, a_predecessors, a_before, a_behind, a_loop, a_liveAt, a_knownAt, a_code, a_task, a_variable, a_latestTold) := fun r hr => h r _ (Or.inl ⟨n, hn, rfl, hr⟩) RN rfl
  exact gx_chief_1 hx hy V n16 hn done
theorem gx_m_tail {post : Int32 → SX → Prop} {p : Int32} (R : gx_RX ak av ac ek ev ex ey (f_stale, f_seen, f_seenCount, f_isStraight, f_meetings, f_codeCount, f_taskCount, f_hasRun, f_inputLeft, f_toldCount, f_lastNode, f_hasStopped, a_actKind, a_actVariable, a_actOperand, a_endKind, a_endVariable, a_endX, a_endY, a_path, a_pathSide, a_leaving, a_numberOf, a_nodeAt, a_successors, a_predecessors, a_before, a_behind, a_loop, a_liveAt, a_knownAt, a_code, a_task, a_variable, a_latestTold)) (h : ∀ r u, gs_Q ek ex ey (fun n r => gs_Fst r (gs_near (gs_bh ek ex ey) n)) p r → gx_RX ak av ac ek ev ex ey u → gx_run u = gx_run (f_stale, f_seen, f_seenCount, f_isStraight, f_meetings, f_codeCount, f_taskCount, f_hasRun, f_inputLeft, f_toldCount, f_lastNode, f_hasStopped, a_actKind, a_actVariable, a_actOperand, a_endKind, a_endVariable, a_endX, a_endY, a_path, a_pathSide, a_leaving, a_numberOf, a_nodeAt, a_successors, a_predecessors, a_before, a_behind, a_loop, a_liveAt, a_knownAt, a_code, a_task, a_variable, a_latestTold) → post r u) : wpX_tail post (f_stale, f_seen, f_seenCount, f_isStraight, f_meetings, f_codeCount, f_taskCount, f_hasRun, f_inputLeft, f_toldCount, f_lastNode, f_hasStopped, a_actKind, a_actVariable, a_actOperand, a_endKind, a_endVariable, a_endX, a_endY, a_path, a_pathSide, a_leaving, a_numberOf, a_nodeAt, a_successors, a_predecessors, a_before, a_behind, a_loop, a_liveAt, a_knownAt, a_code, a_task, a_variable, a_latestTold) p := by
  have R' := R
  obtain ⟨GE, GA, _⟩ := R
  have hx := GE.2.1
  have hy := GE.2.2.1
  unfold wpX_tail
  refine gx_study R' (fun f_seen f_seenCount f_isStraight f_meetings f_codeCount f_taskCount a_path a_pathSide a_leaving a_numberOf a_nodeAt a_successors a_predecessors a_before a_behind a_loop a_liveAt a_knownAt a_code a_task V => ?_)
  have RN := gx_RX0 R' V (f_taskCount := f_taskCount) (f_hasRun := f_hasRun) (f_toldCount := f_toldCount) (f_lastNode := f_lastNode) (f_hasStopped := f_hasStopped) (f_inputLeft := f_inputLeft) (a_path := a_path) (a_pathSide := a_pathSide) (a_leaving := a_leaving) (a_task := a_task) (a_variable := a_variable) (a_latestTold := a_latestTold)
  refine gx_isSeen hx hy V.1 (fun n hn e => ?_) (fun q => h _ _ (Or.inr ⟨q, rfl⟩) RN rfl)
  subst e
  have n16 := gs_sn_lt hx hy hn
  have done : ∀ r, (fun n r => gs_Fst r (gs_near (gs_bh ek ex ey) n)) n r → post r (0, f_seen, f_seenCount, f_isStraight, f_meetings, f_codeCount, f_taskCount, f_hasRun, f_inputLeft, f_toldCount, f_lastNode, f_hasStopped, a_actKind, a_actVariable, a_actOperand, a_endKind, a_endVariable, a_endX, a_endY, a_path, a_pathSide, a_leaving, a_numberOf, a_nodeAt, a_successors, a_predecessors, a_before, a_behind, a_loop, a_liveAt, a_knownAt, a_code, a_task, a_variable, a_latestTold) := fun r hr => h r _ (Or.inl ⟨n, hn, rfl, hr⟩) RN rfl
  exact gx_tail_1 hx hy V n16 hn done
theorem gx_m_live {post : Int32 → SX → Prop} {p : Int32} (R : gx_RX ak av ac ek ev ex ey (f_stale, f_seen, f_seenCount, f_isStraight, f_meetings, f_codeCount, f_taskCount, f_hasRun, f_inputLeft, f_toldCount, f_lastNode, f_hasStopped, a_actKind, a_actVariable, a_actOperand, a_endKind, a_endVariable, a_endX, a_endY, a_path, a_pathSide, a_leaving, a_numberOf, a_nodeAt, a_successors, a_predecessors, a_before, a_behind, a_loop, a_liveAt, a_knownAt, a_code, a_task, a_variable, a_latestTold)) (h : ∀ r u, gs_Q ek ex ey (fun n r => gs_Mk r (fun v => gs_liv ak av ac ek ev ex ey v n)) p r → gx_RX ak av ac ek ev ex ey u → gx_run u = gx_run (f_stale, f_seen, f_seenCount, f_isStraight, f_meetings, f_codeCount, f_taskCount, f_hasRun, f_inputLeft, f_toldCount, f_lastNode, f_hasStopped, a_actKind, a_actVariable, a_actOperand, a_endKind, a_endVariable, a_endX, a_endY, a_path, a_pathSide, a_leaving, a_numberOf, a_nodeAt, a_successors, a_predecessors, a_before, a_behind, a_loop, a_liveAt, a_knownAt, a_code, a_task, a_variable, a_latestTold) → post r u) : wpX_live post (f_stale, f_seen, f_seenCount, f_isStraight, f_meetings, f_codeCount, f_taskCount, f_hasRun, f_inputLeft, f_toldCount, f_lastNode, f_hasStopped, a_actKind, a_actVariable, a_actOperand, a_endKind, a_endVariable, a_endX, a_endY, a_path, a_pathSide, a_leaving, a_numberOf, a_nodeAt, a_successors, a_predecessors, a_before, a_behind, a_loop, a_liveAt, a_knownAt, a_code, a_task, a_variable, a_latestTold) p := by
  have R' := R
  obtain ⟨GE, GA, _⟩ := R
  have hx := GE.2.1
  have hy := GE.2.2.1
  unfold wpX_live
  refine gx_study R' (fun f_seen f_seenCount f_isStraight f_meetings f_codeCount f_taskCount a_path a_pathSide a_leaving a_numberOf a_nodeAt a_successors a_predecessors a_before a_behind a_loop a_liveAt a_knownAt a_code a_task V => ?_)
  have RN := gx_RX0 R' V (f_taskCount := f_taskCount) (f_hasRun := f_hasRun) (f_toldCount := f_toldCount) (f_lastNode := f_lastNode) (f_hasStopped := f_hasStopped) (f_inputLeft := f_inputLeft) (a_path := a_path) (a_pathSide := a_pathSide) (a_leaving := a_leaving) (a_task := a_task) (a_variable := a_variable) (a_latestTold := a_latestTold)
  refine gx_isSeen hx hy V.1 (fun n hn e => ?_) (fun q => h _ _ (Or.inr ⟨q, rfl⟩) RN rfl)
  subst e
  have n16 := gs_sn_lt hx hy hn
  have done : ∀ r, (fun n r => gs_Mk r (fun v => gs_liv ak av ac ek ev ex ey v n)) n r → post r (0, f_seen, f_seenCount, f_isStraight, f_meetings, f_codeCount, f_taskCount, f_hasRun, f_inputLeft, f_toldCount, f_lastNode, f_hasStopped, a_actKind, a_actVariable, a_actOperand, a_endKind, a_endVariable, a_endX, a_endY, a_path, a_pathSide, a_leaving, a_numberOf, a_nodeAt, a_successors, a_predecessors, a_before, a_behind, a_loop, a_liveAt, a_knownAt, a_code, a_task, a_variable, a_latestTold) := fun r hr => h r _ (Or.inl ⟨n, hn, rfl, hr⟩) RN rfl
  exact gx_live_1 hx hy V n16 hn done
theorem gx_m_depth {post : Int32 → SX → Prop} {p : Int32} (R : gx_RX ak av ac ek ev ex ey (f_stale, f_seen, f_seenCount, f_isStraight, f_meetings, f_codeCount, f_taskCount, f_hasRun, f_inputLeft, f_toldCount, f_lastNode, f_hasStopped, a_actKind, a_actVariable, a_actOperand, a_endKind, a_endVariable, a_endX, a_endY, a_path, a_pathSide, a_leaving, a_numberOf, a_nodeAt, a_successors, a_predecessors, a_before, a_behind, a_loop, a_liveAt, a_knownAt, a_code, a_task, a_variable, a_latestTold)) (h : ∀ r u, gs_Q ek ex ey (fun n r => r = nI (gs_cnt (fun h => gs_lp ek ex ey h n) 16)) p r → gx_RX ak av ac ek ev ex ey u → gx_run u = gx_run (f_stale, f_seen, f_seenCount, f_isStraight, f_meetings, f_codeCount, f_taskCount, f_hasRun, f_inputLeft, f_toldCount, f_lastNode, f_hasStopped, a_actKind, a_actVariable, a_actOperand, a_endKind, a_endVariable, a_endX, a_endY, a_path, a_pathSide, a_leaving, a_numberOf, a_nodeAt, a_successors, a_predecessors, a_before, a_behind, a_loop, a_liveAt, a_knownAt, a_code, a_task, a_variable, a_latestTold) → post r u) : wpX_depth post (f_stale, f_seen, f_seenCount, f_isStraight, f_meetings, f_codeCount, f_taskCount, f_hasRun, f_inputLeft, f_toldCount, f_lastNode, f_hasStopped, a_actKind, a_actVariable, a_actOperand, a_endKind, a_endVariable, a_endX, a_endY, a_path, a_pathSide, a_leaving, a_numberOf, a_nodeAt, a_successors, a_predecessors, a_before, a_behind, a_loop, a_liveAt, a_knownAt, a_code, a_task, a_variable, a_latestTold) p := by
  have R' := R
  obtain ⟨GE, GA, _⟩ := R
  have hx := GE.2.1
  have hy := GE.2.2.1
  unfold wpX_depth
  refine gx_study R' (fun f_seen f_seenCount f_isStraight f_meetings f_codeCount f_taskCount a_path a_pathSide a_leaving a_numberOf a_nodeAt a_successors a_predecessors a_before a_behind a_loop a_liveAt a_knownAt a_code a_task V => ?_)
  have RN := gx_RX0 R' V (f_taskCount := f_taskCount) (f_hasRun := f_hasRun) (f_toldCount := f_toldCount) (f_lastNode := f_lastNode) (f_hasStopped := f_hasStopped) (f_inputLeft := f_inputLeft) (a_path := a_path) (a_pathSide := a_pathSide) (a_leaving := a_leaving) (a_task := a_task) (a_variable := a_variable) (a_latestTold := a_latestTold)
  refine gx_isSeen hx hy V.1 (fun n hn e => ?_) (fun q => h _ _ (Or.inr ⟨q, rfl⟩) RN rfl)
  subst e
  have n16 := gs_sn_lt hx hy hn
  have done : ∀ r, (fun n r => r = nI (gs_cnt (fun h => gs_lp ek ex ey h n) 16)) n r → post r (0, f_seen, f_seenCount, f_isStraight, f_meetings, f_codeCount, f_taskCount, f_hasRun, f_inputLeft, f_toldCount, f_lastNode, f_hasStopped, a_actKind, a_actVariable, a_actOperand, a_endKind, a_endVariable, a_endX, a_endY, a_path, a_pathSide, a_leaving, a_numberOf, a_nodeAt, a_successors, a_predecessors, a_before, a_behind, a_loop, a_liveAt, a_knownAt, a_code, a_task, a_variable, a_latestTold) := fun r hr => h r _ (Or.inl ⟨n, hn, rfl, hr⟩) RN rfl
  exact gx_depth_1 hx hy V n16 hn done
theorem gx_m_head {post : Int32 → SX → Prop} {p : Int32} (R : gx_RX ak av ac ek ev ex ey (f_stale, f_seen, f_seenCount, f_isStraight, f_meetings, f_codeCount, f_taskCount, f_hasRun, f_inputLeft, f_toldCount, f_lastNode, f_hasStopped, a_actKind, a_actVariable, a_actOperand, a_endKind, a_endVariable, a_endX, a_endY, a_path, a_pathSide, a_leaving, a_numberOf, a_nodeAt, a_successors, a_predecessors, a_before, a_behind, a_loop, a_liveAt, a_knownAt, a_code, a_task, a_variable, a_latestTold)) (h : ∀ r u, gs_Q ek ex ey (fun n r => r = (gs_hf ek ex ey n 16).1) p r → gx_RX ak av ac ek ev ex ey u → gx_run u = gx_run (f_stale, f_seen, f_seenCount, f_isStraight, f_meetings, f_codeCount, f_taskCount, f_hasRun, f_inputLeft, f_toldCount, f_lastNode, f_hasStopped, a_actKind, a_actVariable, a_actOperand, a_endKind, a_endVariable, a_endX, a_endY, a_path, a_pathSide, a_leaving, a_numberOf, a_nodeAt, a_successors, a_predecessors, a_before, a_behind, a_loop, a_liveAt, a_knownAt, a_code, a_task, a_variable, a_latestTold) → post r u) : wpX_head post (f_stale, f_seen, f_seenCount, f_isStraight, f_meetings, f_codeCount, f_taskCount, f_hasRun, f_inputLeft, f_toldCount, f_lastNode, f_hasStopped, a_actKind, a_actVariable, a_actOperand, a_endKind, a_endVariable, a_endX, a_endY, a_path, a_pathSide, a_leaving, a_numberOf, a_nodeAt, a_successors, a_predecessors, a_before, a_behind, a_loop, a_liveAt, a_knownAt, a_code, a_task, a_variable, a_latestTold) p := by
  have R' := R
  obtain ⟨GE, GA, _⟩ := R
  have hx := GE.2.1
  have hy := GE.2.2.1
  unfold wpX_head
  refine gx_study R' (fun f_seen f_seenCount f_isStraight f_meetings f_codeCount f_taskCount a_path a_pathSide a_leaving a_numberOf a_nodeAt a_successors a_predecessors a_before a_behind a_loop a_liveAt a_knownAt a_code a_task V => ?_)
  have RN := gx_RX0 R' V (f_taskCount := f_taskCount) (f_hasRun := f_hasRun) (f_toldCount := f_toldCount) (f_lastNode := f_lastNode) (f_hasStopped := f_hasStopped) (f_inputLeft := f_inputLeft) (a_path := a_path) (a_pathSide := a_pathSide) (a_leaving := a_leaving) (a_task := a_task) (a_variable := a_variable) (a_latestTold := a_latestTold)
  refine gx_isSeen hx hy V.1 (fun n hn e => ?_) (fun q => h _ _ (Or.inr ⟨q, rfl⟩) RN rfl)
  subst e
  have n16 := gs_sn_lt hx hy hn
  have done : ∀ r, (fun n r => r = (gs_hf ek ex ey n 16).1) n r → post r (0, f_seen, f_seenCount, f_isStraight, f_meetings, f_codeCount, f_taskCount, f_hasRun, f_inputLeft, f_toldCount, f_lastNode, f_hasStopped, a_actKind, a_actVariable, a_actOperand, a_endKind, a_endVariable, a_endX, a_endY, a_path, a_pathSide, a_leaving, a_numberOf, a_nodeAt, a_successors, a_predecessors, a_before, a_behind, a_loop, a_liveAt, a_knownAt, a_code, a_task, a_variable, a_latestTold) := fun r hr => h r _ (Or.inl ⟨n, hn, rfl, hr⟩) RN rfl
  exact gx_head_1 hx hy V n16 hn done
end
end
section
/-! X: set, straight, merges, known, words, word -/
section
variable {f_stale f_seen f_seenCount f_isStraight f_meetings f_codeCount f_taskCount f_hasRun f_toldCount f_lastNode f_hasStopped : Int32} {f_inputLeft : Int64} {a_actKind a_actVariable a_actOperand a_endKind a_endVariable a_endX a_endY a_path a_pathSide a_leaving a_numberOf a_nodeAt a_successors a_predecessors a_before a_behind a_loop a_liveAt a_knownAt a_code a_task a_variable a_latestTold : Nat → Int32} {ek ex ey ak av ac ev : Nat → Nat}
theorem gx_m_set {post : Int32 → SX → Prop} {p w : Int32} (R : gx_RX ak av ac ek ev ex ey (f_stale, f_seen, f_seenCount, f_isStraight, f_meetings, f_codeCount, f_taskCount, f_hasRun, f_inputLeft, f_toldCount, f_lastNode, f_hasStopped, a_actKind, a_actVariable, a_actOperand, a_endKind, a_endVariable, a_endX, a_endY, a_path, a_pathSide, a_leaving, a_numberOf, a_nodeAt, a_successors, a_predecessors, a_before, a_behind, a_loop, a_liveAt, a_knownAt, a_code, a_task, a_variable, a_latestTold)) (h : ∀ r u, gs_Q ek ex ey (gs_Qset ek ex ey w) p r → gx_RX ak av ac ek ev ex ey u → gx_run u = gx_run (f_stale, f_seen, f_seenCount, f_isStraight, f_meetings, f_codeCount, f_taskCount, f_hasRun, f_inputLeft, f_toldCount, f_lastNode, f_hasStopped, a_actKind, a_actVariable, a_actOperand, a_endKind, a_endVariable, a_endX, a_endY, a_path, a_pathSide, a_leaving, a_numberOf, a_nodeAt, a_successors, a_predecessors, a_before, a_behind, a_loop, a_liveAt, a_knownAt, a_code, a_task, a_variable, a_latestTold) → post r u) : wpX_set post (f_stale, f_seen, f_seenCount, f_isStraight, f_meetings, f_codeCount, f_taskCount, f_hasRun, f_inputLeft, f_toldCount, f_lastNode, f_hasStopped, a_actKind, a_actVariable, a_actOperand, a_endKind, a_endVariable, a_endX, a_endY, a_path, a_pathSide, a_leaving, a_numberOf, a_nodeAt, a_successors, a_predecessors, a_before, a_behind, a_loop, a_liveAt, a_knownAt, a_code, a_task, a_variable, a_latestTold) p w := by
  have R' := R
  obtain ⟨GE, GA, _⟩ := R
  have hx := GE.2.1
  have hy := GE.2.2.1
  unfold wpX_set
  refine gx_study R' (fun f_seen f_seenCount f_isStraight f_meetings f_codeCount f_taskCount a_path a_pathSide a_leaving a_numberOf a_nodeAt a_successors a_predecessors a_before a_behind a_loop a_liveAt a_knownAt a_code a_task V => ?_)
  have RN := gx_RX0 R' V (f_taskCount := f_taskCount) (f_hasRun := f_hasRun) (f_toldCount := f_toldCount) (f_lastNode := f_lastNode) (f_hasStopped := f_hasStopped) (f_inputLeft := f_inputLeft) (a_path := a_path) (a_pathSide := a_pathSide) (a_leaving := a_leaving) (a_task := a_task) (a_variable := a_variable) (a_latestTold := a_latestTold)
  refine gx_isSeen hx hy V.1 (fun n hn e => ?_) (fun q => h _ _ (Or.inr ⟨q, rfl⟩) RN rfl)
  subst e
  have n16 := gs_sn_lt hx hy hn
  have done : ∀ r, gs_Qset ek ex ey w n r → post r (0, f_seen, f_seenCount, f_isStraight, f_meetings, f_codeCount, f_taskCount, f_hasRun, f_inputLeft, f_toldCount, f_lastNode, f_hasStopped, a_actKind, a_actVariable, a_actOperand, a_endKind, a_endVariable, a_endX, a_endY, a_path, a_pathSide, a_leaving, a_numberOf, a_nodeAt, a_successors, a_predecessors, a_before, a_behind, a_loop, a_liveAt, a_knownAt, a_code, a_task, a_variable, a_latestTold) := fun r hr => h r _ (Or.inl ⟨n, hn, rfl, hr⟩) RN rfl
  refine br_c (fun z => ?_) (fun z => br_c (fun y => ?_) (fun y => ?_))
  · refine done _ (Or.inr (Or.inr (Or.inr ⟨⟨fun q => ?_, fun q => ?_, fun q => ?_⟩, rfl⟩)))
    · subst q; exact absurd z (by decide)
    · subst q; exact absurd z (by decide)
    · subst q; exact absurd z (by decide)
  · refine done _ (Or.inr (Or.inr (Or.inr ⟨⟨fun q => ?_, fun q => ?_, fun q => ?_⟩, rfl⟩)))
    · subst q; exact absurd y (by decide)
    · subst q; exact absurd y (by decide)
    · subst q; exact absurd y (by decide)
  · obtain ⟨j, hj, rfl⟩ := nI_of z
    have j2 : j ≤ 2 := by
      apply Classical.byContradiction
      intro q
      exact y (nI_lt (a := 2) (by omega) hj)
    refine br_c (fun q => ?_) (fun q => br_c (fun q1 => ?_) (fun q1 => br_c (fun q2 => ?_) (fun _ => trivial)))
    · exact gx_edgeOf n16 V.2.1.2.2.2.2.1 V.2.2.1 (fun r hr => done r (Or.inl ⟨q, hr⟩))
    · exact gx_rulers n16 V.2.2.2.1 V.2.2.1 (fun r hr => done r (Or.inr (Or.inl ⟨q1, hr⟩)))
    · exact ⟨gx_in n16, done _ (Or.inr (Or.inr (Or.inl ⟨q2, by rw [gx_cl n16]; exact V.2.1.2.2.2.2.2 n n16⟩)))⟩
theorem gx_m_straight {post : Int32 → SX → Prop} (R : gx_RX ak av ac ek ev ex ey (f_stale, f_seen, f_seenCount, f_isStraight, f_meetings, f_codeCount, f_taskCount, f_hasRun, f_inputLeft, f_toldCount, f_lastNode, f_hasStopped, a_actKind, a_actVariable, a_actOperand, a_endKind, a_endVariable, a_endX, a_endY, a_path, a_pathSide, a_leaving, a_numberOf, a_nodeAt, a_successors, a_predecessors, a_before, a_behind, a_loop, a_liveAt, a_knownAt, a_code, a_task, a_variable, a_latestTold)) (h : ∀ r u, (r = 1 ∧ gs_strt ek ex ey) ∨ (r = 0 ∧ ¬ gs_strt ek ex ey) → gx_RX ak av ac ek ev ex ey u → gx_run u = gx_run (f_stale, f_seen, f_seenCount, f_isStraight, f_meetings, f_codeCount, f_taskCount, f_hasRun, f_inputLeft, f_toldCount, f_lastNode, f_hasStopped, a_actKind, a_actVariable, a_actOperand, a_endKind, a_endVariable, a_endX, a_endY, a_path, a_pathSide, a_leaving, a_numberOf, a_nodeAt, a_successors, a_predecessors, a_before, a_behind, a_loop, a_liveAt, a_knownAt, a_code, a_task, a_variable, a_latestTold) → post r u) : wpX_straight post (f_stale, f_seen, f_seenCount, f_isStraight, f_meetings, f_codeCount, f_taskCount, f_hasRun, f_inputLeft, f_toldCount, f_lastNode, f_hasStopped, a_actKind, a_actVariable, a_actOperand, a_endKind, a_endVariable, a_endX, a_endY, a_path, a_pathSide, a_leaving, a_numberOf, a_nodeAt, a_successors, a_predecessors, a_before, a_behind, a_loop, a_liveAt, a_knownAt, a_code, a_task, a_variable, a_latestTold) := by
  have R' := R
  obtain ⟨GE, GA, _⟩ := R
  have hx := GE.2.1
  have hy := GE.2.2.1
  unfold wpX_straight
  refine gx_study R' (fun f_seen f_seenCount f_isStraight f_meetings f_codeCount f_taskCount a_path a_pathSide a_leaving a_numberOf a_nodeAt a_successors a_predecessors a_before a_behind a_loop a_liveAt a_knownAt a_code a_task V => ?_)
  have RN := gx_RX0 R' V (f_taskCount := f_taskCount) (f_hasRun := f_hasRun) (f_toldCount := f_toldCount) (f_lastNode := f_lastNode) (f_hasStopped := f_hasStopped) (f_inputLeft := f_inputLeft) (a_path := a_path) (a_pathSide := a_pathSide) (a_leaving := a_leaving) (a_task := a_task) (a_variable := a_variable) (a_latestTold := a_latestTold)
  refine ⟨?_, h _ _ V.2.2.2.2.1 RN rfl⟩
  rcases V.2.2.2.2.1 with z | z
  · rw [z.1]; rfl
  · rw [z.1]; rfl
theorem gx_changers {post : Int32 → Prop} {v : Nat} (hv : v < 4) (GA : gx_GA ak av ac ev a_actKind a_actVariable a_actOperand a_endVariable) (hM : gs_Mk f_seen (fun i => gs_sn ek ex ey i = true)) (h : ∀ r, gs_Mk r (gs_chg ak av ek ex ey v) → post r) : wpX_changersOf post (f_stale, f_seen, f_seenCount, f_isStraight, f_meetings, f_codeCount, f_taskCount, f_hasRun, f_inputLeft, f_toldCount, f_lastNode, f_hasStopped, a_actKind, a_actVariable, a_actOperand, a_endKind, a_endVariable, a_endX, a_endY, a_path, a_pathSide, a_leaving, a_numberOf, a_nodeAt, a_successors, a_predecessors, a_before, a_behind, a_loop, a_liveAt, a_knownAt, a_code, a_task, a_variable, a_latestTold) (nI v) := by
  have GA' := GA
  obtain ⟨g1, g2, g3, g4, g5, g6, g7, g8, g9⟩ := GA
  refine pk_loop (fun m i s => wX_changersOf_4 post (nI v) f_stale f_seen f_seenCount f_isStraight f_meetings f_codeCount f_taskCount f_hasRun f_inputLeft f_toldCount f_lastNode f_hasStopped a_actKind a_actVariable a_actOperand a_endKind a_endVariable a_endX a_endY a_path a_pathSide a_leaving a_numberOf a_nodeAt a_successors a_predecessors a_before a_behind a_loop a_liveAt a_knownAt a_code a_task a_variable a_latestTold m s (nI i)) (fun i s => gs_Mk s (fun j => j < i ∧ gs_chg ak av ek ex ey v j)) 16 0 0 (by omega) (gs_Mk_0 (fun i _ z => absurd z.1 (Nat.not_lt_zero i))) ?_ ?_
  · rintro m s hI
    exact br_t gx_x16 (h s (gs_Mk_iff hI (fun i hi => ⟨fun z => z.2, fun z => ⟨hi, z⟩⟩)))
  · rintro m i s hi hI ih
    have ka := g1 i
    have va := g2 i
    have keep : ¬ gs_chg ak av ek ex ey v i → wX_changersOf_4 post (nI v) f_stale f_seen f_seenCount f_isStraight f_meetings f_codeCount f_taskCount f_hasRun f_inputLeft f_toldCount f_lastNode f_hasStopped a_actKind a_actVariable a_actOperand a_endKind a_endVariable a_endX a_endY a_path a_pathSide a_leaving a_numberOf a_nodeAt a_successors a_predecessors a_before a_behind a_loop a_liveAt a_knownAt a_code a_task a_variable a_latestTold m s (nI (i + 1)) := fun q => ih s (gs_Mk_iff hI (fun j _ => by
      constructor
      · exact fun z => ⟨by omega, z.2⟩
      · rintro ⟨z1, z2⟩
        by_cases e : j = i
        · exact absurd (e ▸ z2) q
        · exact ⟨by omega, z2⟩))
    have eV : (a_actVariable (nI i).toNatClampNeg = nI v) ↔ av i = v := by
      rw [gx_cl hi, g7]
      exact nI_eq (by omega) (by omega)
    have yes : (ak i = 1 ∨ ak i = 2 ∨ ak i = 3 ∨ ak i = 5) → wX_changersOf_28 post (wX_changersOf_4 post (nI v) f_stale f_seen f_seenCount f_isStraight f_meetings f_codeCount f_taskCount f_hasRun f_inputLeft f_toldCount f_lastNode f_hasStopped a_actKind a_actVariable a_actOperand a_endKind a_endVariable a_endX a_endY a_path a_pathSide a_leaving a_numberOf a_nodeAt a_successors a_predecessors a_before a_behind a_loop a_liveAt a_knownAt a_code a_task a_variable a_latestTold m) (nI v) s (nI i) f_stale f_seen f_seenCount f_isStraight f_meetings f_codeCount f_taskCount f_hasRun f_inputLeft f_toldCount f_lastNode f_hasStopped a_actKind a_actVariable a_actOperand a_endKind a_endVariable a_endX a_endY a_path a_pathSide a_leaving a_numberOf a_nodeAt a_successors a_predecessors a_before a_behind a_loop a_liveAt a_knownAt a_code a_task a_variable a_latestTold := by
      intro q
      refine gx_hm hM hi (fun w => br_f (by decide) ⟨gx_in hi, br_c (fun y => ?_) (fun y => ?_)⟩) (fun w => ?_)
      · refine nm_e (nm_r (nI_1 i) (ih _ (gs_Mk_iff (gs_Mk_set hI hi) (fun j _ => ?_))))
        constructor
        · rintro (z | rfl)
          · exact ⟨by omega, z.2⟩
          · exact ⟨by omega, w, q, eV.mp y⟩
        · rintro ⟨z1, z2⟩
          by_cases e : j = i
          · exact Or.inr e
          · exact Or.inl ⟨by omega, z2⟩
      · exact nm_r (nI_1 i) (keep (fun z => y (eV.mpr z.2.2)))
      · exact nm_r (nI_1 i) (keep (fun z => w z.1))
    have no : ¬ (ak i = 1 ∨ ak i = 2 ∨ ak i = 3 ∨ ak i = 5) → wX_changersOf_33 post (wX_changersOf_4 post (nI v) f_stale f_seen f_seenCount f_isStraight f_meetings f_codeCount f_taskCount f_hasRun f_inputLeft f_toldCount f_lastNode f_hasStopped a_actKind a_actVariable a_actOperand a_endKind a_endVariable a_endX a_endY a_path a_pathSide a_leaving a_numberOf a_nodeAt a_successors a_predecessors a_before a_behind a_loop a_liveAt a_knownAt a_code a_task a_variable a_latestTold m) (nI v) s (nI i) 0 f_stale f_seen f_seenCount f_isStraight f_meetings f_codeCount f_taskCount f_hasRun f_inputLeft f_toldCount f_lastNode f_hasStopped a_actKind a_actVariable a_actOperand a_endKind a_endVariable a_endX a_endY a_path a_pathSide a_leaving a_numberOf a_nodeAt a_successors a_predecessors a_before a_behind a_loop a_liveAt a_knownAt a_code a_task a_variable a_latestTold := by
      intro q
      refine gx_hm hM hi (fun w => br_t rfl ?_) (fun w => ?_)
      · exact nm_r (nI_1 i) (keep (fun z => q z.2.1))
      · exact nm_r (nI_1 i) (keep (fun z => w z.1))
    have e2 : (a_actKind (nI i).toNatClampNeg = 2) ↔ ak i = 2 := by
      rw [gx_cl hi, g6]
      exact nI_eq (b := 2) (by omega) (by decide)
    refine br_f (gx_16 hi) ⟨gx_in hi, br_c (fun z => yes (Or.inr (Or.inl (e2.mp z)))) (fun z => gx_repl GA' hi (br_c (fun y => no ?_) (fun y => yes ?_)))⟩
    · rintro (w | w | w | w)
      · exact (gs_Mk_z (gs_rpm_Mk (ak := ak) g2 i)).mp y (av i) (by omega) ⟨Or.inl w, rfl⟩
      · exact z (e2.mpr w)
      · exact (gs_Mk_z (gs_rpm_Mk (ak := ak) g2 i)).mp y (av i) (by omega) ⟨Or.inr (Or.inl w), rfl⟩
      · exact (gs_Mk_z (gs_rpm_Mk (ak := ak) g2 i)).mp y (av i) (by omega) ⟨Or.inr (Or.inr w), rfl⟩
    · apply Classical.byContradiction
      intro q
      apply y
      unfold gs_rpm
      exact if_neg (fun w => q (by omega))
theorem gs_mg_ok (hx : ∀ n, ex n < 16) (hy : ∀ n, ey n < 16) {so : Int32} {v : Nat} (hs : gs_Mk so (fun n => n = 0 ∨ gs_chg ak av ek ex ey v n)) : gs_Mk (gs_it (gs_sw so (fun n => gs_mkm (gs_edge ek ex ey n))) 17 0) (gs_mg ak av ek ex ey v) := by
  have he : ∀ n, gs_Mk (gs_mkm (gs_edge ek ex ey n)) (gs_edge ek ex ey n) := fun n => gs_mkm_ok _
  have e16 : ∀ n k, gs_edge ek ex ey n k → n < 16 ∧ k < 16 := fun n k ⟨_, p, _, _, q1, q2⟩ => ⟨gs_sn_lt hx hy (gs_bf_sn hx hy q2), gs_E_lt ek ex ey hx hy q1⟩
  have h := gs_sw_main (so := so) (e := fun n => gs_mkm (gs_edge ek ex ey n)) (r := 0) (K := 17) (fun n _ i hb => ((he n i).mp hb).1) (fun i hb => by rw [b_0] at hb; exact nomatch hb) (Or.inr (by omega))
  apply gs_Mk_iff h
  intro i _
  constructor
  · intro hc
    apply gs_cl_mono hc
    · rintro j (hj | ⟨n, h1, h2, h3⟩)
      · rw [b_0] at hj
        exact nomatch hj
      · exact gs_cl_b ⟨n, ((hs n).mp h2).2, ((he n j).mp h3).2⟩
    · rintro j k _ hj ⟨h1, h2⟩
      exact gs_cl_s hj ((he j k).mp h2).2
  · intro hc
    apply gs_cl_mono hc
    · rintro j ⟨n, h1, h2⟩
      have := e16 n j h2
      exact gs_cl_b (Or.inr ⟨n, this.1, (hs n).mpr ⟨this.1, h1⟩, (he n j).mpr ⟨this.2, h2⟩⟩)
    · rintro j k _ hj h2
      have := e16 j k h2
      exact gs_cl_s hj ⟨this.1, (he j k).mpr ⟨this.2, h2⟩⟩
theorem gx_m_merges {post : Int32 → SX → Prop} {p : Int32} (R : gx_RX ak av ac ek ev ex ey (f_stale, f_seen, f_seenCount, f_isStraight, f_meetings, f_codeCount, f_taskCount, f_hasRun, f_inputLeft, f_toldCount, f_lastNode, f_hasStopped, a_actKind, a_actVariable, a_actOperand, a_endKind, a_endVariable, a_endX, a_endY, a_path, a_pathSide, a_leaving, a_numberOf, a_nodeAt, a_successors, a_predecessors, a_before, a_behind, a_loop, a_liveAt, a_knownAt, a_code, a_task, a_variable, a_latestTold)) (h : ∀ r u, gs_Amg ak av ek ex ey p r → gx_RX ak av ac ek ev ex ey u → gx_run u = gx_run (f_stale, f_seen, f_seenCount, f_isStraight, f_meetings, f_codeCount, f_taskCount, f_hasRun, f_inputLeft, f_toldCount, f_lastNode, f_hasStopped, a_actKind, a_actVariable, a_actOperand, a_endKind, a_endVariable, a_endX, a_endY, a_path, a_pathSide, a_leaving, a_numberOf, a_nodeAt, a_successors, a_predecessors, a_before, a_behind, a_loop, a_liveAt, a_knownAt, a_code, a_task, a_variable, a_latestTold) → post r u) : wpX_merges post (f_stale, f_seen, f_seenCount, f_isStraight, f_meetings, f_codeCount, f_taskCount, f_hasRun, f_inputLeft, f_toldCount, f_lastNode, f_hasStopped, a_actKind, a_actVariable, a_actOperand, a_endKind, a_endVariable, a_endX, a_endY, a_path, a_pathSide, a_leaving, a_numberOf, a_nodeAt, a_successors, a_predecessors, a_before, a_behind, a_loop, a_liveAt, a_knownAt, a_code, a_task, a_variable, a_latestTold) p := by
  have R' := R
  obtain ⟨GE, GA, _⟩ := R
  have hx := GE.2.1
  have hy := GE.2.2.1
  unfold wpX_merges
  refine gx_isVar (fun v hv e => ?_) (fun q => h _ _ (Or.inr ⟨q, rfl⟩) R' rfl)
  subst e
  refine gx_study R' (fun f_seen f_seenCount f_isStraight f_meetings f_codeCount f_taskCount a_path a_pathSide a_leaving a_numberOf a_nodeAt a_successors a_predecessors a_before a_behind a_loop a_liveAt a_knownAt a_code a_task V => ?_)
  have RN := gx_RX0 R' V (f_taskCount := f_taskCount) (f_hasRun := f_hasRun) (f_toldCount := f_toldCount) (f_lastNode := f_lastNode) (f_hasStopped := f_hasStopped) (f_inputLeft := f_inputLeft) (a_path := a_path) (a_pathSide := a_pathSide) (a_leaving := a_leaving) (a_task := a_task) (a_variable := a_variable) (a_latestTold := a_latestTold)
  refine gx_changers hv GA V.1 (fun c hc => nm_e ?_)
  have hs := gs_Mk_or gx_one hc
  refine pk_loop (fun m i s => wX_merges_26 post (1 ||| c) 0 f_seen f_seenCount f_isStraight f_meetings f_codeCount f_taskCount f_hasRun f_inputLeft f_toldCount f_lastNode f_hasStopped a_actKind a_actVariable a_actOperand a_endKind a_endVariable a_endX a_endY a_path a_pathSide a_leaving a_numberOf a_nodeAt a_successors a_predecessors a_before a_behind a_loop a_liveAt a_knownAt a_code a_task a_variable a_latestTold m s (nI i)) (fun i s => s = gs_it (gs_sw (1 ||| c) (fun n => gs_mkm (gs_edge ek ex ey n))) i 0) 17 0 0 (by omega) rfl ?_ ?_
  · intro m s hI
    refine br_t (by decide) (h _ _ (Or.inl ⟨v, hv, rfl, ?_⟩) RN rfl)
    rw [hI]
    exact gs_mg_ok hx hy hs
  · rintro m i s hi hI ih
    refine br_f (nI_nlt (b := i) (a := 16) (by omega) (by decide)) ?_
    refine pk_loop (fun m' j s => wX_merges_36 post (wX_merges_26 post (1 ||| c) 0 f_seen f_seenCount f_isStraight f_meetings f_codeCount f_taskCount f_hasRun f_inputLeft f_toldCount f_lastNode f_hasStopped a_actKind a_actVariable a_actOperand a_endKind a_endVariable a_endX a_endY a_path a_pathSide a_leaving a_numberOf a_nodeAt a_successors a_predecessors a_before a_behind a_loop a_liveAt a_knownAt a_code a_task a_variable a_latestTold m) (1 ||| c) (nI i) 0 f_seen f_seenCount f_isStraight f_meetings f_codeCount f_taskCount f_hasRun f_inputLeft f_toldCount f_lastNode f_hasStopped a_actKind a_actVariable a_actOperand a_endKind a_endVariable a_endX a_endY a_path a_pathSide a_leaving a_numberOf a_nodeAt a_successors a_predecessors a_before a_behind a_loop a_liveAt a_knownAt a_code a_task a_variable a_latestTold m' s (nI j)) (fun j t => t = gs_sw1 (1 ||| c) (fun n => gs_mkm (gs_edge ek ex ey n)) s j) 16 0 s (by omega) rfl ?_ ?_
    · rintro m' t rfl
      refine br_t gx_x16 (nm_r (nI_1 i) (ih _ ?_))
      rw [gs_it_s, ← hI]
      rfl
    · rintro m' j t hj rfl ihj
      refine br_f (gx_16 hj) (gx_hb hj (fun q => gx_edgeOf hj V.2.1.2.2.2.2.1 V.2.2.1 (fun r hr => nm_r (e' := gs_sw1 (1 ||| c) (fun n => gs_mkm (gs_edge ek ex ey n)) s (j + 1)) ?_ (nm_r (nI_1 j) (ihj _ rfl)))) (fun q => nm_r (nI_1 j) (ihj _ ?_)))
      · rw [b_or, Bool.or_eq_true] at q
        rw [gs_sw1_t q, gs_Mk_uniq hr (gs_mkm_ok _)]
      · rw [b_or, Bool.or_eq_false_iff] at q
        rw [gs_sw1_f q.1 q.2]
theorem gx_m_known {post : Int32 → SX → Prop} {p q : Int32} (R : gx_RX ak av ac ek ev ex ey (f_stale, f_seen, f_seenCount, f_isStraight, f_meetings, f_codeCount, f_taskCount, f_hasRun, f_inputLeft, f_toldCount, f_lastNode, f_hasStopped, a_actKind, a_actVariable, a_actOperand, a_endKind, a_endVariable, a_endX, a_endY, a_path, a_pathSide, a_leaving, a_numberOf, a_nodeAt, a_successors, a_predecessors, a_before, a_behind, a_loop, a_liveAt, a_knownAt, a_code, a_task, a_variable, a_latestTold)) (h : ∀ r u, gs_Akn ak av ac ek ev ex ey p q r → gx_RX ak av ac ek ev ex ey u → gx_run u = gx_run (f_stale, f_seen, f_seenCount, f_isStraight, f_meetings, f_codeCount, f_taskCount, f_hasRun, f_inputLeft, f_toldCount, f_lastNode, f_hasStopped, a_actKind, a_actVariable, a_actOperand, a_endKind, a_endVariable, a_endX, a_endY, a_path, a_pathSide, a_leaving, a_numberOf, a_nodeAt, a_successors, a_predecessors, a_before, a_behind, a_loop, a_liveAt, a_knownAt, a_code, a_task, a_variable, a_latestTold) → post r u) : wpX_known post (f_stale, f_seen, f_seenCount, f_isStraight, f_meetings, f_codeCount, f_taskCount, f_hasRun, f_inputLeft, f_toldCount, f_lastNode, f_hasStopped, a_actKind, a_actVariable, a_actOperand, a_endKind, a_endVariable, a_endX, a_endY, a_path, a_pathSide, a_leaving, a_numberOf, a_nodeAt, a_successors, a_predecessors, a_before, a_behind, a_loop, a_liveAt, a_knownAt, a_code, a_task, a_variable, a_latestTold) p q := by
  have R' := R
  obtain ⟨GE, GA, _⟩ := R
  have hx := GE.2.1
  have hy := GE.2.2.1
  unfold wpX_known
  refine gx_isNode (fun n hn e => ?_) (fun z => h _ _ (Or.inr ⟨Or.inl z, rfl⟩) R' rfl)
  subst e
  refine gx_isVar (fun v hv e => ?_) (fun z => h _ _ (Or.inr ⟨Or.inr z, rfl⟩) R' rfl)
  subst e
  refine gx_study R' (fun f_seen f_seenCount f_isStraight f_meetings f_codeCount f_taskCount a_path a_pathSide a_leaving a_numberOf a_nodeAt a_successors a_predecessors a_before a_behind a_loop a_liveAt a_knownAt a_code a_task V => ?_)
  have RN := gx_RX0 R' V (f_taskCount := f_taskCount) (f_hasRun := f_hasRun) (f_toldCount := f_toldCount) (f_lastNode := f_lastNode) (f_hasStopped := f_hasStopped) (f_inputLeft := f_inputLeft) (a_path := a_path) (a_pathSide := a_pathSide) (a_leaving := a_leaving) (a_task := a_task) (a_variable := a_variable) (a_latestTold := a_latestTold)
  have e : nI n * 4 + nI v = nI (4 * n + v) := by
    rw [show (4 : Int32) = nI 4 from rfl, pk_mul, nI_add, Nat.mul_comm]
  rw [e]
  have done := h _ _ (Or.inl ⟨n, v, hn, hv, rfl, rfl, rfl⟩) RN rfl
  refine ⟨vp_in_nI (by omega) (by decide), nm_r (e' := gs_kd (gs_kF ak av ac ek ev ex ey (4 * n + v))) (by rw [nI_clamp (by omega)]; exact V.2.2.2.2.2.2.1 _ (by omega)) (br_c (fun z => ?_) (fun z => done))⟩
  rw [z] at done
  exact done
theorem gx_m_words {post : Int32 → SX → Prop} (R : gx_RX ak av ac ek ev ex ey (f_stale, f_seen, f_seenCount, f_isStraight, f_meetings, f_codeCount, f_taskCount, f_hasRun, f_inputLeft, f_toldCount, f_lastNode, f_hasStopped, a_actKind, a_actVariable, a_actOperand, a_endKind, a_endVariable, a_endX, a_endY, a_path, a_pathSide, a_leaving, a_numberOf, a_nodeAt, a_successors, a_predecessors, a_before, a_behind, a_loop, a_liveAt, a_knownAt, a_code, a_task, a_variable, a_latestTold)) (h : ∀ r u, gs_Aws ek ev ex ey r → gx_RX ak av ac ek ev ex ey u → gx_run u = gx_run (f_stale, f_seen, f_seenCount, f_isStraight, f_meetings, f_codeCount, f_taskCount, f_hasRun, f_inputLeft, f_toldCount, f_lastNode, f_hasStopped, a_actKind, a_actVariable, a_actOperand, a_endKind, a_endVariable, a_endX, a_endY, a_path, a_pathSide, a_leaving, a_numberOf, a_nodeAt, a_successors, a_predecessors, a_before, a_behind, a_loop, a_liveAt, a_knownAt, a_code, a_task, a_variable, a_latestTold) → post r u) : wpX_words post (f_stale, f_seen, f_seenCount, f_isStraight, f_meetings, f_codeCount, f_taskCount, f_hasRun, f_inputLeft, f_toldCount, f_lastNode, f_hasStopped, a_actKind, a_actVariable, a_actOperand, a_endKind, a_endVariable, a_endX, a_endY, a_path, a_pathSide, a_leaving, a_numberOf, a_nodeAt, a_successors, a_predecessors, a_before, a_behind, a_loop, a_liveAt, a_knownAt, a_code, a_task, a_variable, a_latestTold) := by
  have R' := R
  obtain ⟨GE, GA, _⟩ := R
  have hx := GE.2.1
  have hy := GE.2.2.1
  unfold wpX_words
  refine gx_study R' (fun f_seen f_seenCount f_isStraight f_meetings f_codeCount f_taskCount a_path a_pathSide a_leaving a_numberOf a_nodeAt a_successors a_predecessors a_before a_behind a_loop a_liveAt a_knownAt a_code a_task V => ?_)
  have RN := gx_RX0 R' V (f_taskCount := f_taskCount) (f_hasRun := f_hasRun) (f_toldCount := f_toldCount) (f_lastNode := f_lastNode) (f_hasStopped := f_hasStopped) (f_inputLeft := f_inputLeft) (a_path := a_path) (a_pathSide := a_pathSide) (a_leaving := a_leaving) (a_task := a_task) (a_variable := a_variable) (a_latestTold := a_latestTold)
  refine br_c (fun z => h _ _ (Or.inr ⟨?_, rfl⟩) RN rfl) (fun z => h _ _ (Or.inl ⟨?_, (V.2.2.2.2.2.2.2 z).1⟩) RN rfl)
  · rcases V.2.2.2.2.1 with w | w
    · rw [w.1] at z
      exact absurd z (by decide)
    · exact w.2
  · rcases V.2.2.2.2.1 with w | w
    · exact w.2
    · exact absurd w.1 z
theorem gs_cF_len (hk : ∀ n, ek n ≤ 2) (hx : ∀ n, ex n < 16) (hy : ∀ n, ey n < 16) (hv : ∀ n, ev n < 4) : (gs_cF ek ex ey ev).1.length ≤ 158 := by
  obtain ⟨b, h⟩ := gs_ci_CS (ev := ev) hk hx hy hv 176
  rw [gs_ci_F] at h
  exact (gs_CS_len h).1
theorem gs_st_j {a : Nat → Int32} {l : List Nat} {j : Nat} (h : gs_st a l) (hj : j < l.length) : a j = nI (gs_at l (l.length - 1 - j)) := by
  have := gs_st_at l (l.length - 1 - j) h (by omega)
  rw [show l.length - 1 - (l.length - 1 - j) = j by omega] at this
  exact this
theorem gx_m_word {post : Int32 → SX → Prop} {p : Int32} (R : gx_RX ak av ac ek ev ex ey (f_stale, f_seen, f_seenCount, f_isStraight, f_meetings, f_codeCount, f_taskCount, f_hasRun, f_inputLeft, f_toldCount, f_lastNode, f_hasStopped, a_actKind, a_actVariable, a_actOperand, a_endKind, a_endVariable, a_endX, a_endY, a_path, a_pathSide, a_leaving, a_numberOf, a_nodeAt, a_successors, a_predecessors, a_before, a_behind, a_loop, a_liveAt, a_knownAt, a_code, a_task, a_variable, a_latestTold)) (h : ∀ r u, gs_Awd ek ev ex ey p r → gx_RX ak av ac ek ev ex ey u → gx_run u = gx_run (f_stale, f_seen, f_seenCount, f_isStraight, f_meetings, f_codeCount, f_taskCount, f_hasRun, f_inputLeft, f_toldCount, f_lastNode, f_hasStopped, a_actKind, a_actVariable, a_actOperand, a_endKind, a_endVariable, a_endX, a_endY, a_path, a_pathSide, a_leaving, a_numberOf, a_nodeAt, a_successors, a_predecessors, a_before, a_behind, a_loop, a_liveAt, a_knownAt, a_code, a_task, a_variable, a_latestTold) → post r u) : wpX_word post (f_stale, f_seen, f_seenCount, f_isStraight, f_meetings, f_codeCount, f_taskCount, f_hasRun, f_inputLeft, f_toldCount, f_lastNode, f_hasStopped, a_actKind, a_actVariable, a_actOperand, a_endKind, a_endVariable, a_endX, a_endY, a_path, a_pathSide, a_leaving, a_numberOf, a_nodeAt, a_successors, a_predecessors, a_before, a_behind, a_loop, a_liveAt, a_knownAt, a_code, a_task, a_variable, a_latestTold) p := by
  have R' := R
  obtain ⟨GE, GA, _⟩ := R
  have hx := GE.2.1
  have hy := GE.2.2.1
  unfold wpX_word
  have L := gs_cF_len (ev := ev) GE.1 hx hy GA.2.2.2.2.1
  refine gx_study R' (fun f_seen f_seenCount f_isStraight f_meetings f_codeCount f_taskCount a_path a_pathSide a_leaving a_numberOf a_nodeAt a_successors a_predecessors a_before a_behind a_loop a_liveAt a_knownAt a_code a_task V => ?_)
  have RN := gx_RX0 R' V (f_taskCount := f_taskCount) (f_hasRun := f_hasRun) (f_toldCount := f_toldCount) (f_lastNode := f_lastNode) (f_hasStopped := f_hasStopped) (f_inputLeft := f_inputLeft) (a_path := a_path) (a_pathSide := a_pathSide) (a_leaving := a_leaving) (a_task := a_task) (a_variable := a_variable) (a_latestTold := a_latestTold)
  refine br_c (fun z => h _ _ (Or.inr ⟨Or.inl ?_, rfl⟩) RN rfl) (fun z => ?_)
  · rcases V.2.2.2.2.1 with w | w
    · rw [w.1] at z
      exact absurd z (by decide)
    · exact w.2
  · have hc := V.2.2.2.2.2.2.2 z
    have hst : gs_strt ek ex ey := by
      rcases V.2.2.2.2.1 with w | w
      · exact w.2
      · exact absurd w.1 z
    refine br_c (fun y => h _ _ (Or.inr ⟨Or.inr (fun j hj e => ?_), rfl⟩) RN rfl) (fun y => ?_)
    · subst e
      exact nI_pos (by omega) y
    · obtain ⟨j, hj, rfl⟩ := nI_of y
      refine pk_le (gs_cF ek ex ey ev).1.length j (fun w => h _ _ (Or.inr ⟨Or.inr (fun i hi e => ?_), rfl⟩) RN rfl) (fun w => ⟨vp_in_nI (by omega) (by decide), ?_⟩) hc.1
      · have := (nI_eq hj (by omega)).mp e
        omega
      · rw [nI_clamp hj]
        exact h _ _ (Or.inl ⟨hst, j, w, rfl, gs_st_j hc.2 w⟩) RN rfl
end
end
section
/-! Y: small things -/
theorem gy_b1 : vp_nar .boolean 1 = 1 := rfl
theorem gy_b0 : vp_nar .boolean 0 = 0 := rfl
theorem gy_in {A B : Prop} {p M : Int32} {m : Nat} (hM : M = nI m) (hm : m < 2 ^ 31) (ht : ∀ n, n ≤ m → p = nI n → B) (hf : (∀ n, n ≤ m → p ≠ nI n) → A) : wpY_in (fun r => (r = 0 → A) ∧ (¬ r = 0 → B)) p 0 M := by
  subst hM
  refine br_c (fun z => br_t rfl (hf (fun n hn e => ?_))) (fun z => ?_)
  · subst e
    exact nI_pos (by omega) z
  · obtain ⟨j, hj, rfl⟩ := nI_of z
    refine pk_lt m j (fun w => br_t rfl (hf (fun n hn e => ?_))) (fun w => br_f (by decide) (ht j w rfl))
    have := (nI_eq hj (by omega)).mp e
    omega
/-- the ends and acts as Y holds them -/
def gy_GE (ek ev ex ey : Nat → Nat) (a_endKind a_endV a_endX a_endY : Nat → Int32) : Prop :=
  (∀ n, ek n ≤ 2) ∧ (∀ n, ex n < 16) ∧ (∀ n, ey n < 16) ∧ (∀ n, ev n < 4) ∧ (∀ n, a_endKind n = nI (ek n)) ∧ (∀ n, ek n ≠ 0 → a_endX n = nI (ex n)) ∧ (∀ n, ek n = 2 → a_endY n = nI (ey n)) ∧ (∀ n, ek n = 2 → a_endV n = nI (ev n))
def gy_GA (ak av ac : Nat → Nat) (a_actKind a_actV a_actC : Nat → Int32) : Prop :=
  (∀ n, ak n ≤ 5) ∧ (∀ n, av n < 4) ∧ (∀ n, ac n < 16) ∧ (∀ n, ak n = 3 → ac n < 4) ∧ (∀ n, a_actKind n = nI (ak n)) ∧ (∀ n, ak n ≠ 0 → a_actV n = nI (av n)) ∧ (∀ n, ak n = 1 ∨ ak n = 2 ∨ ak n = 3 → a_actC n = nI (ac n))
def gy_NU (ek ex ey : Nat → Nat) (a_number : Nat → Int32) : Prop := ∀ n, n < 16 → (gs_sn ek ex ey n = true ∧ a_number n = nI (gs_nu ek ex ey n)) ∨ (¬ gs_sn ek ex ey n = true ∧ a_number n = -1)
section
variable {f_fresh f_many f_tells f_last f_runs f_stopped : Int32} {a_actKind a_actV a_actC a_endKind a_endV a_endX a_endY a_number a_before a_behind a_reached a_todo a_words a_coming a_values a_told a_variables : Nat → Int32} {ek ex ey ak av ac ev : Nat → Nat}
theorem gy_after {post : Int32 → Prop} {n : Nat} (GE : gy_GE ek ev ex ey a_endKind a_endV a_endX a_endY) (hn : n < 16) (h : post (nI (gs_af ek ex ey n))) : wpY_after post (f_fresh, f_many, f_tells, f_last, f_runs, f_stopped, a_actKind, a_actV, a_actC, a_endKind, a_endV, a_endX, a_endY, a_number, a_before, a_behind, a_reached, a_todo, a_words, a_coming, a_values, a_told, a_variables) (nI n) := by
  obtain ⟨g1, g2, g3, g4, g5, g6, g7, g8⟩ := GE
  have k2 := g1 n
  have eK : ∀ b, b < 3 → (a_endKind (nI n).toNatClampNeg = nI b ↔ ek n = b) := fun b hb => by
    rw [gx_cl hn, g5]
    exact nI_eq (by omega) (by omega)
  unfold gs_af at h
  refine ⟨gx_in hn, br_c (fun z => ?_) (fun z => ⟨gx_in hn, br_c (fun y => ?_) (fun y => ⟨gx_in hn, gx_in hn, ?_⟩)⟩)⟩
  · rw [if_pos ((eK 0 (by omega)).mp z)] at h
    exact h
  · have y1 := (eK 1 (by omega)).mp y
    rw [if_neg (by omega), if_pos (Or.inl y1)] at h
    exact h
  · have z0 : ¬ ek n = 0 := fun q => z ((eK 0 (by omega)).mpr q)
    have y1 : ¬ ek n = 1 := fun q => y ((eK 1 (by omega)).mpr q)
    rw [if_neg z0] at h
    have e : (a_endX (nI n).toNatClampNeg = a_endY (nI n).toNatClampNeg) ↔ ex n = ey n := by
      rw [gx_cl hn, g6 n z0, g7 n (by omega)]
      exact nI_eq (by have := g2 n; omega) (by have := g3 n; omega)
    refine br_c (fun q => ?_) (fun q => ?_)
    · rw [if_pos (Or.inr (e.mp q))] at h
      exact h
    · rw [if_neg (fun w => w.elim y1 (fun w => q (e.mpr w)))] at h
      exact h
theorem gy_succ {post : Int32 → Prop} {n k : Nat} (GE : gy_GE ek ev ex ey a_endKind a_endV a_endX a_endY) (hn : n < 16) (hk : k < gs_af ek ex ey n) (h : post (nI (gs_ns ex ey n k))) : wpY_successor post (f_fresh, f_many, f_tells, f_last, f_runs, f_stopped, a_actKind, a_actV, a_actC, a_endKind, a_endV, a_endX, a_endY, a_number, a_before, a_behind, a_reached, a_todo, a_words, a_coming, a_values, a_told, a_variables) (nI n) (nI k) := by
  obtain ⟨g1, g2, g3, g4, g5, g6, g7, g8⟩ := GE
  have k2 := g1 n
  have hk2 := gs_af_le ek ex ey n
  have k3 : k < 2 := by omega
  unfold gs_af at hk
  unfold gs_ns at h
  have z0 : ¬ ek n = 0 := fun q => by rw [if_pos q] at hk; omega
  rw [if_neg z0] at hk
  refine pk_eq k 0 (fun e => ⟨gx_in hn, ?_⟩) (fun e => ⟨gx_in hn, ?_⟩)
  · rw [if_pos e] at h
    rw [gx_cl hn, g6 n z0]
    exact h
  · rw [if_neg e] at h
    have q : ¬ (ek n = 1 ∨ ex n = ey n) := fun q => by rw [if_pos q] at hk; omega
    rw [gx_cl hn, g7 n (by omega)]
    exact h
theorem gs_ns_lt (hx : ∀ n, ex n < 16) (hy : ∀ n, ey n < 16) (n k : Nat) : gs_ns ex ey n k < 16 := by
  unfold gs_ns
  split
  · exact hx n
  · exact hy n
theorem gy_leads {A B : Prop} {n s : Nat} (GE : gy_GE ek ev ex ey a_endKind a_endV a_endX a_endY) (hn : n < 16) (hs : s < 16) (ht : gs_E ek ex ey n s → B) (hf : ¬ gs_E ek ex ey n s → A) : wpY_leads (fun r => (r = 0 → A) ∧ (¬ r = 0 → B)) (f_fresh, f_many, f_tells, f_last, f_runs, f_stopped, a_actKind, a_actV, a_actC, a_endKind, a_endV, a_endX, a_endY, a_number, a_before, a_behind, a_reached, a_todo, a_words, a_coming, a_values, a_told, a_variables) (nI n) (nI s) := by
  have GE' := GE
  obtain ⟨g1, g2, g3, g4, g5, g6, g7, g8⟩ := GE
  have hE := gs_E_af ek ex ey g1 (n := n) (s := s)
  have hx := g2 n
  have hy := g3 n
  have hk2 := gs_af_le ek ex ey n
  unfold wpY_leads
  refine gy_after GE' hn ?_
  have af0 : gs_af ek ex ey n ≠ 0 → ¬ ek n = 0 := fun w q => w (if_pos q)
  have af2 : gs_af ek ex ey n = 2 → ek n = 2 := fun w => by
    have := g1 n
    unfold gs_af at w
    by_cases q : ek n = 0
    · rw [if_pos q] at w; omega
    · rw [if_neg q] at w
      by_cases q1 : ek n = 1
      · rw [if_pos (Or.inl q1)] at w; omega
      · omega
  have last : (gs_af ek ex ey n ≠ 0 → ex n ≠ s) → wY_leads_20 (fun r => (r = 0 → A) ∧ (¬ r = 0 → B)) (nI n) (nI s) (nI (gs_af ek ex ey n)) f_fresh f_many f_tells f_last f_runs f_stopped a_actKind a_actV a_actC a_endKind a_endV a_endX a_endY a_number a_before a_behind a_reached a_todo a_words a_coming a_values a_told a_variables := by
    intro hne
    refine pk_le (gs_af ek ex ey n) 1 (fun w => br_t rfl (hf (fun q => ?_))) (fun w => ⟨gx_in hn, br_c (fun y => br_f (by decide) (ht ?_)) (fun y => br_t rfl (hf (fun q => ?_)))⟩)
    · obtain ⟨k, k1, k2⟩ := hE.mp q
      have : k = 0 := by omega
      subst this
      exact hne (by omega) k2
    · have e2 := af2 (by omega)
      rw [gx_cl hn, g7 n e2, nI_eq (by omega) (by omega)] at y
      exact Or.inr ⟨e2, Or.inr y⟩
    · have e2 := af2 (by omega)
      obtain ⟨k, k1, k2⟩ := hE.mp q
      unfold gs_ns at k2
      by_cases k0 : k = 0
      · rw [if_pos k0] at k2
        exact hne (by omega) k2
      · rw [if_neg k0] at k2
        apply y
        rw [gx_cl hn, g7 n e2, k2]
  refine pk_le (gs_af ek ex ey n) 0 (fun w => last (fun q => absurd (Nat.le_zero.mp w) q)) (fun w => ⟨gx_in hn, br_c (fun y => br_f (by decide) (ht (hE.mpr ⟨0, w, ?_⟩))) (fun y => last (fun _ q => y ?_))⟩)
  · rw [gx_cl hn, g6 n (af0 (by omega)), nI_eq (by omega) (by omega)] at y
    exact y
  · rw [gx_cl hn, g6 n (af0 (by omega)), q]
theorem gy_sn {A B : Prop} {n : Nat} (hx : ∀ n, ex n < 16) (hy : ∀ n, ey n < 16) (hN : gy_NU ek ex ey a_number) (hn : n < 16) (ht : gs_sn ek ex ey n = true → B) (hf : ¬ gs_sn ek ex ey n = true → A) : wpY_seen (fun r => (r = 0 → A) ∧ (¬ r = 0 → B)) (f_fresh, f_many, f_tells, f_last, f_runs, f_stopped, a_actKind, a_actV, a_actC, a_endKind, a_endV, a_endX, a_endY, a_number, a_before, a_behind, a_reached, a_todo, a_words, a_coming, a_values, a_told, a_variables) (nI n) := by
  unfold wpY_seen
  refine gy_in (m := 15) rfl (by decide) (fun m hm e => ?_) (fun q => absurd rfl (q n (by omega)))
  refine ⟨gx_in hn, ?_⟩
  rw [gx_cl hn]
  rcases hN n hn with ⟨z1, z2⟩ | ⟨z1, z2⟩
  · have := gs_nu_lt hx hy z1
    have := gs_lv_len (ek := ek) hx hy
    rw [z2]
    exact br_f (nI_pos (by omega)) (br_f (by decide) (ht z1))
  · rw [z2]
    exact br_t (by decide) (br_t rfl (hf z1))
theorem gy_seen {A B : Prop} {p : Int32} (hx : ∀ n, ex n < 16) (hy : ∀ n, ey n < 16) (hN : gy_NU ek ex ey a_number) (ht : ∀ n, gs_sn ek ex ey n = true → p = nI n → B) (hf : (∀ n, gs_sn ek ex ey n = true → p ≠ nI n) → A) : wpY_seen (fun r => (r = 0 → A) ∧ (¬ r = 0 → B)) (f_fresh, f_many, f_tells, f_last, f_runs, f_stopped, a_actKind, a_actV, a_actC, a_endKind, a_endV, a_endX, a_endY, a_number, a_before, a_behind, a_reached, a_todo, a_words, a_coming, a_values, a_told, a_variables) p := by
  by_cases z : ∃ n, n < 16 ∧ p = nI n
  · obtain ⟨n, hn, rfl⟩ := z
    refine gy_sn hx hy hN hn (fun w => ht n w rfl) (fun w => hf (fun m hm e => w ?_))
    have m16 := gs_sn_lt hx hy hm
    have := (nI_eq (by omega) (by omega)).mp e
    exact this ▸ hm
  · unfold wpY_seen
    refine gy_in (m := 15) rfl (by decide) (fun m hm e => absurd ⟨m, by omega, e⟩ z) (fun q => br_t rfl (hf (fun n hn e => z ⟨n, gs_sn_lt hx hy hn, e⟩)))
end
end
section
/-! Y: the numbers -/
def gs_st3 (f : Nat → Nat) (a b : Nat → Int32) : List (Nat × Nat) → Prop
  | [] => True
  | e :: t => a t.length = nI e.1 ∧ b t.length = nI (min e.2 (f e.1)) ∧ gs_st3 f a b t
theorem gs_st3_a {f : Nat → Nat} {a b : Nat → Int32} {k : Nat} {v : Int32} : ∀ (l : List (Nat × Nat)), l.length ≤ k → gs_st3 f a b l → gs_st3 f (upd a k v) b l
  | [], _, _ => trivial
  | e :: t, hk, h => by
    simp only [List.length_cons] at hk
    exact ⟨(pk_un (by omega)).trans h.1, h.2.1, gs_st3_a t (by omega) h.2.2⟩
theorem gs_st3_b {f : Nat → Nat} {a b : Nat → Int32} {k : Nat} {v : Int32} : ∀ (l : List (Nat × Nat)), l.length ≤ k → gs_st3 f a b l → gs_st3 f a (upd b k v) l
  | [], _, _ => trivial
  | e :: t, hk, h => by
    simp only [List.length_cons] at hk
    exact ⟨h.1, (pk_un (by omega)).trans h.2.1, gs_st3_b t (by omega) h.2.2⟩
def gs_nb (num : Nat → Int32) : List Nat → Prop
  | [] => True
  | n :: t => num n = nI t.length ∧ gs_nb num t
theorem gs_nb_upd {num : Nat → Int32} {k : Nat} {v : Int32} : ∀ (l : List Nat), k ∉ l → gs_nb num l → gs_nb (upd num k v) l
  | [], _, _ => trivial
  | n :: t, hk, h => ⟨(pk_un (show n ≠ k from fun z => hk (List.mem_cons.mpr (Or.inl z.symm)))).trans h.1, gs_nb_upd t (fun z => hk (List.mem_cons_of_mem _ z)) h.2⟩
theorem gs_nb_ix {num : Nat → Int32} {n : Nat} : ∀ (l : List Nat), n ∈ l → gs_nb num l → num n = nI (l.length - 1 - gs_ix l n)
  | [], hm, _ => by cases hm
  | x :: t, hm, h => by
    unfold gs_ix
    by_cases e : x = n
    · rw [if_pos e, ← e, h.1, List.length_cons]
      rfl
    · have hm2 : n ∈ t := (List.mem_cons.mp hm).elim (fun z => absurd z.symm e) id
      rw [if_neg e, gs_nb_ix t hm2 h.2, List.length_cons]
      congr 1
      omega
section
variable {f_fresh f_many f_tells f_last f_runs f_stopped : Int32} {a_actKind a_actV a_actC a_endKind a_endV a_endX a_endY a_number a_before a_behind a_reached a_todo a_words a_coming a_values a_told a_variables : Nat → Int32} {ek ex ey ak av ac ev : Nat → Nat}
/-- Y leaves a node where the pure machine still looks at a side that shows nothing new -/
theorem gs_skip (hk2 : ∀ n, ek n ≤ 2) {n k : Nat} {t : List (Nat × Nat)} {sn : Nat → Bool} {lv : List Nat} (h : gs_Inv ek ex ey ((n, k) :: t) sn lv) (ha : gs_af ek ex ey n ≤ k) : ∃ i, gs_it (gs_ds ek ex ey) i ((n, k) :: t, sn, lv) = (t, sn, n :: lv) := by
  have hk : k ≤ 2 := (h.1 (n, k) List.mem_cons_self).2.1
  have k3 := hk2 n
  have no : ∀ j, gs_af ek ex ey n ≤ j → j < 2 → 1 ≤ k ∨ ek n = 0 → ∀ s, gs_sc ek ex ey n j = some s → sn s = true := by
    intro j hj hj2 h0 s hs
    unfold gs_af at hj
    by_cases e0 : ek n = 0
    · unfold gs_sc at hs
      rw [if_neg (by omega), if_neg (by omega)] at hs
      exact nomatch hs
    · rw [if_neg e0] at hj
      by_cases e1 : ek n = 1
      · rw [if_pos (Or.inl e1)] at hj
        unfold gs_sc at hs
        rw [if_neg (by omega), if_neg (by omega)] at hs
        exact nomatch hs
      · by_cases exy : ex n = ey n
        · rw [if_pos (Or.inr exy)] at hj
          have e2 : ek n = 2 := by omega
          have s0 : gs_sc ek ex ey n 0 = some (ex n) := by unfold gs_sc; rw [if_pos e2, if_pos rfl]
          have s1 : gs_sc ek ex ey n j = some (ey n) := by unfold gs_sc; rw [if_pos e2, if_neg (by omega)]
          have se : s = ey n := Option.some.inj (hs.symm.trans s1)
          rw [se, ← exy]
          rcases h0 with h0 | h0
          · exact h.2.2.2.2.2.2.1 (n, k) List.mem_cons_self 0 h0 (ex n) s0
          · omega
        · rw [if_neg (by omega)] at hj
          omega
  have h0 : 1 ≤ k ∨ ek n = 0 := by
    by_cases q : ek n = 0
    · exact Or.inr q
    · left
      unfold gs_af at ha
      rw [if_neg q] at ha
      split at ha <;> omega
  have hc : k = 0 ∨ k = 1 ∨ k = 2 := by omega
  rcases hc with c | c | c
  · subst c
    refine ⟨3, ?_⟩
    show gs_ds ek ex ey (gs_ds ek ex ey (gs_ds ek ex ey ((n, 0) :: t, sn, lv))) = _
    rw [gs_ds_step (by omega) (no 0 ha (by omega) h0), gs_ds_step (by omega) (no 1 (by omega) (by omega) h0), gs_ds_pop]
  · subst c
    refine ⟨2, ?_⟩
    show gs_ds ek ex ey (gs_ds ek ex ey ((n, 1) :: t, sn, lv)) = _
    rw [gs_ds_step (by omega) (no 1 ha (by omega) h0), gs_ds_pop]
  · subst c
    exact ⟨1, gs_ds_pop (ek := ek) (ex := ex) (ey := ey)⟩
theorem gs_sc_ns {n k : Nat} (hk2 : ∀ n, ek n ≤ 2) (h : k < gs_af ek ex ey n) : gs_sc ek ex ey n k = some (gs_ns ex ey n k) := by
  have k3 := hk2 n
  unfold gs_af at h
  unfold gs_sc gs_ns
  by_cases e0 : ek n = 0
  · rw [if_pos e0] at h
    omega
  · rw [if_neg e0] at h
    by_cases e1 : ek n = 1
    · rw [if_pos (Or.inl e1)] at h
      rw [if_neg (by omega), if_pos ⟨e1, by omega⟩, if_pos (by omega)]
    · rw [if_pos (by omega)]
      split <;> rfl
/-- what Y's going through holds of the pure one: left, depth, number, reached, todo, words -/
def gy_DS (ek ex ey : Nat → Nat) (S : List (Nat × Nat) × (Nat → Bool) × List Nat) (s : Int32 × Int32 × (Nat → Int32) × (Nat → Int32) × (Nat → Int32) × (Nat → Int32)) : Prop :=
  s.1 = nI S.2.2.length ∧ s.2.1 = nI S.1.length ∧ gs_nb s.2.2.1 S.2.2 ∧ (∀ n, n < 16 → n ∉ S.2.2 → s.2.2.1 n = -1) ∧ (∀ n, n < 16 → s.2.2.2.1 n = if S.2.1 n = true then 1 else 0) ∧ gs_st3 (gs_af ek ex ey) s.2.2.2.2.1 s.2.2.2.2.2 S.1
theorem gy_num_172 {post : SY → Prop} (hx : ∀ n, ex n < 16) (hy : ∀ n, ey n < 16) {x1 : Int32} (hc : x1 = nI (gs_lv ek ex ey).length) (h1 : gs_nb a_number (gs_lv ek ex ey)) (h2 : ∀ n, n < 16 → n ∉ gs_lv ek ex ey → a_number n = -1)
    (h : ∀ nu, gy_NU ek ex ey nu → post (f_fresh, f_many, f_tells, f_last, f_runs, f_stopped, a_actKind, a_actV, a_actC, a_endKind, a_endV, a_endX, a_endY, nu, a_before, a_behind, a_reached, a_todo, a_words, a_coming, a_values, a_told, a_variables)) : ∃ m, wY_numbers_172 post x1 f_fresh f_many f_tells f_last f_runs f_stopped m 0 a_actKind a_actV a_actC a_endKind a_endV a_endX a_endY a_number a_before a_behind a_reached a_todo a_words a_coming a_values a_told a_variables := by
  have L := gs_lv_len (ek := ek) hx hy
  have one : ∀ n, n < 16 → (gs_sn ek ex ey n = true ∧ a_number n = nI ((gs_lv ek ex ey).length - 1 - gs_nu ek ex ey n)) ∨ (¬ gs_sn ek ex ey n = true ∧ a_number n = -1) := by
    intro n hn
    by_cases z : gs_sn ek ex ey n = true
    · exact Or.inl ⟨z, gs_nb_ix _ ((gs_sn_lv hx hy).mp z) h1⟩
    · exact Or.inr ⟨z, h2 n hn (fun q => z ((gs_sn_lv hx hy).mpr q))⟩
  refine pk_loop (fun m i (s : Nat → Int32) => wY_numbers_172 post x1 f_fresh f_many f_tells f_last f_runs f_stopped m (nI i) a_actKind a_actV a_actC a_endKind a_endV a_endX a_endY s a_before a_behind a_reached a_todo a_words a_coming a_values a_told a_variables) (fun i s => (∀ n, i ≤ n → s n = a_number n) ∧ ∀ n, n < i → (gs_sn ek ex ey n = true ∧ s n = nI (gs_nu ek ex ey n)) ∨ (¬ gs_sn ek ex ey n = true ∧ s n = -1)) 16 0 a_number (by omega) ⟨fun _ _ => rfl, fun j hj => absurd hj (Nat.not_lt_zero j)⟩ ?_ ?_
  · rintro m s hI
    exact br_t gx_x16 (h s hI.2)
  · rintro m i s hi hI ih
    have hs := hI.1 i (Nat.le_refl _)
    refine br_f (gx_16 hi) ⟨gx_in hi, ?_⟩
    rw [gx_cl hi, hs]
    rcases one i hi with ⟨z1, z2⟩ | ⟨z1, z2⟩
    · have nl := gs_nu_lt hx hy z1
      rw [z2]
      refine br_f (nI_pos (by omega)) ⟨gx_in hi, gx_in hi, nm_r (e' := upd s i (nI (gs_nu ek ex ey i))) ?_ (nm_r (nI_1 i) (ih _ ⟨fun n hn => ?_, fun n hn => ?_⟩))⟩
      · rw [hc, show (1 : Int32) = nI 1 from rfl, pk_sub (by omega), pk_sub (by omega)]
        congr 2
        omega
      · rw [pk_un (by omega)]
        exact hI.1 n (by omega)
      · by_cases e : n = i
        · subst e
          exact Or.inl ⟨z1, pk_us⟩
        · rw [pk_un e]
          exact hI.2 n (by omega)
    · rw [z2]
      refine br_t (by decide) (nm_r (nI_1 i) (ih _ ⟨fun n hn => hI.1 n (by omega), fun n hn => ?_⟩))
      by_cases e : n = i
      · subst e
        exact Or.inr ⟨z1, by rw [hs, z2]⟩
      · exact hI.2 n (by omega)
theorem gy_numbers {post : SY → Prop} (GE : gy_GE ek ev ex ey a_endKind a_endV a_endX a_endY)
    (h : ∀ nu re td wo, gy_NU ek ex ey nu → post (f_fresh, f_many, f_tells, f_last, f_runs, f_stopped, a_actKind, a_actV, a_actC, a_endKind, a_endV, a_endX, a_endY, nu, a_before, a_behind, re, td, wo, a_coming, a_values, a_told, a_variables)) : wpY_numbers post (f_fresh, f_many, f_tells, f_last, f_runs, f_stopped, a_actKind, a_actV, a_actC, a_endKind, a_endV, a_endX, a_endY, a_number, a_before, a_behind, a_reached, a_todo, a_words, a_coming, a_values, a_told, a_variables) := by
  have hk2 := GE.1
  have hx := GE.2.1
  have hy := GE.2.2.1
  refine pk_loop (fun m i (s : (Nat → Int32) × (Nat → Int32)) => wY_numbers_2 post f_fresh f_many f_tells f_last f_runs f_stopped m (nI i) a_actKind a_actV a_actC a_endKind a_endV a_endX a_endY s.1 a_before a_behind s.2 a_todo a_words a_coming a_values a_told a_variables) (fun i s => ∀ j, j < i → s.1 j = -1 ∧ s.2 j = 0) 16 0 (a_number, a_reached) (by omega) (fun j hj => absurd hj (Nat.not_lt_zero j)) ?_ ?_
  · rintro m s0 hI0
    refine br_t gx_x16 (nm_e (nm_e (nm_r (e' := upd s0.2 0 1) rfl ?_)))
    refine loop_m (fun m (s : (List (Nat × Nat) × (Nat → Bool) × List Nat) × (Int32 × Int32 × (Nat → Int32) × (Nat → Int32) × (Nat → Int32) × (Nat → Int32))) => wY_numbers_53 post f_fresh f_many f_tells f_last f_runs f_stopped m s.2.1 s.2.2.1 a_actKind a_actV a_actC a_endKind a_endV a_endX a_endY s.2.2.2.1 a_before a_behind s.2.2.2.2.1 s.2.2.2.2.2.1 s.2.2.2.2.2.2 a_coming a_values a_told a_variables) (fun s => (∃ i, gs_it (gs_ds ek ex ey) i gs_d0 = s.1) ∧ gy_DS ek ex ey s.1 s.2) (fun s => gs_mu s.1) ?_ (gs_d0, (0, 1, s0.1, upd s0.2 0 1, upd a_todo 0 0, upd a_words 0 0)) ?_
    · rintro m ⟨⟨stk, sn, lv⟩, ⟨x1, x2, num, re, td, wo⟩⟩ ⟨⟨i, hi⟩, i1, i2, i3, i4, i5, i6⟩ ih
      have inv := gs_itinv (ek := ek) hx hy i
      have fin := gs_end (ek := ek) hx hy (i := i)
      rw [hi] at inv fin
      dsimp only at i1 i2 i3 i4 i5 i6 inv fin
      have len := gs_Inv_len inv
      cases stk with
      | nil =>
        have fin := fin rfl
        have fl : lv = gs_lv ek ex ey := congrArg (fun z => z.2.2) fin
        refine br_t (by dsimp only; rw [i2]; decide) ?_
        subst fl
        exact gy_num_172 hx hy i1 i3 i4 (fun nu hnu => h nu _ _ _ hnu)
      | cons e t =>
        obtain ⟨n, k⟩ := e
        simp only [List.length_cons] at len
        have tl : t.length < 16 := by omega
        have hn := (inv.1 (n, k) List.mem_cons_self)
        have hn16 : n < 16 := hn.1
        have hk3 : k ≤ 2 := hn.2.1
        have i2' : x2 = nI (t.length + 1) := i2
        have e1 : x2 - 1 = nI t.length := by rw [i2']; exact nI_pred _
        have in600 : vp_in (x2 - 1) 600 := by rw [e1]; exact vp_in_nI (by omega) (by decide)
        have cl : (x2 - 1).toNatClampNeg = t.length := by rw [e1]; exact nI_clamp (by omega)
        have aw : wo (x2 - 1).toNatClampNeg = nI (min k (gs_af ek ex ey n)) := by rw [cl]; exact i6.2.1
        have af2 := gs_af_le ek ex ey n
        refine br_f (by dsimp only; rw [i2']; exact nI_nle (by omega) (by omega)) ⟨in600, nm_r (e' := nI n) (by dsimp only; rw [cl]; exact i6.1) ⟨in600, in600, nm_r (e' := upd wo t.length (nI (min k (gs_af ek ex ey n) + 1))) (by dsimp only; rw [aw, cl, nI_1]) (nm_r (e' := nI (min k (gs_af ek ex ey n))) aw (gy_after GE hn16 ?_))⟩⟩
        refine pk_eq (min k (gs_af ek ex ey n)) (gs_af ek ex ey n) (fun z => ?_) (fun z => gy_after GE hn16 ?_)
        · have inv2 : gs_Inv ek ex ey t sn (n :: lv) := by
            obtain ⟨q, hq⟩ := gs_skip hk2 inv (by omega)
            have := gs_it_inv (f := gs_ds ek ex ey) (fun S => gs_Inv ek ex ey S.1 S.2.1 S.2.2) (fun S h => gs_ds_inv hx hy S h) q ((n, k) :: t, sn, lv) inv
            rw [hq] at this
            exact this
          have len2 := (gs_Inv_len inv2).2
          simp only [List.length_cons] at len2
          have nl : n ∉ lv := inv2.2.2.2.1.1
          refine nm_r (e' := nI (lv.length + 1)) (by dsimp only; rw [i1, nI_1]) ⟨gx_in hn16, nm_r (e' := upd num n (nI lv.length)) (by dsimp only; rw [gx_cl hn16, i1]) (nm_r (e' := nI t.length) (by dsimp only; rw [i2', pk_m1]) ?_)⟩
          refine ih ((t, sn, n :: lv), (nI (lv.length + 1), nI t.length, upd num n (nI lv.length), re, td, upd wo t.length (nI (min k (gs_af ek ex ey n) + 1)))) ⟨?_, rfl, rfl, ⟨pk_us, gs_nb_upd lv nl i3⟩, fun q hq hq2 => ?_, i5, gs_st3_b t (Nat.le_refl _) i6.2.2⟩ ?_
          · obtain ⟨q, hq⟩ := gs_skip hk2 inv (by omega)
            exact ⟨q + i, by rw [gs_it_add, hi, hq]⟩
          · have q1 : q ≠ n := fun w => hq2 (w ▸ List.mem_cons_self)
            exact (pk_un q1).trans (i4 q hq (fun w => hq2 (List.mem_cons_of_mem _ w)))
          · simp only [gs_mu, gs_sz]
            omega
        · have ka : k < gs_af ek ex ey n := by omega
          have mk : min k (gs_af ek ex ey n) = k := by omega
          rw [mk]
          have k2 : k < 2 := by omega
          have sc := gs_sc_ns (ek := ek) hk2 ka
          have s16 := gs_ns_lt hx hy n k
          have rs := i5 _ s16
          refine br_f (nI_ge ka (by omega)) (gy_succ GE hn16 ka ⟨gx_in s16, ?_⟩)
          rw [gx_cl s16]
          have mu := gs_ds_mu hx hy ((n, k) :: t, sn, lv) inv (by simp)
          by_cases q : sn (gs_ns ex ey n k) = true
          · have st := gs_ds_step (ek := ek) (t := t) (lv := lv) k2 (fun s hs => by rw [← Option.some.inj (sc.symm.trans hs)]; exact q)
            rw [st] at mu
            rw [if_pos q] at rs
            refine br_f (by dsimp only; rw [rs]; decide) ?_
            refine ih (((n, k + 1) :: t, sn, lv), (x1, x2, num, re, td, upd wo t.length (nI (k + 1)))) ⟨⟨1 + i, by rw [gs_it_add, hi]; exact st⟩, i1, i2, i3, i4, i5, ⟨i6.1, ?_, gs_st3_b t (Nat.le_refl _) i6.2.2⟩⟩ mu
            rw [show min (k + 1) (gs_af ek ex ey n) = k + 1 by omega]
            exact pk_us
          · have st := gs_ds_push (ek := ek) (t := t) (lv := lv) k2 sc q
            have inv2 := gs_Inv_push hx hy inv k2 sc q
            have len2 := (gs_Inv_len inv2).1
            simp only [List.length_cons] at len2
            rw [st] at mu
            rw [if_neg q] at rs
            have c2 : x2.toNatClampNeg = t.length + 1 := by rw [i2']; exact nI_clamp (by omega)
            have in2 : vp_in x2 600 := by rw [i2']; exact vp_in_nI (by omega) (by decide)
            refine br_t rs (gy_succ GE hn16 ka ⟨in2, nm_r (e' := upd td (t.length + 1) (nI (gs_ns ex ey n k))) (by dsimp only; rw [c2]) ⟨in2, ?_⟩⟩)
            dsimp only
            rw [c2, pk_us]
            refine ⟨gx_in s16, nm_r (e' := upd re (gs_ns ex ey n k) 1) (by rw [gx_cl s16]; rfl) ⟨in2, nm_e (nm_r (e' := nI (t.length + 2)) (by rw [i2', nI_1]) ?_)⟩⟩
            refine ih (((gs_ns ex ey n k, 0) :: (n, k + 1) :: t, (fun j => sn j || decide (j = gs_ns ex ey n k)), lv), (x1, nI (t.length + 2), num, upd re (gs_ns ex ey n k) 1, upd td (t.length + 1) (nI (gs_ns ex ey n k)), upd (upd wo t.length (nI (k + 1))) (t.length + 1) 0)) ⟨⟨1 + i, by rw [gs_it_add, hi]; exact st⟩, i1, rfl, i3, i4, fun j hj => ?_, ⟨pk_us, ?_, ?_⟩⟩ mu
            · show upd re (gs_ns ex ey n k) 1 j = if (sn j || decide (j = gs_ns ex ey n k)) = true then 1 else 0
              by_cases e : j = gs_ns ex ey n k
              · subst e
                rw [pk_us, decide_eq_true rfl, Bool.or_true, if_pos rfl]
              · rw [pk_un e, decide_eq_false e, Bool.or_false]
                exact i5 j hj
            · rw [Nat.zero_min]
              exact pk_us
            · refine gs_st3_b _ (Nat.le_refl _) (gs_st3_a _ (Nat.le_refl _) ⟨i6.1, ?_, gs_st3_b t (Nat.le_refl _) i6.2.2⟩)
              rw [show min (k + 1) (gs_af ek ex ey n) = k + 1 by omega]
              exact pk_us
    · refine ⟨⟨0, rfl⟩, rfl, rfl, trivial, fun n hn _ => (hI0 n hn).1, fun n hn => ?_, ⟨rfl, ?_, trivial⟩⟩
      · show upd s0.2 0 1 n = if decide (n = 0) = true then 1 else 0
        by_cases e : n = 0
        · subst e
          rfl
        · rw [pk_un e, if_neg (fun z => e (decide_eq_true_iff.mp z))]
          exact (hI0 n hn).2
      · rw [Nat.zero_min]
        rfl
  · rintro m i s hi hI ih
    refine br_f (gx_16 hi) ⟨gx_in hi, nm_r (e' := upd s.1 i (-1)) (by rw [gx_cl hi]) ⟨gx_in hi, nm_r (e' := upd s.2 i 0) (by rw [gx_cl hi]; rfl) (nm_r (nI_1 i) (ih (_, _) (fun j hj => ?_)))⟩⟩
    by_cases e : j = i
    · subst e
      exact ⟨pk_us, pk_us⟩
    · exact ⟨(pk_un e).trans (hI j (by omega)).1, (pk_un e).trans (hI j (by omega)).2⟩
end
end
section
/-! Y: reach -/
section
variable {f_fresh f_many f_tells f_last f_runs f_stopped : Int32} {a_actKind a_actV a_actC a_endKind a_endV a_endX a_endY a_number a_before a_behind a_reached a_todo a_words a_coming a_values a_told a_variables : Nat → Int32} {ek ex ey ak av ac ev : Nat → Nat}
/-- what holds of Y's walk: the nodes still to do, those reached; X n: n is being looked at, its successors below k are done -/
def gy_RI (E : Nat → Nat → Prop) (C : Nat → Prop) (a : Nat) (st : List Nat) (rb : Nat → Int32) (X : Nat → Prop) : Prop :=
  (∀ n, n < 16 → rb n = 0 ∨ rb n = 1) ∧ (∀ n, n ∈ st → n < 16 ∧ rb n = 1) ∧ (∀ n, n < 16 → rb n = 1 → C n) ∧ (∀ n, n < 16 → rb n = 1 → n ∉ st → ¬ X n → ∀ k, k < 16 → E n k → rb k = 1) ∧ rb a = 1 ∧ st.length ≤ gs_cn (fun n => decide (rb n = 1)) 16
def gy_mu (st : List Nat) (rb : Nat → Int32) : Nat := 2 * (16 - gs_cn (fun n => decide (rb n = 1)) 16) + st.length
theorem gy_RI_push {E : Nat → Nat → Prop} {C : Nat → Prop} {a : Nat} {st : List Nat} {rb : Nat → Int32} {X : Nat → Prop} {s : Nat} (h : gy_RI E C a st rb X) (hs : s < 16) (h0 : rb s = 0) (hC : C s) : gy_RI E C a (s :: st) (upd rb s 1) X ∧ gy_mu (s :: st) (upd rb s 1) < gy_mu st rb := by
  obtain ⟨h1, h2, h3, h4, h5, h6⟩ := h
  have up : ∀ n, rb n = 1 → upd rb s 1 n = 1 := fun n hn => by
    by_cases e : n = s
    · subst e
      exact pk_us
    · exact (pk_un e).trans hn
  have cn := gs_cn_ins (P := fun n => decide (rb n = 1)) (Q := fun n => decide (upd rb s 1 n = 1)) 16 hs (by rw [h0]; decide) (fun i _ => by
    by_cases e : i = s
    · subst e
      rw [pk_us]
      simp
    · rw [pk_un e]
      simp [e])
  have le := gs_cn_le (fun n => decide (upd rb s 1 n = 1)) 16
  refine ⟨⟨fun n hn => ?_, fun n hn => ?_, fun n hn q => ?_, fun n hn q w x k hk e => ?_, up a h5, ?_⟩, ?_⟩
  · by_cases e : n = s
    · subst e
      exact Or.inr pk_us
    · rw [pk_un e]
      exact h1 n hn
  · rcases List.mem_cons.mp hn with rfl | hn
    · exact ⟨hs, pk_us⟩
    · exact ⟨(h2 n hn).1, up n (h2 n hn).2⟩
  · by_cases e : n = s
    · exact e ▸ hC
    · rw [pk_un e] at q
      exact h3 n hn q
  · have ns : n ≠ s := fun z => w (List.mem_cons.mpr (Or.inl z))
    rw [pk_un ns] at q
    exact up k (h4 n hn q (fun z => w (List.mem_cons_of_mem _ z)) x k hk e)
  · simp only [List.length_cons]
    omega
  · unfold gy_mu
    simp only [List.length_cons]
    omega
theorem gy_RI_pop {E : Nat → Nat → Prop} {C : Nat → Prop} {a n : Nat} {st : List Nat} {rb : Nat → Int32} (h : gy_RI E C a (n :: st) rb (fun _ => False)) : gy_RI E C a st rb (fun m => m = n) ∧ gy_mu st rb < gy_mu (n :: st) rb := by
  obtain ⟨h1, h2, h3, h4, h5, h6⟩ := h
  simp only [List.length_cons] at h6
  refine ⟨⟨h1, fun m hm => h2 m (List.mem_cons_of_mem _ hm), h3, fun m hm q w x k hk e => h4 m hm q (fun z => ?_) id k hk e, h5, by omega⟩, ?_⟩
  · rcases List.mem_cons.mp z with z | z
    · exact x z
    · exact w z
  · unfold gy_mu
    simp only [List.length_cons]
    omega
/-- the inner walk of reach over the successors of n -/
theorem gy_reach_72 {post : SY → Prop} {J46 : Int32 → (Nat → Int32) → (Nat → Int32) → (Nat → Int32) → (Nat → Int32) → (Nat → Int32) → (Nat → Int32) → (Nat → Int32) → (Nat → Int32) → (Nat → Int32) → (Nat → Int32) → (Nat → Int32) → (Nat → Int32) → (Nat → Int32) → (Nat → Int32) → (Nat → Int32) → (Nat → Int32) → (Nat → Int32) → Prop} {w : Int32} {W : Nat → Prop} {a n : Nat} {st : List Nat} {rb td : Nat → Int32} (GE : gy_GE ek ev ex ey a_endKind a_endV a_endX a_endY) (hW : ∀ x, x < 16 → (nI x = w ↔ W x)) (hn : n < 16) (hr : rb n = 1) (hc : gs_W ek ex ey W a n) (h0 : gy_RI (fun j k => gs_E ek ex ey j k ∧ ¬ W k) (gs_W ek ex ey W a) a st rb (fun m => m = n)) (hst : gs_st td st)
    (h : ∀ st' rb' td', gy_RI (fun j k => gs_E ek ex ey j k ∧ ¬ W k) (gs_W ek ex ey W a) a st' rb' (fun _ => False) → gs_st td' st' → gy_mu st' rb' ≤ gy_mu st rb → J46 (nI st'.length) a_actKind a_actV a_actC a_endKind a_endV a_endX a_endY a_number a_before a_behind rb' td' a_words a_coming a_values a_told a_variables) : ∃ m, wY_reach_72 post J46 w (nI n) (nI (gs_af ek ex ey n)) f_fresh f_many f_tells f_last f_runs f_stopped m (nI st.length) 0 a_actKind a_actV a_actC a_endKind a_endV a_endX a_endY a_number a_before a_behind rb td a_words a_coming a_values a_told a_variables := by
  have hx := GE.2.1
  have hy := GE.2.2.1
  have af2 := gs_af_le ek ex ey n
  refine pk_loop (fun m i (s : List Nat × (Nat → Int32) × (Nat → Int32)) => wY_reach_72 post J46 w (nI n) (nI (gs_af ek ex ey n)) f_fresh f_many f_tells f_last f_runs f_stopped m (nI s.1.length) (nI i) a_actKind a_actV a_actC a_endKind a_endV a_endX a_endY a_number a_before a_behind s.2.1 s.2.2 a_words a_coming a_values a_told a_variables) (fun i s => gy_RI (fun j k => gs_E ek ex ey j k ∧ ¬ W k) (gs_W ek ex ey W a) a s.1 s.2.1 (fun m => m = n) ∧ gs_st s.2.2 s.1 ∧ gy_mu s.1 s.2.1 ≤ gy_mu st rb ∧ ∀ k, k < i → ¬ W (gs_ns ex ey n k) → s.2.1 (gs_ns ex ey n k) = 1) (gs_af ek ex ey n) 0 (st, rb, td) (by omega) ⟨h0, hst, Nat.le_refl _, fun k hk => absurd hk (Nat.not_lt_zero k)⟩ ?_ ?_
  · rintro m ⟨st1, rb1, td1⟩ ⟨⟨r1, r2, r3, r4, r5, r6⟩, q2, q3, q4⟩
    refine br_t (nI_le (Nat.le_refl _) (by omega)) (h _ _ _ ⟨r1, r2, r3, fun p hp z1 z2 z3 k hk e => ?_, r5, r6⟩ q2 q3)
    by_cases e1 : p = n
    · subst e1
      obtain ⟨k', k1, k2⟩ := (gs_E_af ek ex ey GE.1).mp e.1
      subst k2
      exact q4 k' k1 e.2
    · exact r4 p hp z1 z2 e1 k hk e
  · rintro m i ⟨st1, rb1, td1⟩ hi ⟨q1, q2, q3, q4⟩ ih
    dsimp only at q1 q2 q3 q4
    have s16 := gs_ns_lt hx hy n i
    refine br_f (nI_ge hi (by omega)) (gy_succ GE hn hi (br_c (fun z => ?_) (fun z => ⟨gx_in s16, ?_⟩)))
    · have zW := (hW _ s16).mp z
      refine nm_r (nI_1 i) (ih (st1, rb1, td1) ⟨q1, q2, q3, fun k hk x => ?_⟩)
      by_cases e : k = i
      · subst e
        exact absurd zW x
      · exact q4 k (by omega) x
    · have zW : ¬ W (gs_ns ex ey n i) := fun y => z ((hW _ s16).mpr y)
      have hE : gs_E ek ex ey n (gs_ns ex ey n i) := (gs_E_af ek ex ey GE.1).mpr ⟨i, hi, rfl⟩
      dsimp only
      rw [gx_cl s16]
      refine br_c (fun y => ?_) (fun y => ?_)
      · have pu := gy_RI_push q1 s16 y (gs_cl_s hc ⟨hE, zW⟩)
        have cl := pu.1.2.2.2.2.2
        have le := gs_cn_le (fun p => decide (upd rb1 (gs_ns ex ey n i) 1 p = 1)) 16
        simp only [List.length_cons] at cl
        refine ⟨gx_in s16, nm_r (e' := upd rb1 (gs_ns ex ey n i) 1) rfl (nm_r (nI_1 _) ⟨vp_in_nI (by omega) (by decide), nm_r (e' := upd td1 st1.length (nI (gs_ns ex ey n i))) (by rw [nI_clamp (by omega)]) (nm_r (nI_1 i) (ih (gs_ns ex ey n i :: st1, upd rb1 (gs_ns ex ey n i) 1, upd td1 st1.length (nI (gs_ns ex ey n i))) ⟨pu.1, gs_st_push q2, by have := pu.2; dsimp only; omega, fun k hk x => ?_⟩))⟩)⟩
        by_cases e : gs_ns ex ey n k = gs_ns ex ey n i
        · dsimp only
          rw [e]
          exact pk_us
        · have : k ≠ i := fun z => e (by rw [z])
          exact (pk_un e).trans (q4 k (by omega) x)
      · refine nm_r (nI_1 i) (ih (st1, rb1, td1) ⟨q1, q2, q3, fun k hk x => ?_⟩)
        by_cases e : k = i
        · subst e
          exact (q1.1 _ s16).resolve_left y
        · exact q4 k (by omega) x
theorem gy_reach {post : SY → Prop} {w : Int32} {W : Nat → Prop} {a : Nat} (GE : gy_GE ek ev ex ey a_endKind a_endV a_endX a_endY) (hW : ∀ x, x < 16 → (nI x = w ↔ W x)) (ha : a < 16)
    (h : ∀ rb td, (∀ n, n < 16 → (rb n = 1 ∧ gs_W ek ex ey W a n) ∨ (rb n = 0 ∧ ¬ gs_W ek ex ey W a n)) → post (f_fresh, f_many, f_tells, f_last, f_runs, f_stopped, a_actKind, a_actV, a_actC, a_endKind, a_endV, a_endX, a_endY, a_number, a_before, a_behind, rb, td, a_words, a_coming, a_values, a_told, a_variables)) : wpY_reach post (f_fresh, f_many, f_tells, f_last, f_runs, f_stopped, a_actKind, a_actV, a_actC, a_endKind, a_endV, a_endX, a_endY, a_number, a_before, a_behind, a_reached, a_todo, a_words, a_coming, a_values, a_told, a_variables) (nI a) w := by
  have hx := GE.2.1
  have hy := GE.2.2.1
  refine pk_loop (fun m i (s : Nat → Int32) => wY_reach_2 post (nI a) w f_fresh f_many f_tells f_last f_runs f_stopped m (nI i) a_actKind a_actV a_actC a_endKind a_endV a_endX a_endY a_number a_before a_behind s a_todo a_words a_coming a_values a_told a_variables) (fun i s => ∀ j, j < i → s j = 0) 16 0 a_reached (by omega) (fun j hj => absurd hj (Nat.not_lt_zero j)) ?_ ?_
  · rintro m s0 hI0
    refine br_t gx_x16 (br_c (fun z => ?_) (fun z => ?_))
    · have zW := (hW a ha).mp z
      exact h s0 a_todo (fun n hn => Or.inr ⟨hI0 n hn, fun q => gs_W_a q zW⟩)
    · have zW : ¬ W a := fun y => z ((hW a ha).mpr y)
      refine nm_r (e' := nI 1) rfl (nm_e ⟨gx_in ha, nm_r (e' := upd s0 a 1) (by rw [gx_cl ha]; rfl) ?_⟩)
      have c1 := gs_cn_pos (P := fun n => decide (upd s0 a 1 n = 1)) (i := a) 16 ha (by rw [pk_us]; rfl)
      refine loop_m (fun m (s : List Nat × (Nat → Int32) × (Nat → Int32)) => wY_reach_46 post w f_fresh f_many f_tells f_last f_runs f_stopped m (nI s.1.length) a_actKind a_actV a_actC a_endKind a_endV a_endX a_endY a_number a_before a_behind s.2.1 s.2.2 a_words a_coming a_values a_told a_variables) (fun s => gy_RI (fun j k => gs_E ek ex ey j k ∧ ¬ W k) (gs_W ek ex ey W a) a s.1 s.2.1 (fun _ => False) ∧ gs_st s.2.2 s.1) (fun s => gy_mu s.1 s.2.1) ?_ ([a], upd s0 a 1, upd a_todo 0 (nI a)) ?_
      · rintro m ⟨st, rb, td⟩ ⟨q1, q2⟩ ih
        dsimp only at q1 q2
        cases st with
        | nil =>
          refine br_t (show nI 0 ≤ (0 : Int32) by decide) (h rb td (fun n hn => ?_))
          obtain ⟨r1, r2, r3, r4, r5, r6⟩ := q1
          have cls : ∀ n, gs_W ek ex ey W a n → n < 16 ∧ rb n = 1 := by
            intro n hw
            refine gs_cl_i hw (fun n => n < 16 ∧ rb n = 1) ?_ ?_
            · rintro j ⟨rfl, _⟩
              exact ⟨ha, r5⟩
            · rintro j k _ ⟨s1, s2⟩ ⟨e1, e2⟩
              have k16 := gs_E_lt ek ex ey hx hy e1
              exact ⟨k16, r4 j s1 s2 (fun z => nomatch z) id k k16 ⟨e1, e2⟩⟩
          rcases r1 n hn with y | y
          · exact Or.inr ⟨y, fun q => by rw [(cls n q).2] at y; exact absurd y (by decide)⟩
          · exact Or.inl ⟨y, r3 n hn y⟩
        | cons n st =>
          have len := q1.2.2.2.2.2
          have le := gs_cn_le (fun p => decide (rb p = 1)) 16
          simp only [List.length_cons] at len
          have hn := q1.2.1 n List.mem_cons_self
          have pp := gy_RI_pop q1
          refine br_f (nI_nle (by simp) (by simp only [List.length_cons]; omega)) (nm_r (e' := nI st.length) (pk_m1 _) ⟨vp_in_nI (by omega) (by decide), nm_r (e' := nI n) (by rw [nI_clamp (by omega)]; exact q2.1) (gy_after GE hn.1 ?_)⟩)
          refine gy_reach_72 GE hW hn.1 hn.2 (q1.2.2.1 n hn.1 hn.2) pp.1 q2.2 (fun st' rb' td' z1 z2 z3 => ih (st', rb', td') ⟨z1, z2⟩ ?_)
          have := pp.2
          have z3 : gy_mu st' rb' ≤ gy_mu st rb := z3
          dsimp only
          omega
      · refine ⟨⟨fun n hn => ?_, fun n hn => ?_, fun n hn q => ?_, fun n hn q x => ?_, pk_us, c1⟩, ⟨rfl, trivial⟩⟩
        · by_cases e : n = a
          · subst e
            exact Or.inr pk_us
          · exact Or.inl ((pk_un e).trans (hI0 n hn))
        · rcases List.mem_cons.mp hn with rfl | hn
          · exact ⟨ha, pk_us⟩
          · cases hn
        · by_cases e : n = a
          · subst e
            exact gs_W_r zW
          · have := (pk_un e).symm.trans q
            rw [hI0 n hn] at this
            exact absurd this (by decide)
        · by_cases e : n = a
          · subst e
            exact absurd List.mem_cons_self x
          · have := (pk_un e).symm.trans q
            rw [hI0 n hn] at this
            exact absurd this (by decide)
  · rintro m i s hi hI ih
    refine br_f (gx_16 hi) ⟨gx_in hi, nm_r (e' := upd s i 0) (by rw [gx_cl hi]; rfl) (nm_r (nI_1 i) (ih _ (fun j hj => ?_)))⟩
    by_cases e : j = i
    · subst e
      exact pk_us
    · exact (pk_un e).trans (hI j (by omega))
theorem gy_stops {post : Int32 → SY → Prop} {w : Int32} {W : Nat → Prop} {a : Nat} (GE : gy_GE ek ev ex ey a_endKind a_endV a_endX a_endY) (hW : ∀ x, x < 16 → (nI x = w ↔ W x)) (ha : a < 16)
    (h : ∀ r rb td, (r = 1 ∧ gs_Sp ek ex ey W a) ∨ (r = 0 ∧ ¬ gs_Sp ek ex ey W a) → post r (f_fresh, f_many, f_tells, f_last, f_runs, f_stopped, a_actKind, a_actV, a_actC, a_endKind, a_endV, a_endX, a_endY, a_number, a_before, a_behind, rb, td, a_words, a_coming, a_values, a_told, a_variables)) : wpY_stops post (f_fresh, f_many, f_tells, f_last, f_runs, f_stopped, a_actKind, a_actV, a_actC, a_endKind, a_endV, a_endX, a_endY, a_number, a_before, a_behind, a_reached, a_todo, a_words, a_coming, a_values, a_told, a_variables) (nI a) w := by
  have hx := GE.2.1
  have hy := GE.2.2.1
  unfold wpY_stops
  refine gy_reach GE hW ha (fun rb td hr => ?_)
  have E16 : ∀ n, gs_W ek ex ey W a n → n < 16 := fun n hw => gs_cl_i hw (fun n => n < 16) (fun j e => e.1 ▸ ha) (fun _ _ _ _ e => gs_E_lt ek ex ey hx hy e.1)
  refine pk_loop (fun m i (_ : Unit) => wY_stops_8 post f_fresh f_many f_tells f_last f_runs f_stopped a_actKind a_actV a_actC a_endKind a_endV a_endX a_endY a_number a_before a_behind rb td a_words a_coming a_values a_told a_variables m (nI i)) (fun i _ => ∀ n, n < i → ¬ (gs_W ek ex ey W a n ∧ ek n = 0)) 16 0 () (by omega) (fun j hj => absurd hj (Nat.not_lt_zero j)) ?_ ?_
  · rintro m _ hI
    exact br_t gx_x16 (h 0 rb td (Or.inr ⟨rfl, fun ⟨n, q1, q2⟩ => hI n (E16 n q1) ⟨q1, q2⟩⟩))
  · rintro m i _ hi hI ih
    have up : ¬ (gs_W ek ex ey W a i ∧ ek i = 0) → ∀ n, n < i + 1 → ¬ (gs_W ek ex ey W a n ∧ ek n = 0) := fun q n hn => by
      by_cases e : n = i
      · exact e ▸ q
      · exact hI n (by omega)
    have k2 := GE.1 i
    have e0 : (a_endKind (nI i).toNatClampNeg = 0) ↔ ek i = 0 := by
      rw [gx_cl hi, GE.2.2.2.2.1]
      exact nI_eq (b := 0) (by omega) (by decide)
    refine br_f (gx_16 hi) ⟨gx_in hi, ?_⟩
    rw [gx_cl hi]
    have e0 : (a_endKind i = 0) ↔ ek i = 0 := by
      rw [← e0, gx_cl hi]
    rcases hr i hi with ⟨z1, z2⟩ | ⟨z1, z2⟩
    · rw [z1]
      exact br_f (by decide) ⟨gx_in hi, br_c (fun y => h 1 rb td (Or.inl ⟨rfl, i, z2, e0.mp y⟩)) (fun y => nm_r (nI_1 i) (ih () (up (fun q => y (e0.mpr q.2)))))⟩
    · rw [z1]
      exact br_t rfl (nm_r (nI_1 i) (ih () (up (fun q => z2 q.1))))
end
end
section
/-! Y: know -/
def gy_M (a : Nat → Int32) (P : Nat → Nat → Prop) (d n : Nat) : Prop := (a (16 * d + n) = 1 ∧ P d n) ∨ (a (16 * d + n) = 0 ∧ ¬ P d n)
theorem gy_M_upd {a : Nat → Int32} {P : Nat → Nat → Prop} {d n d' n' : Nat} {v : Int32} (hn : n < 16) (hn' : n' < 16) (hne : ¬ (d' = d ∧ n' = n)) (h : gy_M a P d' n') : gy_M (upd a (16 * d + n) v) P d' n' := by
  unfold gy_M
  rw [pk_un (by omega)]
  exact h
theorem gy_M_put {a : Nat → Int32} {P : Nat → Nat → Prop} {d n : Nat} {v : Int32} (h : (v = 1 ∧ P d n) ∨ (v = 0 ∧ ¬ P d n)) : gy_M (upd a (16 * d + n) v) P d n := by
  unfold gy_M
  rw [pk_us]
  exact h
theorem gy_ix (d n : Nat) : 16 * nI d + nI n = nI (16 * d + n) := by
  rw [show (16 : Int32) = nI 16 from rfl, pk_mul, nI_add]
section
variable (ek ex ey : Nat → Nat)
def gy_VY (a_number a_before a_behind : Nat → Int32) : Prop := gy_NU ek ex ey a_number ∧ (∀ d, d < 16 → ∀ n, n < 16 → gy_M a_before (gs_bf ek ex ey) d n) ∧ (∀ d, d < 16 → ∀ n, n < 16 → gy_M a_behind (gs_bh ek ex ey) d n)
end
section
variable {f_fresh f_many f_tells f_last f_runs f_stopped : Int32} {a_actKind a_actV a_actC a_endKind a_endV a_endX a_endY a_number a_before a_behind a_reached a_todo a_words a_coming a_values a_told a_variables : Nat → Int32} {ek ex ey ak av ac ev : Nat → Nat}
theorem gy_know_33 {post : SY → Prop} {J19 : Int32 → Int32 → Int32 → Int32 → Int32 → Int32 → Int32 → (Nat → Int32) → (Nat → Int32) → (Nat → Int32) → (Nat → Int32) → (Nat → Int32) → (Nat → Int32) → (Nat → Int32) → (Nat → Int32) → (Nat → Int32) → (Nat → Int32) → (Nat → Int32) → (Nat → Int32) → (Nat → Int32) → (Nat → Int32) → (Nat → Int32) → (Nat → Int32) → (Nat → Int32) → Prop} {d : Nat} {be : Nat → Int32} (hx : ∀ n, ex n < 16) (hy : ∀ n, ey n < 16) (hN : gy_NU ek ex ey a_number) (hd : d < 16) (hr : ∀ n, n < 16 → (a_reached n = 1 ∧ gs_W ek ex ey (fun x => x = d) 0 n) ∨ (a_reached n = 0 ∧ ¬ gs_W ek ex ey (fun x => x = d) 0 n)) (h0 : ∀ d', d' < d → ∀ n, n < 16 → gy_M be (gs_bf ek ex ey) d' n)
    (h : ∀ be', (∀ d', d' < d + 1 → ∀ n, n < 16 → gy_M be' (gs_bf ek ex ey) d' n) → J19 (nI (d + 1)) f_fresh f_many f_tells f_last f_runs f_stopped a_actKind a_actV a_actC a_endKind a_endV a_endX a_endY a_number be' a_behind a_reached a_todo a_words a_coming a_values a_told a_variables) : ∃ m, wY_know_33 post J19 (nI d) f_fresh f_many f_tells f_last f_runs f_stopped m 0 a_actKind a_actV a_actC a_endKind a_endV a_endX a_endY a_number be a_behind a_reached a_todo a_words a_coming a_values a_told a_variables := by
  refine pk_loop (fun m i (s : Nat → Int32) => wY_know_33 post J19 (nI d) f_fresh f_many f_tells f_last f_runs f_stopped m (nI i) a_actKind a_actV a_actC a_endKind a_endV a_endX a_endY a_number s a_behind a_reached a_todo a_words a_coming a_values a_told a_variables) (fun i s => (∀ d', d' < d → ∀ n, n < 16 → gy_M s (gs_bf ek ex ey) d' n) ∧ ∀ n, n < i → gy_M s (gs_bf ek ex ey) d n) 16 0 be (by omega) ⟨h0, fun n hn => absurd hn (Nat.not_lt_zero n)⟩ ?_ ?_
  · rintro m s ⟨q1, q2⟩
    refine br_t gx_x16 (nm_r (nI_1 d) (h s (fun d' hd' n hn => ?_)))
    by_cases e : d' = d
    · subst e
      exact q2 n hn
    · exact q1 d' (by omega) n hn
  · rintro m i s hi ⟨q1, q2⟩ ih
    have put : ∀ v, (v = 1 ∧ gs_bf ek ex ey d i) ∨ (v = 0 ∧ ¬ gs_bf ek ex ey d i) → wY_know_33 post J19 (nI d) f_fresh f_many f_tells f_last f_runs f_stopped m (nI (i + 1)) a_actKind a_actV a_actC a_endKind a_endV a_endX a_endY a_number (upd s (16 * d + i) v) a_behind a_reached a_todo a_words a_coming a_values a_told a_variables := by
      intro v hv
      refine ih _ ⟨fun d' hd' n hn => gy_M_upd hi hn (by omega) (q1 d' hd' n hn), fun n hn => ?_⟩
      by_cases e : n = i
      · subst e
        exact gy_M_put hv
      · exact gy_M_upd hi (by omega) (by omega) (q2 n (by omega))
    have inn : vp_in (16 * nI d + nI i) 256 := by rw [gy_ix]; exact vp_in_nI (by omega) (by decide)
    have cl : (16 * nI d + nI i).toNatClampNeg = 16 * d + i := by rw [gy_ix]; exact nI_clamp (by omega)
    refine br_f (gx_16 hi) (gy_sn hx hy hN hd (fun sd => gy_sn hx hy hN hi (fun si => ?_) (fun si => ?_)) (fun sd => ?_))
    · refine pk_eq i d (fun e => ⟨inn, nm_r (e' := upd s (16 * d + i) 1) (by rw [cl]; rfl) (nm_r (nI_1 i) (put 1 (Or.inl ⟨rfl, e ▸ gs_bf_refl si⟩)))⟩) (fun e => ⟨gx_in hi, ?_⟩)
      rw [gx_cl hi]
      rcases hr i hi with ⟨z1, z2⟩ | ⟨z1, z2⟩
      · rw [z1]
        exact br_f (by decide) ⟨inn, nm_r (e' := upd s (16 * d + i) 0) (by rw [cl]; rfl) (nm_r (nI_1 i) (put 0 (Or.inr ⟨rfl, fun q => q.2 z2⟩)))⟩
      · rw [z1]
        exact br_t rfl ⟨inn, nm_r (e' := upd s (16 * d + i) 1) (by rw [cl]; rfl) (nm_r (nI_1 i) (put 1 (Or.inl ⟨rfl, si, z2⟩)))⟩
    · exact ⟨inn, nm_r (e' := upd s (16 * d + i) 0) (by rw [cl]; rfl) (nm_r (nI_1 i) (put 0 (Or.inr ⟨rfl, fun q => si q.1⟩)))⟩
    · exact ⟨inn, nm_r (e' := upd s (16 * d + i) 0) (by rw [cl]; rfl) (nm_r (nI_1 i) (put 0 (Or.inr ⟨rfl, fun q => sd (gs_bf_sn hx hy q)⟩)))⟩
theorem gy_know_130 {post : SY → Prop} {J99 : Int32 → Int32 → Int32 → Int32 → Int32 → Int32 → Int32 → (Nat → Int32) → (Nat → Int32) → (Nat → Int32) → (Nat → Int32) → (Nat → Int32) → (Nat → Int32) → (Nat → Int32) → (Nat → Int32) → (Nat → Int32) → (Nat → Int32) → (Nat → Int32) → (Nat → Int32) → (Nat → Int32) → (Nat → Int32) → (Nat → Int32) → (Nat → Int32) → (Nat → Int32) → Prop} {n : Nat} {x2 : Int32} (GE : gy_GE ek ev ex ey a_endKind a_endV a_endX a_endY) (hN : gy_NU ek ex ey a_number) (hn : n < 16) (ha : (x2 = 1 ∧ gs_sn ek ex ey n = true ∧ gs_Sp ek ex ey (fun _ => False) n) ∨ (x2 = 0 ∧ ¬ (gs_sn ek ex ey n = true ∧ gs_Sp ek ex ey (fun _ => False) n))) (h0 : ∀ d, d < 16 → ∀ n', n' < n → gy_M a_behind (gs_bh ek ex ey) d n')
    (h : ∀ bh re td, (∀ d, d < 16 → ∀ n', n' < n + 1 → gy_M bh (gs_bh ek ex ey) d n') → J99 (nI (n + 1)) f_fresh f_many f_tells f_last f_runs f_stopped a_actKind a_actV a_actC a_endKind a_endV a_endX a_endY a_number a_before bh re td a_words a_coming a_values a_told a_variables) : ∃ m, wY_know_130 post J99 (nI n) x2 m 0 f_fresh f_many f_tells f_last f_runs f_stopped a_actKind a_actV a_actC a_endKind a_endV a_endX a_endY a_number a_before a_behind a_reached a_todo a_words a_coming a_values a_told a_variables := by
  have hx := GE.2.1
  have hy := GE.2.2.1
  refine pk_loop (fun m i (s : (Nat → Int32) × (Nat → Int32) × (Nat → Int32)) => wY_know_130 post J99 (nI n) x2 m (nI i) f_fresh f_many f_tells f_last f_runs f_stopped a_actKind a_actV a_actC a_endKind a_endV a_endX a_endY a_number a_before s.1 s.2.1 s.2.2 a_words a_coming a_values a_told a_variables) (fun i s => (∀ d, d < 16 → ∀ n', n' < n → gy_M s.1 (gs_bh ek ex ey) d n') ∧ ∀ d, d < i → gy_M s.1 (gs_bh ek ex ey) d n) 16 0 (a_behind, a_reached, a_todo) (by omega) ⟨h0, fun n hn => absurd hn (Nat.not_lt_zero n)⟩ ?_ ?_
  · rintro m s ⟨q1, q2⟩
    refine br_t gx_x16 (nm_r (nI_1 n) (h _ _ _ (fun d hd n' hn' => ?_)))
    by_cases e : n' = n
    · subst e
      exact q2 d hd
    · exact q1 d hd n' (by omega)
  · rintro m i ⟨s1, s2, s3⟩ hi ⟨q1, q2⟩ ih
    dsimp only at q1 q2
    have put : ∀ v re td, (v = 1 ∧ gs_bh ek ex ey i n) ∨ (v = 0 ∧ ¬ gs_bh ek ex ey i n) → wY_know_130 post J99 (nI n) x2 m (nI (i + 1)) f_fresh f_many f_tells f_last f_runs f_stopped a_actKind a_actV a_actC a_endKind a_endV a_endX a_endY a_number a_before (upd s1 (16 * i + n) v) re td a_words a_coming a_values a_told a_variables := by
      intro v re td hv
      refine ih (upd s1 (16 * i + n) v, re, td) ⟨fun d hd n' hn' => gy_M_upd hn (by omega) (by omega) (q1 d hd n' hn'), fun d hd => ?_⟩
      by_cases e : d = i
      · subst e
        exact gy_M_put hv
      · exact gy_M_upd hn hn (by omega) (q2 d (by omega))
    have inn : vp_in (16 * nI i + nI n) 256 := by rw [gy_ix]; exact vp_in_nI (by omega) (by decide)
    have cl : (16 * nI i + nI n).toNatClampNeg = 16 * i + n := by rw [gy_ix]; exact nI_clamp (by omega)
    refine br_f (gx_16 hi) ?_
    rcases ha with ⟨a1, a2, a3⟩ | ⟨a1, a2⟩
    · refine br_f (by rw [a1]; decide) (gy_sn hx hy hN hi (fun si => ?_) (fun si => ?_))
      · refine pk_eq n i (fun e => ⟨inn, nm_r (e' := upd s1 (16 * i + n) 1) (by dsimp only; rw [cl]; rfl) (nm_r (nI_1 i) (put 1 s2 s3 (Or.inl ⟨rfl, a2, a3, ?_⟩)))⟩) (fun e => ?_)
        · rintro ⟨q, w1, _⟩
          exact gs_W_a w1 e
        · refine gy_stops (W := fun x => x = i) GE (fun x hx' => nI_eq (by omega) (by omega)) hn (fun r rb td hr => ?_)
          rcases hr with ⟨z1, z2⟩ | ⟨z1, z2⟩
          · rw [z1]
            exact br_f (by decide) ⟨inn, nm_r (e' := upd s1 (16 * i + n) 0) (by rw [cl]; rfl) (nm_r (nI_1 i) (put 0 rb td (Or.inr ⟨rfl, fun q => q.2.2 z2⟩)))⟩
          · rw [z1]
            exact br_t rfl ⟨inn, nm_r (e' := upd s1 (16 * i + n) 1) (by rw [cl]; rfl) (nm_r (nI_1 i) (put 1 rb td (Or.inl ⟨rfl, a2, a3, z2⟩)))⟩
      · exact ⟨inn, nm_r (e' := upd s1 (16 * i + n) 0) (by dsimp only; rw [cl]; rfl) (nm_r (nI_1 i) (put 0 s2 s3 (Or.inr ⟨rfl, fun q => si (gs_bh_sn hx hy q)⟩)))⟩
    · refine br_t a1 ⟨inn, nm_r (e' := upd s1 (16 * i + n) 0) (by dsimp only; rw [cl]; rfl) (nm_r (nI_1 i) (put 0 s2 s3 (Or.inr ⟨rfl, fun q => a2 ⟨q.1, q.2.1⟩⟩)))⟩
theorem gy_know {post : SY → Prop} (GE : gy_GE ek ev ex ey a_endKind a_endV a_endX a_endY) (V : ¬ f_fresh = 0 → gy_VY ek ex ey a_number a_before a_behind)
    (h : ∀ f_fresh a_number a_before a_behind a_reached a_todo a_words, ¬ f_fresh = 0 → gy_VY ek ex ey a_number a_before a_behind → post (f_fresh, f_many, f_tells, f_last, f_runs, f_stopped, a_actKind, a_actV, a_actC, a_endKind, a_endV, a_endX, a_endY, a_number, a_before, a_behind, a_reached, a_todo, a_words, a_coming, a_values, a_told, a_variables)) : wpY_know post (f_fresh, f_many, f_tells, f_last, f_runs, f_stopped, a_actKind, a_actV, a_actC, a_endKind, a_endV, a_endX, a_endY, a_number, a_before, a_behind, a_reached, a_todo, a_words, a_coming, a_values, a_told, a_variables) := by
  have hx := GE.2.1
  have hy := GE.2.2.1
  refine br_c (fun z => ?_) (fun z => h _ _ _ _ _ _ _ z (V z))
  refine gy_numbers GE (fun nu re td wo hN => ?_)
  refine pk_loop (fun m i (s : (Nat → Int32) × (Nat → Int32) × (Nat → Int32)) => wY_know_19 post m (nI i) 1 f_many f_tells f_last f_runs f_stopped a_actKind a_actV a_actC a_endKind a_endV a_endX a_endY nu s.1 a_behind s.2.1 s.2.2 wo a_coming a_values a_told a_variables) (fun i s => ∀ d, d < i → ∀ n, n < 16 → gy_M s.1 (gs_bf ek ex ey) d n) 16 0 (a_before, re, td) (by omega) (fun n hn => absurd hn (Nat.not_lt_zero n)) ?_ ?_
  · rintro m ⟨be, re, td⟩ hB
    dsimp only at hB
    refine br_t gx_x16 ?_
    refine pk_loop (fun m i (s : (Nat → Int32) × (Nat → Int32) × (Nat → Int32)) => wY_know_99 post m (nI i) 1 f_many f_tells f_last f_runs f_stopped a_actKind a_actV a_actC a_endKind a_endV a_endX a_endY nu be s.1 s.2.1 s.2.2 wo a_coming a_values a_told a_variables) (fun i s => ∀ d, d < 16 → ∀ n, n < i → gy_M s.1 (gs_bh ek ex ey) d n) 16 0 (a_behind, re, td) (by omega) (fun d _ n hn => absurd hn (Nat.not_lt_zero n)) ?_ ?_
    · rintro m ⟨bh, re, td⟩ hBh
      exact br_t gx_x16 (h _ _ _ _ _ _ _ (by decide) ⟨hN, hB, hBh⟩)
    · rintro m i ⟨bh, re, td⟩ hi hBh ih
      dsimp only at hBh
      refine br_f (gx_16 hi) (gy_sn hx hy hN hi (fun si => ?_) (fun si => ?_))
      · refine gy_stops (W := fun _ => False) GE (fun x hx' => ⟨fun q => gx_ne1 hx' q, fun q => q.elim⟩) hi (fun r rb td hr => ?_)
        rcases hr with ⟨z1, z2⟩ | ⟨z1, z2⟩
        · rw [z1]
          exact br_f (by decide) (gy_know_130 GE hN hi (Or.inl ⟨rfl, si, z2⟩) hBh (fun bh' re' td' hb => ih (bh', re', td') hb))
        · rw [z1]
          exact br_t rfl (gy_know_130 GE hN hi (Or.inr ⟨rfl, fun q => z2 q.2⟩) hBh (fun bh' re' td' hb => ih (bh', re', td') hb))
      · exact gy_know_130 GE hN hi (Or.inr ⟨rfl, fun q => si q.1⟩) hBh (fun bh' re' td' hb => ih (bh', re', td') hb)
  · rintro m i ⟨be, re, td⟩ hi hB ih
    dsimp only at hB
    refine br_f (gx_16 hi) (gy_reach (a := 0) (W := fun x => x = i) GE (fun x hx' => nI_eq (by omega) (by omega)) (by omega) (fun rb td' hr => ?_))
    exact gy_know_33 hx hy hN hi hr hB (fun be' hb => ih (be', rb, td') hb)
end
end
section
/-! Y: the questions of the graph -/
theorem gs_has1 (m : Int32) {s : Nat} (hs : s < 32) (h : bt m s = true) : ((m >>> (nI s &&& 31)) &&& 1) = 1 := by
  apply b_ext
  intro i hi
  rw [b_and, gs_one, b_sshr s hs m hi]
  by_cases z : i = 0
  · subst z
    simp only [Nat.add_zero, hs, if_true, h, decide_true, Bool.and_true]
  · rw [decide_eq_false z, Bool.and_false]
theorem gy_bit {m : Int32} {P : Nat → Prop} {s : Nat} (hM : gs_Mk m P) (hs : s < 16) : (P s ∧ ((m >>> (nI s &&& 31)) &&& 1) = 1) ∨ (¬ P s ∧ ((m >>> (nI s &&& 31)) &&& 1) = 0) := by
  by_cases z : P s
  · exact Or.inl ⟨z, gs_has1 m (by omega) ((gs_Mk_t hM hs).mpr z)⟩
  · exact Or.inr ⟨z, (gs_Mk_has hM hs).mpr z⟩
section
variable (ak av ac ek ev ex ey : Nat → Nat)
def gy_RY (v : SY) : Prop := match v with
  | (f_fresh, f_many, f_tells, f_last, f_runs, f_stopped, a_actKind, a_actV, a_actC, a_endKind, a_endV, a_endX, a_endY, a_number, a_before, a_behind, a_reached, a_todo, a_words, a_coming, a_values, a_told, a_variables) => gy_GE ek ev ex ey a_endKind a_endV a_endX a_endY ∧ gy_GA ak av ac a_actKind a_actV a_actC ∧ (¬ f_fresh = 0 → gy_VY ek ex ey a_number a_before a_behind)
end
def gy_run (v : SY) : Int32 × Int32 × Int32 × Int32 × (Nat → Int32) × (Nat → Int32) := match v with
  | (f_fresh, f_many, f_tells, f_last, f_runs, f_stopped, a_actKind, a_actV, a_actC, a_endKind, a_endV, a_endX, a_endY, a_number, a_before, a_behind, a_reached, a_todo, a_words, a_coming, a_values, a_told, a_variables) => (f_runs, f_tells, f_last, f_stopped, a_variables, a_told)
section
variable {f_fresh f_many f_tells f_last f_runs f_stopped : Int32} {a_actKind a_actV a_actC a_endKind a_endV a_endX a_endY a_number a_before a_behind a_reached a_todo a_words a_coming a_values a_told a_variables : Nat → Int32} {ek ex ey ak av ac ev : Nat → Nat}
theorem gy_isBefore {A B : Prop} {d n : Nat} (hd : d < 16) (hn : n < 16) (hB : ∀ d, d < 16 → ∀ n, n < 16 → gy_M a_before (gs_bf ek ex ey) d n) (ht : gs_bf ek ex ey d n → B) (hf : ¬ gs_bf ek ex ey d n → A) : wpY_isBefore (fun r => (r = 0 → A) ∧ (¬ r = 0 → B)) (f_fresh, f_many, f_tells, f_last, f_runs, f_stopped, a_actKind, a_actV, a_actC, a_endKind, a_endV, a_endX, a_endY, a_number, a_before, a_behind, a_reached, a_todo, a_words, a_coming, a_values, a_told, a_variables) (nI d) (nI n) := by
  unfold wpY_isBefore
  rw [gy_ix, nI_clamp (by omega)]
  refine ⟨vp_in_nI (by omega) (by decide), ?_⟩
  rcases hB d hd n hn with ⟨z1, z2⟩ | ⟨z1, z2⟩
  · rw [z1]
    exact ⟨rfl, br_f (by decide) (ht z2)⟩
  · rw [z1]
    exact ⟨rfl, br_t rfl (hf z2)⟩
theorem gy_nearBefore {post : Int32 → Prop} {n : Nat} (hn : n < 16) (hB : ∀ d, d < 16 → ∀ n, n < 16 → gy_M a_before (gs_bf ek ex ey) d n) (hR : ∀ d n, gs_bf ek ex ey d n → gs_bf ek ex ey d d) (h : ∀ r, gs_Fst r (gs_near (gs_bf ek ex ey) n) → post r) : wpY_nearest post (f_fresh, f_many, f_tells, f_last, f_runs, f_stopped, a_actKind, a_actV, a_actC, a_endKind, a_endV, a_endX, a_endY, a_number, a_before, a_behind, a_reached, a_todo, a_words, a_coming, a_values, a_told, a_variables) (nI n) 0 := by
  refine pk_loop (fun m i (_ : Unit) => wY_nearest_2 post (nI n) 0 f_fresh f_many f_tells f_last f_runs f_stopped a_actKind a_actV a_actC a_endKind a_endV a_endX a_endY a_number a_before a_behind a_reached a_todo a_words a_coming a_values a_told a_variables m (nI i)) (fun i _ => ∀ d, d < i → ¬ gs_near (gs_bf ek ex ey) n d) 16 0 () (by omega) (fun j hj => absurd hj (Nat.not_lt_zero j)) ?_ ?_
  · rintro m _ hI
    exact br_t gx_x16 (h _ (Or.inr ⟨rfl, hI⟩))
  · rintro m i _ hi hI ih
    have up : ¬ gs_near (gs_bf ek ex ey) n i → wY_nearest_2 post (nI n) 0 f_fresh f_many f_tells f_last f_runs f_stopped a_actKind a_actV a_actC a_endKind a_endV a_endX a_endY a_number a_before a_behind a_reached a_todo a_words a_coming a_values a_told a_variables m (nI (i + 1)) := fun q => ih () (fun d hd => by
      by_cases e : d = i
      · exact e ▸ q
      · exact hI d (by omega))
    refine br_f (gx_16 hi) (pk_eq i n (fun e => nm_r (nI_1 i) (up (fun q => q.1 e))) (fun e => ?_))
    have body : wpY_isBefore (fun r => (r = 0 → (∀ x : Int32, x = nI i + 1 → wY_nearest_2 post (nI n) 0 f_fresh f_many f_tells f_last f_runs f_stopped a_actKind a_actV a_actC a_endKind a_endV a_endX a_endY a_number a_before a_behind a_reached a_todo a_words a_coming a_values a_told a_variables m x)) ∧ (¬ r = 0 → (∃ n47 : Nat, wY_nearest_47 post (wY_nearest_2 post (nI n) 0 f_fresh f_many f_tells f_last f_runs f_stopped a_actKind a_actV a_actC a_endKind a_endV a_endX a_endY a_number a_before a_behind a_reached a_todo a_words a_coming a_values a_told a_variables m) (nI n) 0 (nI i) f_fresh f_many f_tells f_last f_runs f_stopped a_actKind a_actV a_actC a_endKind a_endV a_endX a_endY a_number a_before a_behind a_reached a_todo a_words a_coming a_values a_told a_variables n47 1 0))) (f_fresh, f_many, f_tells, f_last, f_runs, f_stopped, a_actKind, a_actV, a_actC, a_endKind, a_endV, a_endX, a_endY, a_number, a_before, a_behind, a_reached, a_todo, a_words, a_coming, a_values, a_told, a_variables) (nI i) (nI n) := by
      refine gy_isBefore hi hn hB (fun q => ?_) (fun q => nm_r (nI_1 i) (up (fun w => q w.2.1)))
      refine pk_loop (fun m' j (s : Int32) => wY_nearest_47 post (wY_nearest_2 post (nI n) 0 f_fresh f_many f_tells f_last f_runs f_stopped a_actKind a_actV a_actC a_endKind a_endV a_endX a_endY a_number a_before a_behind a_reached a_todo a_words a_coming a_values a_told a_variables m) (nI n) 0 (nI i) f_fresh f_many f_tells f_last f_runs f_stopped a_actKind a_actV a_actC a_endKind a_endV a_endX a_endY a_number a_before a_behind a_reached a_todo a_words a_coming a_values a_told a_variables m' s (nI j)) (fun j s => (s = 1 ∧ ∀ e, e < j → e ≠ n → e ≠ i → gs_bf ek ex ey e n → gs_bf ek ex ey e i) ∨ (s = 0 ∧ ∃ e, e < 16 ∧ e ≠ n ∧ gs_bf ek ex ey e n ∧ ¬ gs_bf ek ex ey e i)) 16 0 1 (by omega) (Or.inl ⟨rfl, fun e he => absurd he (Nat.not_lt_zero e)⟩) ?_ ?_
      · rintro m' s hS
        refine br_t gx_x16 ?_
        rcases hS with ⟨z1, z2⟩ | ⟨z1, f, z2, z3, z4, z5⟩
        · rw [z1]
          refine br_f (by decide) (h _ (Or.inl ⟨i, hi, rfl, ⟨e, q, fun f hf hfn hC => ?_⟩, hI⟩))
          by_cases fe : f = i
          · subst fe
            exact hR f n hC
          · exact z2 f hf hfn fe hC
        · rw [z1]
          exact br_t rfl (nm_r (nI_1 i) (up (fun w => z5 (w.2.2 f z2 z3 z4))))
      · rintro m' j s hj hS ihj
        have keep : (j ≠ n → j ≠ i → gs_bf ek ex ey j n → gs_bf ek ex ey j i) → wY_nearest_47 post (wY_nearest_2 post (nI n) 0 f_fresh f_many f_tells f_last f_runs f_stopped a_actKind a_actV a_actC a_endKind a_endV a_endX a_endY a_number a_before a_behind a_reached a_todo a_words a_coming a_values a_told a_variables m) (nI n) 0 (nI i) f_fresh f_many f_tells f_last f_runs f_stopped a_actKind a_actV a_actC a_endKind a_endV a_endX a_endY a_number a_before a_behind a_reached a_todo a_words a_coming a_values a_told a_variables m' s (nI (j + 1)) := fun w => ihj s (hS.imp (fun z => ⟨z.1, fun f hf y1 y2 y3 => by
          by_cases fe : f = j
          · subst fe
            exact w y1 y2 y3
          · exact z.2 f (by omega) y1 y2 y3⟩) id)
        refine br_f (gx_16 hj) (pk_eq j n (fun w => nm_r (nI_1 j) (keep (fun y => absurd w y))) (fun w1 => pk_eq j i (fun w => nm_r (nI_1 j) (keep (fun _ y => absurd w y))) (fun w2 => ?_)))
        have inner : wpY_isBefore (fun r => (r = 0 → wY_nearest_125 post (wY_nearest_2 post (nI n) 0 f_fresh f_many f_tells f_last f_runs f_stopped a_actKind a_actV a_actC a_endKind a_endV a_endX a_endY a_number a_before a_behind a_reached a_todo a_words a_coming a_values a_told a_variables m) (wY_nearest_47 post (wY_nearest_2 post (nI n) 0 f_fresh f_many f_tells f_last f_runs f_stopped a_actKind a_actV a_actC a_endKind a_endV a_endX a_endY a_number a_before a_behind a_reached a_todo a_words a_coming a_values a_told a_variables m) (nI n) 0 (nI i) f_fresh f_many f_tells f_last f_runs f_stopped a_actKind a_actV a_actC a_endKind a_endV a_endX a_endY a_number a_before a_behind a_reached a_todo a_words a_coming a_values a_told a_variables m') (nI n) 0 (nI i) s (nI j) f_fresh f_many f_tells f_last f_runs f_stopped a_actKind a_actV a_actC a_endKind a_endV a_endX a_endY a_number a_before a_behind a_reached a_todo a_words a_coming a_values a_told a_variables) ∧ (¬ r = 0 → wpY_isBefore (fun r => (r = 0 → wY_nearest_126 post (wY_nearest_2 post (nI n) 0 f_fresh f_many f_tells f_last f_runs f_stopped a_actKind a_actV a_actC a_endKind a_endV a_endX a_endY a_number a_before a_behind a_reached a_todo a_words a_coming a_values a_told a_variables m) (wY_nearest_47 post (wY_nearest_2 post (nI n) 0 f_fresh f_many f_tells f_last f_runs f_stopped a_actKind a_actV a_actC a_endKind a_endV a_endX a_endY a_number a_before a_behind a_reached a_todo a_words a_coming a_values a_told a_variables m) (nI n) 0 (nI i) f_fresh f_many f_tells f_last f_runs f_stopped a_actKind a_actV a_actC a_endKind a_endV a_endX a_endY a_number a_before a_behind a_reached a_todo a_words a_coming a_values a_told a_variables m') (nI n) 0 (nI i) s (nI j) 1 f_fresh f_many f_tells f_last f_runs f_stopped a_actKind a_actV a_actC a_endKind a_endV a_endX a_endY a_number a_before a_behind a_reached a_todo a_words a_coming a_values a_told a_variables) ∧ (¬ r = 0 → wY_nearest_125 post (wY_nearest_2 post (nI n) 0 f_fresh f_many f_tells f_last f_runs f_stopped a_actKind a_actV a_actC a_endKind a_endV a_endX a_endY a_number a_before a_behind a_reached a_todo a_words a_coming a_values a_told a_variables m) (wY_nearest_47 post (wY_nearest_2 post (nI n) 0 f_fresh f_many f_tells f_last f_runs f_stopped a_actKind a_actV a_actC a_endKind a_endV a_endX a_endY a_number a_before a_behind a_reached a_todo a_words a_coming a_values a_told a_variables m) (nI n) 0 (nI i) f_fresh f_many f_tells f_last f_runs f_stopped a_actKind a_actV a_actC a_endKind a_endV a_endX a_endY a_number a_before a_behind a_reached a_todo a_words a_coming a_values a_told a_variables m') (nI n) 0 (nI i) s (nI j) f_fresh f_many f_tells f_last f_runs f_stopped a_actKind a_actV a_actC a_endKind a_endV a_endX a_endY a_number a_before a_behind a_reached a_todo a_words a_coming a_values a_told a_variables)) (f_fresh, f_many, f_tells, f_last, f_runs, f_stopped, a_actKind, a_actV, a_actC, a_endKind, a_endV, a_endX, a_endY, a_number, a_before, a_behind, a_reached, a_todo, a_words, a_coming, a_values, a_told, a_variables) (nI j) (nI i))) (f_fresh, f_many, f_tells, f_last, f_runs, f_stopped, a_actKind, a_actV, a_actC, a_endKind, a_endV, a_endX, a_endY, a_number, a_before, a_behind, a_reached, a_todo, a_words, a_coming, a_values, a_told, a_variables) (nI j) (nI n) :=
          gy_isBefore hj hn hB (fun y => gy_isBefore hj hi hB (fun x => br_t rfl (nm_r (nI_1 j) (keep (fun _ _ _ => x)))) (fun x => br_f (by decide) (nm_r (nI_1 j) (ihj 0 (Or.inr ⟨rfl, j, hj, w1, y, x⟩))))) (fun y => br_t rfl (nm_r (nI_1 j) (keep (fun _ _ z => absurd z y))))
        exact br_t rfl inner
    exact br_t rfl body
theorem gy_isBehind {A B : Prop} {d n : Nat} (hd : d < 16) (hn : n < 16) (hB : ∀ d, d < 16 → ∀ n, n < 16 → gy_M a_behind (gs_bh ek ex ey) d n) (ht : gs_bh ek ex ey d n → B) (hf : ¬ gs_bh ek ex ey d n → A) : wpY_isBehind (fun r => (r = 0 → A) ∧ (¬ r = 0 → B)) (f_fresh, f_many, f_tells, f_last, f_runs, f_stopped, a_actKind, a_actV, a_actC, a_endKind, a_endV, a_endX, a_endY, a_number, a_before, a_behind, a_reached, a_todo, a_words, a_coming, a_values, a_told, a_variables) (nI d) (nI n) := by
  unfold wpY_isBehind
  rw [gy_ix, nI_clamp (by omega)]
  refine ⟨vp_in_nI (by omega) (by decide), ?_⟩
  rcases hB d hd n hn with ⟨z1, z2⟩ | ⟨z1, z2⟩
  · rw [z1]
    exact ⟨rfl, br_f (by decide) (ht z2)⟩
  · rw [z1]
    exact ⟨rfl, br_t rfl (hf z2)⟩
theorem gy_nearBehind {post : Int32 → Prop} {n : Nat} (hn : n < 16) (hB : ∀ d, d < 16 → ∀ n, n < 16 → gy_M a_behind (gs_bh ek ex ey) d n) (hR : ∀ d n, gs_bh ek ex ey d n → gs_bh ek ex ey d d) (h : ∀ r, gs_Fst r (gs_near (gs_bh ek ex ey) n) → post r) : wpY_nearest post (f_fresh, f_many, f_tells, f_last, f_runs, f_stopped, a_actKind, a_actV, a_actC, a_endKind, a_endV, a_endX, a_endY, a_number, a_before, a_behind, a_reached, a_todo, a_words, a_coming, a_values, a_told, a_variables) (nI n) 1 := by
  refine pk_loop (fun m i (_ : Unit) => wY_nearest_2 post (nI n) 1 f_fresh f_many f_tells f_last f_runs f_stopped a_actKind a_actV a_actC a_endKind a_endV a_endX a_endY a_number a_before a_behind a_reached a_todo a_words a_coming a_values a_told a_variables m (nI i)) (fun i _ => ∀ d, d < i → ¬ gs_near (gs_bh ek ex ey) n d) 16 0 () (by omega) (fun j hj => absurd hj (Nat.not_lt_zero j)) ?_ ?_
  · rintro m _ hI
    exact br_t gx_x16 (h _ (Or.inr ⟨rfl, hI⟩))
  · rintro m i _ hi hI ih
    have up : ¬ gs_near (gs_bh ek ex ey) n i → wY_nearest_2 post (nI n) 1 f_fresh f_many f_tells f_last f_runs f_stopped a_actKind a_actV a_actC a_endKind a_endV a_endX a_endY a_number a_before a_behind a_reached a_todo a_words a_coming a_values a_told a_variables m (nI (i + 1)) := fun q => ih () (fun d hd => by
      by_cases e : d = i
      · exact e ▸ q
      · exact hI d (by omega))
    refine br_f (gx_16 hi) (pk_eq i n (fun e => nm_r (nI_1 i) (up (fun q => q.1 e))) (fun e => ?_))
    have body : wpY_isBehind (fun r => (r = 0 → (∀ x : Int32, x = nI i + 1 → wY_nearest_2 post (nI n) 1 f_fresh f_many f_tells f_last f_runs f_stopped a_actKind a_actV a_actC a_endKind a_endV a_endX a_endY a_number a_before a_behind a_reached a_todo a_words a_coming a_values a_told a_variables m x)) ∧ (¬ r = 0 → (∃ n47 : Nat, wY_nearest_47 post (wY_nearest_2 post (nI n) 1 f_fresh f_many f_tells f_last f_runs f_stopped a_actKind a_actV a_actC a_endKind a_endV a_endX a_endY a_number a_before a_behind a_reached a_todo a_words a_coming a_values a_told a_variables m) (nI n) 1 (nI i) f_fresh f_many f_tells f_last f_runs f_stopped a_actKind a_actV a_actC a_endKind a_endV a_endX a_endY a_number a_before a_behind a_reached a_todo a_words a_coming a_values a_told a_variables n47 1 0))) (f_fresh, f_many, f_tells, f_last, f_runs, f_stopped, a_actKind, a_actV, a_actC, a_endKind, a_endV, a_endX, a_endY, a_number, a_before, a_behind, a_reached, a_todo, a_words, a_coming, a_values, a_told, a_variables) (nI i) (nI n) := by
      refine gy_isBehind hi hn hB (fun q => ?_) (fun q => nm_r (nI_1 i) (up (fun w => q w.2.1)))
      refine pk_loop (fun m' j (s : Int32) => wY_nearest_47 post (wY_nearest_2 post (nI n) 1 f_fresh f_many f_tells f_last f_runs f_stopped a_actKind a_actV a_actC a_endKind a_endV a_endX a_endY a_number a_before a_behind a_reached a_todo a_words a_coming a_values a_told a_variables m) (nI n) 1 (nI i) f_fresh f_many f_tells f_last f_runs f_stopped a_actKind a_actV a_actC a_endKind a_endV a_endX a_endY a_number a_before a_behind a_reached a_todo a_words a_coming a_values a_told a_variables m' s (nI j)) (fun j s => (s = 1 ∧ ∀ e, e < j → e ≠ n → e ≠ i → gs_bh ek ex ey e n → gs_bh ek ex ey e i) ∨ (s = 0 ∧ ∃ e, e < 16 ∧ e ≠ n ∧ gs_bh ek ex ey e n ∧ ¬ gs_bh ek ex ey e i)) 16 0 1 (by omega) (Or.inl ⟨rfl, fun e he => absurd he (Nat.not_lt_zero e)⟩) ?_ ?_
      · rintro m' s hS
        refine br_t gx_x16 ?_
        rcases hS with ⟨z1, z2⟩ | ⟨z1, f, z2, z3, z4, z5⟩
        · rw [z1]
          refine br_f (by decide) (h _ (Or.inl ⟨i, hi, rfl, ⟨e, q, fun f hf hfn hC => ?_⟩, hI⟩))
          by_cases fe : f = i
          · subst fe
            exact hR f n hC
          · exact z2 f hf hfn fe hC
        · rw [z1]
          exact br_t rfl (nm_r (nI_1 i) (up (fun w => z5 (w.2.2 f z2 z3 z4))))
      · rintro m' j s hj hS ihj
        have keep : (j ≠ n → j ≠ i → gs_bh ek ex ey j n → gs_bh ek ex ey j i) → wY_nearest_47 post (wY_nearest_2 post (nI n) 1 f_fresh f_many f_tells f_last f_runs f_stopped a_actKind a_actV a_actC a_endKind a_endV a_endX a_endY a_number a_before a_behind a_reached a_todo a_words a_coming a_values a_told a_variables m) (nI n) 1 (nI i) f_fresh f_many f_tells f_last f_runs f_stopped a_actKind a_actV a_actC a_endKind a_endV a_endX a_endY a_number a_before a_behind a_reached a_todo a_words a_coming a_values a_told a_variables m' s (nI (j + 1)) := fun w => ihj s (hS.imp (fun z => ⟨z.1, fun f hf y1 y2 y3 => by
          by_cases fe : f = j
          · subst fe
            exact w y1 y2 y3
          · exact z.2 f (by omega) y1 y2 y3⟩) id)
        refine br_f (gx_16 hj) (pk_eq j n (fun w => nm_r (nI_1 j) (keep (fun y => absurd w y))) (fun w1 => pk_eq j i (fun w => nm_r (nI_1 j) (keep (fun _ y => absurd w y))) (fun w2 => ?_)))
        have inner : wpY_isBehind (fun r => (r = 0 → wY_nearest_97 post (wY_nearest_2 post (nI n) 1 f_fresh f_many f_tells f_last f_runs f_stopped a_actKind a_actV a_actC a_endKind a_endV a_endX a_endY a_number a_before a_behind a_reached a_todo a_words a_coming a_values a_told a_variables m) (wY_nearest_47 post (wY_nearest_2 post (nI n) 1 f_fresh f_many f_tells f_last f_runs f_stopped a_actKind a_actV a_actC a_endKind a_endV a_endX a_endY a_number a_before a_behind a_reached a_todo a_words a_coming a_values a_told a_variables m) (nI n) 1 (nI i) f_fresh f_many f_tells f_last f_runs f_stopped a_actKind a_actV a_actC a_endKind a_endV a_endX a_endY a_number a_before a_behind a_reached a_todo a_words a_coming a_values a_told a_variables m') (nI n) 1 (nI i) s (nI j) f_fresh f_many f_tells f_last f_runs f_stopped a_actKind a_actV a_actC a_endKind a_endV a_endX a_endY a_number a_before a_behind a_reached a_todo a_words a_coming a_values a_told a_variables) ∧ (¬ r = 0 → wpY_isBehind (fun r => (r = 0 → wY_nearest_126 post (wY_nearest_2 post (nI n) 1 f_fresh f_many f_tells f_last f_runs f_stopped a_actKind a_actV a_actC a_endKind a_endV a_endX a_endY a_number a_before a_behind a_reached a_todo a_words a_coming a_values a_told a_variables m) (wY_nearest_47 post (wY_nearest_2 post (nI n) 1 f_fresh f_many f_tells f_last f_runs f_stopped a_actKind a_actV a_actC a_endKind a_endV a_endX a_endY a_number a_before a_behind a_reached a_todo a_words a_coming a_values a_told a_variables m) (nI n) 1 (nI i) f_fresh f_many f_tells f_last f_runs f_stopped a_actKind a_actV a_actC a_endKind a_endV a_endX a_endY a_number a_before a_behind a_reached a_todo a_words a_coming a_values a_told a_variables m') (nI n) 1 (nI i) s (nI j) 1 f_fresh f_many f_tells f_last f_runs f_stopped a_actKind a_actV a_actC a_endKind a_endV a_endX a_endY a_number a_before a_behind a_reached a_todo a_words a_coming a_values a_told a_variables) ∧ (¬ r = 0 → wY_nearest_97 post (wY_nearest_2 post (nI n) 1 f_fresh f_many f_tells f_last f_runs f_stopped a_actKind a_actV a_actC a_endKind a_endV a_endX a_endY a_number a_before a_behind a_reached a_todo a_words a_coming a_values a_told a_variables m) (wY_nearest_47 post (wY_nearest_2 post (nI n) 1 f_fresh f_many f_tells f_last f_runs f_stopped a_actKind a_actV a_actC a_endKind a_endV a_endX a_endY a_number a_before a_behind a_reached a_todo a_words a_coming a_values a_told a_variables m) (nI n) 1 (nI i) f_fresh f_many f_tells f_last f_runs f_stopped a_actKind a_actV a_actC a_endKind a_endV a_endX a_endY a_number a_before a_behind a_reached a_todo a_words a_coming a_values a_told a_variables m') (nI n) 1 (nI i) s (nI j) f_fresh f_many f_tells f_last f_runs f_stopped a_actKind a_actV a_actC a_endKind a_endV a_endX a_endY a_number a_before a_behind a_reached a_todo a_words a_coming a_values a_told a_variables)) (f_fresh, f_many, f_tells, f_last, f_runs, f_stopped, a_actKind, a_actV, a_actC, a_endKind, a_endV, a_endX, a_endY, a_number, a_before, a_behind, a_reached, a_todo, a_words, a_coming, a_values, a_told, a_variables) (nI j) (nI i))) (f_fresh, f_many, f_tells, f_last, f_runs, f_stopped, a_actKind, a_actV, a_actC, a_endKind, a_endV, a_endX, a_endY, a_number, a_before, a_behind, a_reached, a_todo, a_words, a_coming, a_values, a_told, a_variables) (nI j) (nI n) :=
          gy_isBehind hj hn hB (fun y => gy_isBehind hj hi hB (fun x => br_t rfl (nm_r (nI_1 j) (keep (fun _ _ _ => x)))) (fun x => br_f (by decide) (nm_r (nI_1 j) (ihj 0 (Or.inr ⟨rfl, j, hj, w1, y, x⟩))))) (fun y => br_t rfl (nm_r (nI_1 j) (keep (fun _ _ z => absurd z y))))
        exact br_f (by decide) inner
    exact br_f (by decide) body
end
end
section
/-! Y: edge, rulers, loops, and the questions -/
section
variable {f_fresh f_many f_tells f_last f_runs f_stopped : Int32} {a_actKind a_actV a_actC a_endKind a_endV a_endX a_endY a_number a_before a_behind a_reached a_todo a_words a_coming a_values a_told a_variables : Nat → Int32} {ek ex ey ak av ac ev : Nat → Nat}
theorem gy_edge {post : Int32 → Prop} {t : Nat} (GE : gy_GE ek ev ex ey a_endKind a_endV a_endX a_endY) (V : gy_VY ek ex ey a_number a_before a_behind) (ht : t < 16) (h : ∀ r, gs_Mk r (gs_edge ek ex ey t) → post r) : wpY_edge post (f_fresh, f_many, f_tells, f_last, f_runs, f_stopped, a_actKind, a_actV, a_actC, a_endKind, a_endV, a_endX, a_endY, a_number, a_before, a_behind, a_reached, a_todo, a_words, a_coming, a_values, a_told, a_variables) (nI t) := by
  have hx := GE.2.1
  have hy := GE.2.2.1
  refine pk_loop (fun m i r => wY_edge_4 post (nI t) f_fresh f_many f_tells f_last f_runs f_stopped a_actKind a_actV a_actC a_endKind a_endV a_endX a_endY a_number a_before a_behind a_reached a_todo a_words a_coming a_values a_told a_variables m r (nI i)) (fun i r => gs_Mk r (fun n => n < i ∧ gs_edge ek ex ey t n)) 16 0 0 (by omega) (gs_Mk_0 (fun i _ z => absurd z.1 (Nat.not_lt_zero i))) ?_ ?_
  · rintro m r hI
    exact br_t gx_x16 (h r (gs_Mk_iff hI (fun n hn => ⟨fun z => z.2, fun z => ⟨hn, z⟩⟩)))
  · rintro m i r hi hI ih
    have inner : (i = t ∨ ¬ gs_bf ek ex ey t i) → ∃ n30, wY_edge_30 post (wY_edge_4 post (nI t) f_fresh f_many f_tells f_last f_runs f_stopped a_actKind a_actV a_actC a_endKind a_endV a_endX a_endY a_number a_before a_behind a_reached a_todo a_words a_coming a_values a_told a_variables m) (nI t) (nI i) f_fresh f_many f_tells f_last f_runs f_stopped a_actKind a_actV a_actC a_endKind a_endV a_endX a_endY a_number a_before a_behind a_reached a_todo a_words a_coming a_values a_told a_variables n30 r 0 := by
      intro hq
      refine pk_loop (fun m' j r => wY_edge_30 post (wY_edge_4 post (nI t) f_fresh f_many f_tells f_last f_runs f_stopped a_actKind a_actV a_actC a_endKind a_endV a_endX a_endY a_number a_before a_behind a_reached a_todo a_words a_coming a_values a_told a_variables m) (nI t) (nI i) f_fresh f_many f_tells f_last f_runs f_stopped a_actKind a_actV a_actC a_endKind a_endV a_endX a_endY a_number a_before a_behind a_reached a_todo a_words a_coming a_values a_told a_variables m' r (nI j)) (fun j r => gs_Mk r (fun n => (n < i ∧ gs_edge ek ex ey t n) ∨ (n = i ∧ ∃ p, p < j ∧ gs_sn ek ex ey p = true ∧ gs_E ek ex ey p n ∧ gs_bf ek ex ey t p))) 16 0 r (by omega) (gs_Mk_iff hI (fun n _ => ⟨Or.inl, fun z => z.elim id (fun ⟨_, p, z, _⟩ => absurd z (Nat.not_lt_zero p))⟩)) ?_ ?_
      · rintro m' r hJ
        refine br_t gx_x16 (nm_r (nI_1 i) (ih r (gs_Mk_iff hJ (fun n _ => ?_))))
        constructor
        · rintro (z | ⟨rfl, z⟩)
          · exact ⟨by omega, z.2⟩
          · exact ⟨by omega, hq, z⟩
        · rintro ⟨z1, z2⟩
          by_cases e : n = i
          · exact Or.inr ⟨e, z2.2⟩
          · exact Or.inl ⟨by omega, z2⟩
      · rintro m' j r hj hJ ihj
        have keep : ¬ (gs_sn ek ex ey j = true ∧ gs_E ek ex ey j i ∧ gs_bf ek ex ey t j) → wY_edge_30 post (wY_edge_4 post (nI t) f_fresh f_many f_tells f_last f_runs f_stopped a_actKind a_actV a_actC a_endKind a_endV a_endX a_endY a_number a_before a_behind a_reached a_todo a_words a_coming a_values a_told a_variables m) (nI t) (nI i) f_fresh f_many f_tells f_last f_runs f_stopped a_actKind a_actV a_actC a_endKind a_endV a_endX a_endY a_number a_before a_behind a_reached a_todo a_words a_coming a_values a_told a_variables m' r (nI (j + 1)) := fun q => ihj r (gs_Mk_iff hJ (fun n _ => by
          constructor
          · rintro (z | ⟨z1, p, z3, z4⟩)
            · exact Or.inl z
            · exact Or.inr ⟨z1, p, by omega, z4⟩
          · rintro (z | ⟨z1, p, z3, z4⟩)
            · exact Or.inl z
            · by_cases e : p = j
              · subst e
                subst z1
                exact absurd z4 q
              · exact Or.inr ⟨z1, p, by omega, z4⟩))
        refine br_f (gx_16 hj) (gy_sn hx hy V.1 hj (fun q1 => gy_leads GE hj hi (fun q2 => gy_isBefore ht hj V.2.1 (fun q3 => ?_) (fun q3 => nm_r (nI_1 j) (keep (fun z => q3 z.2.2)))) (fun q2 => nm_r (nI_1 j) (keep (fun z => q2 z.2.1)))) (fun q1 => nm_r (nI_1 j) (keep (fun z => q1 z.1))))
        refine nm_e (nm_r (nI_1 j) (ihj _ (gs_Mk_iff (gs_Mk_set hJ hi) (fun n _ => ?_))))
        constructor
        · rintro ((z | ⟨z1, p, z3, z4⟩) | rfl)
          · exact Or.inl z
          · exact Or.inr ⟨z1, p, by omega, z4⟩
          · exact Or.inr ⟨rfl, j, by omega, q1, q2, q3⟩
        · rintro (z | ⟨z1, _⟩)
          · exact Or.inl (Or.inl z)
          · exact Or.inr z1
    refine br_f (gx_16 hi) (gy_isBefore ht hi V.2.1 (fun q => pk_eq t i (fun e => inner (Or.inl e.symm)) (fun e => nm_r (nI_1 i) (ih r (gs_Mk_iff hI (fun n _ => ⟨fun z => ⟨by omega, z.2⟩, fun z => ⟨?_, z.2⟩⟩))))) (fun q => inner (Or.inr q)))
    by_cases w : n = i
    · subst w
      rcases z.2.1 with y | y
      · exact absurd y.symm e
      · exact absurd q y
    · omega
theorem gy_rulers {post : Int32 → Prop} {t : Nat} (GE : gy_GE ek ev ex ey a_endKind a_endV a_endX a_endY) (V : gy_VY ek ex ey a_number a_before a_behind) (ht : t < 16) (h : ∀ r, gs_Mk r (gs_rul ek ex ey t) → post r) : wpY_rulers post (f_fresh, f_many, f_tells, f_last, f_runs, f_stopped, a_actKind, a_actV, a_actC, a_endKind, a_endV, a_endX, a_endY, a_number, a_before, a_behind, a_reached, a_todo, a_words, a_coming, a_values, a_told, a_variables) (nI t) := by
  have hx := GE.2.1
  have hy := GE.2.2.1
  refine pk_loop (fun m i r => wY_rulers_4 post (nI t) f_fresh f_many f_tells f_last f_runs f_stopped a_actKind a_actV a_actC a_endKind a_endV a_endX a_endY a_number a_before a_behind a_reached a_todo a_words a_coming a_values a_told a_variables m r (nI i)) (fun i r => gs_Mk r (fun n => n < i ∧ gs_rul ek ex ey t n)) 16 0 0 (by omega) (gs_Mk_0 (fun i _ z => absurd z.1 (Nat.not_lt_zero i))) ?_ ?_
  · rintro m r hI
    exact br_t gx_x16 (h r (gs_Mk_iff hI (fun n hn => ⟨fun z => z.2, fun z => ⟨hn, z⟩⟩)))
  · rintro m i r hi hI ih
    have skip : ¬ gs_rul ek ex ey t i → wY_rulers_4 post (nI t) f_fresh f_many f_tells f_last f_runs f_stopped a_actKind a_actV a_actC a_endKind a_endV a_endX a_endY a_number a_before a_behind a_reached a_todo a_words a_coming a_values a_told a_variables m r (nI (i + 1)) := fun q => ih r (gs_Mk_iff hI (fun n _ => ⟨fun z => ⟨by omega, z.2⟩, fun z => ⟨by
      by_cases w : n = i
      · exact absurd (w ▸ z.2) q
      · omega, z.2⟩⟩))
    have inner : gs_sn ek ex ey i = true → (i = t ∨ ¬ gs_bh ek ex ey t i) → ∃ n38, wY_rulers_38 post (wY_rulers_4 post (nI t) f_fresh f_many f_tells f_last f_runs f_stopped a_actKind a_actV a_actC a_endKind a_endV a_endX a_endY a_number a_before a_behind a_reached a_todo a_words a_coming a_values a_told a_variables m) (nI t) (nI i) f_fresh f_many f_tells f_last f_runs f_stopped a_actKind a_actV a_actC a_endKind a_endV a_endX a_endY a_number a_before a_behind a_reached a_todo a_words a_coming a_values a_told a_variables n38 r 0 := by
      intro hsn hq
      refine pk_loop (fun m' j r => wY_rulers_38 post (wY_rulers_4 post (nI t) f_fresh f_many f_tells f_last f_runs f_stopped a_actKind a_actV a_actC a_endKind a_endV a_endX a_endY a_number a_before a_behind a_reached a_todo a_words a_coming a_values a_told a_variables m) (nI t) (nI i) f_fresh f_many f_tells f_last f_runs f_stopped a_actKind a_actV a_actC a_endKind a_endV a_endX a_endY a_number a_before a_behind a_reached a_todo a_words a_coming a_values a_told a_variables m' r (nI j)) (fun j r => gs_Mk r (fun n => (n < i ∧ gs_rul ek ex ey t n) ∨ (n = i ∧ ∃ p, p < j ∧ gs_E ek ex ey n p ∧ gs_bh ek ex ey t p))) 16 0 r (by omega) (gs_Mk_iff hI (fun n _ => ⟨Or.inl, fun z => z.elim id (fun ⟨_, p, z, _⟩ => absurd z (Nat.not_lt_zero p))⟩)) ?_ ?_
      · rintro m' r hJ
        refine br_t gx_x16 (nm_r (nI_1 i) (ih r (gs_Mk_iff hJ (fun n _ => ?_))))
        constructor
        · rintro (z | ⟨rfl, p, z1, z2, z3⟩)
          · exact ⟨by omega, z.2⟩
          · exact ⟨by omega, hq, p, z1, hsn, z2, z3⟩
        · rintro ⟨z1, z2⟩
          by_cases e : n = i
          · obtain ⟨_, p, y1, y2, y3, y4⟩ := z2
            exact Or.inr ⟨e, p, y1, y3, y4⟩
          · exact Or.inl ⟨by omega, z2⟩
      · rintro m' j r hj hJ ihj
        have keep : ¬ (gs_E ek ex ey i j ∧ gs_bh ek ex ey t j) → wY_rulers_38 post (wY_rulers_4 post (nI t) f_fresh f_many f_tells f_last f_runs f_stopped a_actKind a_actV a_actC a_endKind a_endV a_endX a_endY a_number a_before a_behind a_reached a_todo a_words a_coming a_values a_told a_variables m) (nI t) (nI i) f_fresh f_many f_tells f_last f_runs f_stopped a_actKind a_actV a_actC a_endKind a_endV a_endX a_endY a_number a_before a_behind a_reached a_todo a_words a_coming a_values a_told a_variables m' r (nI (j + 1)) := fun q => ihj r (gs_Mk_iff hJ (fun n _ => by
          constructor
          · rintro (z | ⟨z1, p, z3, z4⟩)
            · exact Or.inl z
            · exact Or.inr ⟨z1, p, by omega, z4⟩
          · rintro (z | ⟨z1, p, z3, z4⟩)
            · exact Or.inl z
            · by_cases e : p = j
              · subst e
                subst z1
                exact absurd z4 q
              · exact Or.inr ⟨z1, p, by omega, z4⟩))
        refine br_f (gx_16 hj) (gy_leads GE hi hj (fun q2 => gy_isBehind ht hj V.2.2 (fun q3 => ?_) (fun q3 => nm_r (nI_1 j) (keep (fun z => q3 z.2)))) (fun q2 => nm_r (nI_1 j) (keep (fun z => q2 z.1))))
        refine nm_e (nm_r (nI_1 j) (ihj _ (gs_Mk_iff (gs_Mk_set hJ hi) (fun n _ => ?_))))
        constructor
        · rintro ((z | ⟨z1, p, z3, z4⟩) | rfl)
          · exact Or.inl z
          · exact Or.inr ⟨z1, p, by omega, z4⟩
          · exact Or.inr ⟨rfl, j, by omega, q2, q3⟩
        · rintro (z | ⟨z1, _⟩)
          · exact Or.inl (Or.inl z)
          · exact Or.inr z1
    refine br_f (gx_16 hi) (gy_sn hx hy V.1 hi (fun s => gy_isBehind ht hi V.2.2 (fun q => pk_eq i t (fun e => inner s (Or.inl e)) (fun e => nm_r (nI_1 i) (skip (fun z => z.1.elim e (fun y => y q))))) (fun q => inner s (Or.inr q))) (fun s => nm_r (nI_1 i) (skip (fun ⟨_, p, _, y, _⟩ => s y))))
/-- the loop of a node; reached and todo change -/
theorem gy_loop {post : Int32 → SY → Prop} {t : Nat} (GE : gy_GE ek ev ex ey a_endKind a_endV a_endX a_endY) (V : gy_VY ek ex ey a_number a_before a_behind) (ht : t < 16) (h : ∀ r re td, gs_Mk r (gs_lp ek ex ey t) → post r (f_fresh, f_many, f_tells, f_last, f_runs, f_stopped, a_actKind, a_actV, a_actC, a_endKind, a_endV, a_endX, a_endY, a_number, a_before, a_behind, re, td, a_words, a_coming, a_values, a_told, a_variables)) : wpY_loop post (f_fresh, f_many, f_tells, f_last, f_runs, f_stopped, a_actKind, a_actV, a_actC, a_endKind, a_endV, a_endX, a_endY, a_number, a_before, a_behind, a_reached, a_todo, a_words, a_coming, a_values, a_told, a_variables) (nI t) := by
  have hx := GE.2.1
  have hy := GE.2.2.1
  refine pk_loop (fun m i (s : Int32 × (Nat → Int32) × (Nat → Int32)) => wY_loop_4 post (nI t) m s.1 (nI i) f_fresh f_many f_tells f_last f_runs f_stopped a_actKind a_actV a_actC a_endKind a_endV a_endX a_endY a_number a_before a_behind s.2.1 s.2.2 a_words a_coming a_values a_told a_variables) (fun i s => gs_Mk s.1 (fun n => ∃ p, p < i ∧ gs_ret ek ex ey t p ∧ (n = t ∨ (gs_sn ek ex ey n = true ∧ gs_W ek ex ey (fun x => x = t) n p)))) 16 0 (0, a_reached, a_todo) (by omega) (gs_Mk_0 (fun i _ ⟨p, z, _⟩ => absurd z (Nat.not_lt_zero p))) ?_ ?_
  · rintro m s hI
    refine br_t gx_x16 (h _ _ _ (gs_Mk_iff hI (fun n _ => ?_)))
    constructor
    · exact fun ⟨p, _, z⟩ => ⟨p, z⟩
    · exact fun ⟨p, z⟩ => ⟨p, gs_sn_lt hx hy z.1.1, z⟩
  · rintro m i ⟨r, re, td⟩ hi hI ih
    dsimp only at hI
    have skip : ¬ gs_ret ek ex ey t i → wY_loop_4 post (nI t) m r (nI (i + 1)) f_fresh f_many f_tells f_last f_runs f_stopped a_actKind a_actV a_actC a_endKind a_endV a_endX a_endY a_number a_before a_behind re td a_words a_coming a_values a_told a_variables := fun q => ih (r, re, td) (gs_Mk_iff hI (fun n _ => by
      constructor
      · exact fun ⟨p, z1, z2⟩ => ⟨p, by omega, z2⟩
      · rintro ⟨p, z1, z2⟩
        by_cases e : p = i
        · exact absurd (e ▸ z2.1) q
        · exact ⟨p, by omega, z2⟩))
    refine br_f (gx_16 hi) (gy_sn hx hy V.1 hi (fun q1 => gy_leads GE hi ht (fun q2 => gy_isBefore ht hi V.2.1 (fun q3 => nm_e ?_) (fun q3 => nm_r (nI_1 i) (skip (fun z => q3 z.2.2)))) (fun q2 => nm_r (nI_1 i) (skip (fun z => q2 z.2.1)))) (fun q1 => nm_r (nI_1 i) (skip (fun z => q1 z.1))))
    have hret : gs_ret ek ex ey t i := ⟨q1, q2, q3⟩
    refine pk_loop (fun m' j (s : Int32 × (Nat → Int32) × (Nat → Int32)) => wY_loop_48 post (wY_loop_4 post (nI t) m) (nI t) (nI i) m' s.1 (nI j) f_fresh f_many f_tells f_last f_runs f_stopped a_actKind a_actV a_actC a_endKind a_endV a_endX a_endY a_number a_before a_behind s.2.1 s.2.2 a_words a_coming a_values a_told a_variables) (fun j s => gs_Mk s.1 (fun n => (∃ p, p < i ∧ gs_ret ek ex ey t p ∧ (n = t ∨ (gs_sn ek ex ey n = true ∧ gs_W ek ex ey (fun x => x = t) n p))) ∨ n = t ∨ (n < j ∧ gs_sn ek ex ey n = true ∧ gs_W ek ex ey (fun x => x = t) n i))) 16 0 (r ||| ((1 : Int32) <<< (nI t &&& 31)), re, td) (by omega) (gs_Mk_iff (gs_Mk_set hI ht) (fun n _ => ⟨fun z => z.elim Or.inl (fun z => Or.inr (Or.inl z)), fun z => z.elim Or.inl (fun z => z.elim Or.inr (fun z => absurd z.1 (Nat.not_lt_zero n)))⟩)) ?_ ?_
    · rintro m' s hJ
      refine br_t gx_x16 (nm_r (nI_1 i) (ih s (gs_Mk_iff hJ (fun n hn => ?_))))
      constructor
      · rintro (⟨p, z1, z2⟩ | z | ⟨_, z⟩)
        · exact ⟨p, by omega, z2⟩
        · exact ⟨i, by omega, hret, Or.inl z⟩
        · exact ⟨i, by omega, hret, Or.inr z⟩
      · rintro ⟨p, z1, z2, z3⟩
        by_cases e : p = i
        · subst e
          rcases z3 with z3 | z3
          · exact Or.inr (Or.inl z3)
          · exact Or.inr (Or.inr ⟨hn, z3⟩)
        · exact Or.inl ⟨p, by omega, z2, z3⟩
    · rintro m' j ⟨r, re, td⟩ hj hJ ihj
      dsimp only at hJ
      have keep : ∀ re td, ¬ (gs_sn ek ex ey j = true ∧ gs_W ek ex ey (fun x => x = t) j i) → wY_loop_48 post (wY_loop_4 post (nI t) m) (nI t) (nI i) m' r (nI (j + 1)) f_fresh f_many f_tells f_last f_runs f_stopped a_actKind a_actV a_actC a_endKind a_endV a_endX a_endY a_number a_before a_behind re td a_words a_coming a_values a_told a_variables := fun re td q => ihj (r, re, td) (gs_Mk_iff hJ (fun n _ => by
        constructor
        · rintro (z | z | ⟨z1, z2⟩)
          · exact Or.inl z
          · exact Or.inr (Or.inl z)
          · exact Or.inr (Or.inr ⟨by omega, z2⟩)
        · rintro (z | z | ⟨z1, z2⟩)
          · exact Or.inl z
          · exact Or.inr (Or.inl z)
          · by_cases e : n = j
            · exact absurd (e ▸ z2) q
            · exact Or.inr (Or.inr ⟨by omega, z2⟩)))
      refine br_f (gx_16 hj) (gy_sn hx hy V.1 hj (fun s => ?_) (fun s => nm_r (nI_1 j) (keep _ _ (fun z => s z.1))))
      refine gy_reach (W := fun x => x = t) GE (fun x hx' => nI_eq (by omega) (by omega)) hj (fun rb td' hr => ⟨gx_in hi, ?_⟩)
      rw [gx_cl hi]
      rcases hr i hi with ⟨z1, z2⟩ | ⟨z1, z2⟩
      · rw [z1]
        refine br_f (by decide) (nm_e (nm_r (nI_1 j) (ihj (_, rb, td') (gs_Mk_iff (gs_Mk_set hJ hj) (fun n _ => ?_)))))
        constructor
        · rintro ((z | z | ⟨z3, z4⟩) | rfl)
          · exact Or.inl z
          · exact Or.inr (Or.inl z)
          · exact Or.inr (Or.inr ⟨by omega, z4⟩)
          · exact Or.inr (Or.inr ⟨by omega, s, z2⟩)
        · rintro (z | z | ⟨z3, z4⟩)
          · exact Or.inl (Or.inl z)
          · exact Or.inl (Or.inr (Or.inl z))
          · by_cases e : n = j
            · exact Or.inr e
            · exact Or.inl (Or.inr (Or.inr ⟨by omega, z4⟩))
      · rw [z1]
        exact br_t rfl (nm_r (nI_1 j) (keep _ _ (fun z => z2 z.2)))
theorem gs_lp_sn (hx : ∀ n, ex n < 16) (hy : ∀ n, ey n < 16) {t n : Nat} (h : gs_lp ek ex ey t n) : gs_sn ek ex ey t = true := by
  obtain ⟨p, hp, _⟩ := h
  exact gs_sn_E hx hy hp.1 hp.2.1
theorem gy_depth_1 {post : Int32 → SY → Prop} {n : Nat} (GE : gy_GE ek ev ex ey a_endKind a_endV a_endX a_endY) (V : gy_VY ek ex ey a_number a_before a_behind) (n16 : n < 16) (done : ∀ re td r, r = nI (gs_cnt (fun h => gs_lp ek ex ey h n) 16) → post r (f_fresh, f_many, f_tells, f_last, f_runs, f_stopped, a_actKind, a_actV, a_actC, a_endKind, a_endV, a_endX, a_endY, a_number, a_before, a_behind, re, td, a_words, a_coming, a_values, a_told, a_variables)) : ∃ m, wY_depth_18 post (nI n) m 0 0 f_fresh f_many f_tells f_last f_runs f_stopped a_actKind a_actV a_actC a_endKind a_endV a_endX a_endY a_number a_before a_behind a_reached a_todo a_words a_coming a_values a_told a_variables := by
  have hx := GE.2.1
  have hy := GE.2.2.1
  refine pk_loop (fun m i (s : Int32 × (Nat → Int32) × (Nat → Int32)) => wY_depth_18 post (nI n) m s.1 (nI i) f_fresh f_many f_tells f_last f_runs f_stopped a_actKind a_actV a_actC a_endKind a_endV a_endX a_endY a_number a_before a_behind s.2.1 s.2.2 a_words a_coming a_values a_told a_variables) (fun i s => s.1 = nI (gs_cnt (fun h => gs_lp ek ex ey h n) i)) 16 0 (0, a_reached, a_todo) (by omega) rfl ?_ ?_
  · rintro m s hs
    exact br_t gx_x16 (done _ _ _ hs)
  · rintro m i ⟨r, re, td⟩ hi hr ih
    dsimp only at hr
    subst hr
    refine br_f (gx_16 hi) (gy_sn hx hy V.1 hi (fun s => gy_loop GE V hi (fun r re td hM => ?_)) (fun s => nm_r (nI_1 i) (ih (_, re, td) ?_)))
    · rcases gy_bit hM n16 with ⟨z1, z2⟩ | ⟨z1, z2⟩
      · rw [z2]
        refine nm_r (nI_1 _) (nm_r (nI_1 i) (ih (_, re, td) ?_))
        dsimp only
        rw [gs_cnt_t (P := fun h => gs_lp ek ex ey h n) z1]
        rfl
      · rw [z2]
        refine nm_r (e' := nI (gs_cnt (fun h => gs_lp ek ex ey h n) i)) (Int32.add_zero _) (nm_r (nI_1 i) (ih (_, re, td) ?_))
        dsimp only
        rw [gs_cnt_f (P := fun h => gs_lp ek ex ey h n) z1]
        rfl
    · dsimp only
      rw [gs_cnt_f (P := fun h => gs_lp ek ex ey h n) (fun z => s (gs_lp_sn hx hy z))]
theorem gy_head_1 {post : Int32 → SY → Prop} {n : Nat} (GE : gy_GE ek ev ex ey a_endKind a_endV a_endX a_endY) (V : gy_VY ek ex ey a_number a_before a_behind) (n16 : n < 16) (done : ∀ re td r, r = (gs_hf ek ex ey n 16).1 → post r (f_fresh, f_many, f_tells, f_last, f_runs, f_stopped, a_actKind, a_actV, a_actC, a_endKind, a_endV, a_endX, a_endY, a_number, a_before, a_behind, re, td, a_words, a_coming, a_values, a_told, a_variables)) : ∃ m, wY_head_22 post (nI n) m (-1) 17 0 f_fresh f_many f_tells f_last f_runs f_stopped a_actKind a_actV a_actC a_endKind a_endV a_endX a_endY a_number a_before a_behind a_reached a_todo a_words a_coming a_values a_told a_variables := by
  have hx := GE.2.1
  have hy := GE.2.2.1
  refine pk_loop (fun m i (s : Int32 × Int32 × (Nat → Int32) × (Nat → Int32)) => wY_head_22 post (nI n) m s.1 s.2.1 (nI i) f_fresh f_many f_tells f_last f_runs f_stopped a_actKind a_actV a_actC a_endKind a_endV a_endX a_endY a_number a_before a_behind s.2.2.1 s.2.2.2 a_words a_coming a_values a_told a_variables) (fun i s => s.1 = (gs_hf ek ex ey n i).1 ∧ s.2.1 = nI (gs_hf ek ex ey n i).2) 16 0 (-1, 17, a_reached, a_todo) (by omega) ⟨rfl, rfl⟩ ?_ ?_
  · rintro m s hs
    exact br_t gx_x16 (done _ _ _ hs.1)
  · rintro m i ⟨s1, s2, re, td⟩ hi ⟨h1, h2⟩ ih
    dsimp only at h1 h2
    subst h1 h2
    have l := gs_hf_le (ek := ek) (ex := ex) (ey := ey) n i
    have c := gs_cnt_le (gs_lp ek ex ey i) 16
    have size : ∀ r re td, gs_Mk r (gs_lp ek ex ey i) → ∃ n56, wY_head_56 post (wY_head_22 post (nI n) m) (nI n) (gs_hf ek ex ey n i).1 (nI (gs_hf ek ex ey n i).2) (nI i) r f_fresh f_many f_tells f_last f_runs f_stopped a_actKind a_actV a_actC a_endKind a_endV a_endX a_endY a_number a_before a_behind re td a_words a_coming a_values a_told a_variables n56 0 0 := by
      intro r re td hM
      refine pk_loop (fun m' j s => wY_head_56 post (wY_head_22 post (nI n) m) (nI n) (gs_hf ek ex ey n i).1 (nI (gs_hf ek ex ey n i).2) (nI i) r f_fresh f_many f_tells f_last f_runs f_stopped a_actKind a_actV a_actC a_endKind a_endV a_endX a_endY a_number a_before a_behind re td a_words a_coming a_values a_told a_variables m' s (nI j)) (fun j s => s = nI (gs_cnt (gs_lp ek ex ey i) j)) 16 0 0 (by omega) rfl ?_ ?_
      · rintro m' s rfl
        refine br_t gx_x16 ?_
        rcases gy_bit hM n16 with ⟨z1, z2⟩ | ⟨z1, z2⟩
        · rw [z2]
          refine br_f (by decide) (pk_lt (gs_cnt (gs_lp ek ex ey i) 16) (gs_hf ek ex ey n i).2 (fun w => nm_r (nI_1 i) (ih (nI i, nI (gs_cnt (gs_lp ek ex ey i) 16), re, td) ?_)) (fun w => nm_r (nI_1 i) (ih (_, _, re, td) ?_)))
          · have e : gs_hf ek ex ey n (i + 1) = (nI i, gs_cnt (gs_lp ek ex ey i) 16) := if_pos (gs_B_t.mpr ⟨z1, w⟩)
            rw [e]
            exact ⟨rfl, rfl⟩
          · have e : gs_hf ek ex ey n (i + 1) = gs_hf ek ex ey n i := if_neg (fun z => by have := (gs_B_t.mp z).2; omega)
            rw [e]
            exact ⟨rfl, rfl⟩
        · rw [z2]
          refine br_t rfl (nm_r (nI_1 i) (ih (_, _, re, td) ?_))
          have e : gs_hf ek ex ey n (i + 1) = gs_hf ek ex ey n i := if_neg (fun z => z1 (gs_B_t.mp z).1)
          rw [e]
          exact ⟨rfl, rfl⟩
      · rintro m' j s hj rfl ihj
        refine br_f (gx_16 hj) ?_
        rcases gy_bit hM hj with ⟨z1, z2⟩ | ⟨z1, z2⟩
        · rw [z2]
          exact nm_r (nI_1 _) (nm_r (nI_1 j) (ihj _ (by rw [gs_cnt_t z1])))
        · rw [z2]
          exact nm_r (e' := nI (gs_cnt (gs_lp ek ex ey i) j)) (Int32.add_zero _) (nm_r (nI_1 j) (ihj _ (by rw [gs_cnt_f z1])))
    refine br_f (gx_16 hi) (gy_sn hx hy V.1 hi (fun s => gy_loop GE V hi (fun r re td hM => size r re td hM)) (fun s => size 0 _ _ (gs_Mk_0 (fun q _ z => s (gs_lp_sn hx hy z)))))
theorem gy_nu_lt (hx : ∀ n, ex n < 16) (hy : ∀ n, ey n < 16) (hN : gy_NU ek ex ey a_number) {m n : Nat} (hm : gs_sn ek ex ey m = true) (hn : gs_sn ek ex ey n = true) : (a_number (nI m).toNatClampNeg < a_number (nI n).toNatClampNeg ↔ gs_nu ek ex ey m < gs_nu ek ex ey n) ∧ (a_number (nI m).toNatClampNeg ≤ a_number (nI n).toNatClampNeg ↔ gs_nu ek ex ey m ≤ gs_nu ek ex ey n) := by
  have l := gs_lv_len (ek := ek) hx hy
  have l1 := gs_nu_lt hx hy hm
  have l2 := gs_nu_lt hx hy hn
  have m16 := gs_sn_lt hx hy hm
  have n16 := gs_sn_lt hx hy hn
  have em : a_number m = nI (gs_nu ek ex ey m) := ((hN m m16).resolve_right (fun z => z.1 hm)).2
  have en : a_number n = nI (gs_nu ek ex ey n) := ((hN n n16).resolve_right (fun z => z.1 hn)).2
  rw [gx_cl m16, gx_cl n16, em, en]
  exact ⟨nI_ltI (by omega) (by omega), nI_leI (by omega) (by omega)⟩
theorem gy_m_straight {post : Int32 → SY → Prop} (R : gy_RY ak av ac ek ev ex ey (f_fresh, f_many, f_tells, f_last, f_runs, f_stopped, a_actKind, a_actV, a_actC, a_endKind, a_endV, a_endX, a_endY, a_number, a_before, a_behind, a_reached, a_todo, a_words, a_coming, a_values, a_told, a_variables)) (h : ∀ r f_fresh a_number a_before a_behind a_reached a_todo a_words, (r = 1 ∧ gs_strt ek ex ey) ∨ (r = 0 ∧ ¬ gs_strt ek ex ey) → ¬ f_fresh = 0 → gy_VY ek ex ey a_number a_before a_behind → post r (f_fresh, f_many, f_tells, f_last, f_runs, f_stopped, a_actKind, a_actV, a_actC, a_endKind, a_endV, a_endX, a_endY, a_number, a_before, a_behind, a_reached, a_todo, a_words, a_coming, a_values, a_told, a_variables)) : wpY_straight post (f_fresh, f_many, f_tells, f_last, f_runs, f_stopped, a_actKind, a_actV, a_actC, a_endKind, a_endV, a_endX, a_endY, a_number, a_before, a_behind, a_reached, a_todo, a_words, a_coming, a_values, a_told, a_variables) := by
  have R' := R
  obtain ⟨GE, GA, _⟩ := R
  have hx := GE.2.1
  have hy := GE.2.2.1
  unfold wpY_straight
  refine gy_know GE R'.2.2 (fun f_fresh a_number a_before a_behind a_reached a_todo a_words hf V => ?_)
  refine pk_loop (fun m i (_ : Unit) => wY_straight_6 post f_fresh f_many f_tells f_last f_runs f_stopped a_actKind a_actV a_actC a_endKind a_endV a_endX a_endY a_number a_before a_behind a_reached a_todo a_words a_coming a_values a_told a_variables m (nI i)) (fun i _ => ∀ n, n < i → ∀ s, s < 16 → gs_sn ek ex ey n = true → gs_E ek ex ey n s → gs_nu ek ex ey s ≤ gs_nu ek ex ey n → gs_bf ek ex ey s n) 16 0 () (by omega) (fun j hj => absurd hj (Nat.not_lt_zero j)) ?_ ?_
  · rintro m _ hI
    exact br_t gx_x16 (h 1 _ _ _ _ _ _ _ (Or.inl ⟨rfl, hI⟩) hf V)
  · rintro m i _ hi hI ih
    refine br_f (gx_16 hi) ?_
    refine pk_loop (fun m' j (_ : Unit) => wY_straight_14 post (wY_straight_6 post f_fresh f_many f_tells f_last f_runs f_stopped a_actKind a_actV a_actC a_endKind a_endV a_endX a_endY a_number a_before a_behind a_reached a_todo a_words a_coming a_values a_told a_variables m) (nI i) f_fresh f_many f_tells f_last f_runs f_stopped a_actKind a_actV a_actC a_endKind a_endV a_endX a_endY a_number a_before a_behind a_reached a_todo a_words a_coming a_values a_told a_variables m' (nI j)) (fun j _ => ∀ s, s < j → gs_sn ek ex ey i = true → gs_E ek ex ey i s → gs_nu ek ex ey s ≤ gs_nu ek ex ey i → gs_bf ek ex ey s i) 16 0 () (by omega) (fun j hj => absurd hj (Nat.not_lt_zero j)) ?_ ?_
    · rintro m' _ hJ
      refine br_t gx_x16 (nm_r (nI_1 i) (ih () (fun n hn => ?_)))
      by_cases e : n = i
      · subst e
        exact hJ
      · exact hI n (by omega)
    · rintro m' j _ hj hJ ihj
      have keep : (gs_sn ek ex ey i = true → gs_E ek ex ey i j → gs_nu ek ex ey j ≤ gs_nu ek ex ey i → gs_bf ek ex ey j i) → wY_straight_14 post (wY_straight_6 post f_fresh f_many f_tells f_last f_runs f_stopped a_actKind a_actV a_actC a_endKind a_endV a_endX a_endY a_number a_before a_behind a_reached a_todo a_words a_coming a_values a_told a_variables m) (nI i) f_fresh f_many f_tells f_last f_runs f_stopped a_actKind a_actV a_actC a_endKind a_endV a_endX a_endY a_number a_before a_behind a_reached a_todo a_words a_coming a_values a_told a_variables m' (nI (j + 1)) := fun q => ihj () (fun s hs => by
        by_cases e : s = j
        · subst e
          exact q
        · exact hJ s (by omega))
      refine br_f (gx_16 hj) (gy_sn hx hy V.1 hi (fun q1 => gy_leads GE hi hj (fun q2 => ⟨gx_in hj, gx_in hi, ?_⟩) (fun q2 => nm_r (nI_1 j) (keep (fun _ z => absurd z q2)))) (fun q1 => nm_r (nI_1 j) (keep (fun z => absurd z q1))))
      have hl := (gy_nu_lt hx hy V.1 q1 (gs_sn_E hx hy q1 q2)).1
      refine br_c (fun w => nm_r (nI_1 j) (keep (fun _ _ z => ?_))) (fun w => gy_isBefore hj hi V.2.1 (fun y => nm_r (nI_1 j) (keep (fun _ _ _ => y))) (fun y => h 0 _ _ _ _ _ _ _ (Or.inr ⟨rfl, fun z => y (z i hi j hj q1 q2 ?_)⟩) hf V))
      · have := hl.mp w
        omega
      · have : ¬ gs_nu ek ex ey i < gs_nu ek ex ey j := fun z => w (hl.mpr z)
        omega
theorem gy_m_number {post : Int32 → SY → Prop} {p : Int32} (R : gy_RY ak av ac ek ev ex ey (f_fresh, f_many, f_tells, f_last, f_runs, f_stopped, a_actKind, a_actV, a_actC, a_endKind, a_endV, a_endX, a_endY, a_number, a_before, a_behind, a_reached, a_todo, a_words, a_coming, a_values, a_told, a_variables)) (h : ∀ r v, gs_Q ek ex ey (fun n r => r = nI (gs_nu ek ex ey n)) p r → gy_RY ak av ac ek ev ex ey v → gy_run v = gy_run (f_fresh, f_many, f_tells, f_last, f_runs, f_stopped, a_actKind, a_actV, a_actC, a_endKind, a_endV, a_endX, a_endY, a_number, a_before, a_behind, a_reached, a_todo, a_words, a_coming, a_values, a_told, a_variables) → post r v) : wpY_number post (f_fresh, f_many, f_tells, f_last, f_runs, f_stopped, a_actKind, a_actV, a_actC, a_endKind, a_endV, a_endX, a_endY, a_number, a_before, a_behind, a_reached, a_todo, a_words, a_coming, a_values, a_told, a_variables) p := by
  have R' := R
  obtain ⟨GE, GA, _⟩ := R
  have hx := GE.2.1
  have hy := GE.2.2.1
  unfold wpY_number
  refine gy_know GE R'.2.2 (fun f_fresh a_number a_before a_behind a_reached a_todo a_words hf V => ?_)
  have RN : gy_RY ak av ac ek ev ex ey (f_fresh, f_many, f_tells, f_last, f_runs, f_stopped, a_actKind, a_actV, a_actC, a_endKind, a_endV, a_endX, a_endY, a_number, a_before, a_behind, a_reached, a_todo, a_words, a_coming, a_values, a_told, a_variables) := ⟨GE, GA, fun _ => V⟩
  refine gy_seen hx hy V.1 (fun n hn e => ?_) (fun q => h _ _ (Or.inr ⟨q, rfl⟩) RN rfl)
  subst e
  have n16 := gs_sn_lt hx hy hn
  refine ⟨gx_in n16, h _ _ (Or.inl ⟨n, hn, rfl, ?_⟩) RN rfl⟩
  rw [gx_cl n16]
  exact ((V.1 n n16).resolve_right (fun z => z.1 hn)).2
theorem gy_m_chief {post : Int32 → SY → Prop} {p : Int32} (R : gy_RY ak av ac ek ev ex ey (f_fresh, f_many, f_tells, f_last, f_runs, f_stopped, a_actKind, a_actV, a_actC, a_endKind, a_endV, a_endX, a_endY, a_number, a_before, a_behind, a_reached, a_todo, a_words, a_coming, a_values, a_told, a_variables)) (h : ∀ r v, gs_Q ek ex ey (fun n r => gs_Fst r (gs_near (gs_bf ek ex ey) n)) p r → gy_RY ak av ac ek ev ex ey v → gy_run v = gy_run (f_fresh, f_many, f_tells, f_last, f_runs, f_stopped, a_actKind, a_actV, a_actC, a_endKind, a_endV, a_endX, a_endY, a_number, a_before, a_behind, a_reached, a_todo, a_words, a_coming, a_values, a_told, a_variables) → post r v) : wpY_chief post (f_fresh, f_many, f_tells, f_last, f_runs, f_stopped, a_actKind, a_actV, a_actC, a_endKind, a_endV, a_endX, a_endY, a_number, a_before, a_behind, a_reached, a_todo, a_words, a_coming, a_values, a_told, a_variables) p := by
  have R' := R
  obtain ⟨GE, GA, _⟩ := R
  have hx := GE.2.1
  have hy := GE.2.2.1
  unfold wpY_chief
  refine gy_know GE R'.2.2 (fun f_fresh a_number a_before a_behind a_reached a_todo a_words hf V => ?_)
  have RN : gy_RY ak av ac ek ev ex ey (f_fresh, f_many, f_tells, f_last, f_runs, f_stopped, a_actKind, a_actV, a_actC, a_endKind, a_endV, a_endX, a_endY, a_number, a_before, a_behind, a_reached, a_todo, a_words, a_coming, a_values, a_told, a_variables) := ⟨GE, GA, fun _ => V⟩
  refine gy_seen hx hy V.1 (fun n hn e => ?_) (fun q => h _ _ (Or.inr ⟨q, rfl⟩) RN rfl)
  subst e
  have n16 := gs_sn_lt hx hy hn
  refine pk_le n 0 (fun z => h _ _ (Or.inl ⟨n, hn, rfl, Or.inr ⟨rfl, fun d _ q => ?_⟩⟩) RN rfl) (fun z => gy_nearBefore n16 V.2.1 (fun d n q => gs_bf_refl (gs_bf_sn hx hy q)) (fun r hr => h _ _ (Or.inl ⟨n, hn, rfl, hr⟩) RN rfl))
  have n0 : n = 0 := by omega
  subst n0
  exact q.1 (gs_bf_0 q.2.1)
theorem gy_m_tail {post : Int32 → SY → Prop} {p : Int32} (R : gy_RY ak av ac ek ev ex ey (f_fresh, f_many, f_tells, f_last, f_runs, f_stopped, a_actKind, a_actV, a_actC, a_endKind, a_endV, a_endX, a_endY, a_number, a_before, a_behind, a_reached, a_todo, a_words, a_coming, a_values, a_told, a_variables)) (h : ∀ r v, gs_Q ek ex ey (fun n r => gs_Fst r (gs_near (gs_bh ek ex ey) n)) p r → gy_RY ak av ac ek ev ex ey v → gy_run v = gy_run (f_fresh, f_many, f_tells, f_last, f_runs, f_stopped, a_actKind, a_actV, a_actC, a_endKind, a_endV, a_endX, a_endY, a_number, a_before, a_behind, a_reached, a_todo, a_words, a_coming, a_values, a_told, a_variables) → post r v) : wpY_tail post (f_fresh, f_many, f_tells, f_last, f_runs, f_stopped, a_actKind, a_actV, a_actC, a_endKind, a_endV, a_endX, a_endY, a_number, a_before, a_behind, a_reached, a_todo, a_words, a_coming, a_values, a_told, a_variables) p := by
  have R' := R
  obtain ⟨GE, GA, _⟩ := R
  have hx := GE.2.1
  have hy := GE.2.2.1
  unfold wpY_tail
  refine gy_know GE R'.2.2 (fun f_fresh a_number a_before a_behind a_reached a_todo a_words hf V => ?_)
  have RN : gy_RY ak av ac ek ev ex ey (f_fresh, f_many, f_tells, f_last, f_runs, f_stopped, a_actKind, a_actV, a_actC, a_endKind, a_endV, a_endX, a_endY, a_number, a_before, a_behind, a_reached, a_todo, a_words, a_coming, a_values, a_told, a_variables) := ⟨GE, GA, fun _ => V⟩
  refine gy_seen hx hy V.1 (fun n hn e => ?_) (fun q => h _ _ (Or.inr ⟨q, rfl⟩) RN rfl)
  subst e
  have n16 := gs_sn_lt hx hy hn
  exact gy_nearBehind n16 V.2.2 (fun d n q => gs_bh_sp hx hy q) (fun r hr => h _ _ (Or.inl ⟨n, hn, rfl, hr⟩) RN rfl)
theorem gy_m_depth {post : Int32 → SY → Prop} {p : Int32} (R : gy_RY ak av ac ek ev ex ey (f_fresh, f_many, f_tells, f_last, f_runs, f_stopped, a_actKind, a_actV, a_actC, a_endKind, a_endV, a_endX, a_endY, a_number, a_before, a_behind, a_reached, a_todo, a_words, a_coming, a_values, a_told, a_variables)) (h : ∀ r v, gs_Q ek ex ey (fun n r => r = nI (gs_cnt (fun h => gs_lp ek ex ey h n) 16)) p r → gy_RY ak av ac ek ev ex ey v → gy_run v = gy_run (f_fresh, f_many, f_tells, f_last, f_runs, f_stopped, a_actKind, a_actV, a_actC, a_endKind, a_endV, a_endX, a_endY, a_number, a_before, a_behind, a_reached, a_todo, a_words, a_coming, a_values, a_told, a_variables) → post r v) : wpY_depth post (f_fresh, f_many, f_tells, f_last, f_runs, f_stopped, a_actKind, a_actV, a_actC, a_endKind, a_endV, a_endX, a_endY, a_number, a_before, a_behind, a_reached, a_todo, a_words, a_coming, a_values, a_told, a_variables) p := by
  have R' := R
  obtain ⟨GE, GA, _⟩ := R
  have hx := GE.2.1
  have hy := GE.2.2.1
  unfold wpY_depth
  refine gy_know GE R'.2.2 (fun f_fresh a_number a_before a_behind a_reached a_todo a_words hf V => ?_)
  have RN : gy_RY ak av ac ek ev ex ey (f_fresh, f_many, f_tells, f_last, f_runs, f_stopped, a_actKind, a_actV, a_actC, a_endKind, a_endV, a_endX, a_endY, a_number, a_before, a_behind, a_reached, a_todo, a_words, a_coming, a_values, a_told, a_variables) := ⟨GE, GA, fun _ => V⟩
  refine gy_seen hx hy V.1 (fun n hn e => ?_) (fun q => h _ _ (Or.inr ⟨q, rfl⟩) RN rfl)
  subst e
  exact gy_depth_1 GE V (gs_sn_lt hx hy hn) (fun re td r hr => h _ _ (Or.inl ⟨n, hn, rfl, hr⟩) ⟨GE, GA, fun _ => V⟩ rfl)
theorem gy_m_head {post : Int32 → SY → Prop} {p : Int32} (R : gy_RY ak av ac ek ev ex ey (f_fresh, f_many, f_tells, f_last, f_runs, f_stopped, a_actKind, a_actV, a_actC, a_endKind, a_endV, a_endX, a_endY, a_number, a_before, a_behind, a_reached, a_todo, a_words, a_coming, a_values, a_told, a_variables)) (h : ∀ r v, gs_Q ek ex ey (fun n r => r = (gs_hf ek ex ey n 16).1) p r → gy_RY ak av ac ek ev ex ey v → gy_run v = gy_run (f_fresh, f_many, f_tells, f_last, f_runs, f_stopped, a_actKind, a_actV, a_actC, a_endKind, a_endV, a_endX, a_endY, a_number, a_before, a_behind, a_reached, a_todo, a_words, a_coming, a_values, a_told, a_variables) → post r v) : wpY_head post (f_fresh, f_many, f_tells, f_last, f_runs, f_stopped, a_actKind, a_actV, a_actC, a_endKind, a_endV, a_endX, a_endY, a_number, a_before, a_behind, a_reached, a_todo, a_words, a_coming, a_values, a_told, a_variables) p := by
  have R' := R
  obtain ⟨GE, GA, _⟩ := R
  have hx := GE.2.1
  have hy := GE.2.2.1
  unfold wpY_head
  refine gy_know GE R'.2.2 (fun f_fresh a_number a_before a_behind a_reached a_todo a_words hf V => ?_)
  have RN : gy_RY ak av ac ek ev ex ey (f_fresh, f_many, f_tells, f_last, f_runs, f_stopped, a_actKind, a_actV, a_actC, a_endKind, a_endV, a_endX, a_endY, a_number, a_before, a_behind, a_reached, a_todo, a_words, a_coming, a_values, a_told, a_variables) := ⟨GE, GA, fun _ => V⟩
  refine gy_seen hx hy V.1 (fun n hn e => ?_) (fun q => h _ _ (Or.inr ⟨q, rfl⟩) RN rfl)
  subst e
  exact gy_head_1 GE V (gs_sn_lt hx hy hn) (fun re td r hr => h _ _ (Or.inl ⟨n, hn, rfl, hr⟩) ⟨GE, GA, fun _ => V⟩ rfl)
theorem gy_m_set {post : Int32 → SY → Prop} {p w : Int32} (R : gy_RY ak av ac ek ev ex ey (f_fresh, f_many, f_tells, f_last, f_runs, f_stopped, a_actKind, a_actV, a_actC, a_endKind, a_endV, a_endX, a_endY, a_number, a_before, a_behind, a_reached, a_todo, a_words, a_coming, a_values, a_told, a_variables)) (h : ∀ r v, gs_Q ek ex ey (gs_Qset ek ex ey w) p r → gy_RY ak av ac ek ev ex ey v → gy_run v = gy_run (f_fresh, f_many, f_tells, f_last, f_runs, f_stopped, a_actKind, a_actV, a_actC, a_endKind, a_endV, a_endX, a_endY, a_number, a_before, a_behind, a_reached, a_todo, a_words, a_coming, a_values, a_told, a_variables) → post r v) : wpY_set post (f_fresh, f_many, f_tells, f_last, f_runs, f_stopped, a_actKind, a_actV, a_actC, a_endKind, a_endV, a_endX, a_endY, a_number, a_before, a_behind, a_reached, a_todo, a_words, a_coming, a_values, a_told, a_variables) p w := by
  have R' := R
  obtain ⟨GE, GA, _⟩ := R
  have hx := GE.2.1
  have hy := GE.2.2.1
  unfold wpY_set
  refine gy_know GE R'.2.2 (fun f_fresh a_number a_before a_behind a_reached a_todo a_words hf V => ?_)
  have RN : gy_RY ak av ac ek ev ex ey (f_fresh, f_many, f_tells, f_last, f_runs, f_stopped, a_actKind, a_actV, a_actC, a_endKind, a_endV, a_endX, a_endY, a_number, a_before, a_behind, a_reached, a_todo, a_words, a_coming, a_values, a_told, a_variables) := ⟨GE, GA, fun _ => V⟩
  refine gy_seen hx hy V.1 (fun n hn e => ?_) (fun q => h _ _ (Or.inr ⟨q, rfl⟩) RN rfl)
  subst e
  have n16 := gs_sn_lt hx hy hn
  refine gy_in (m := 2) rfl (by decide) (fun j hj e => ?_) (fun q => h _ _ (Or.inl ⟨n, hn, rfl, Or.inr (Or.inr (Or.inr ⟨⟨q 0 (by omega), q 1 (by omega), q 2 (by omega)⟩, rfl⟩))⟩) RN rfl)
  subst e
  refine br_c (fun q => gy_edge GE V n16 (fun r hr => h _ _ (Or.inl ⟨n, hn, rfl, Or.inl ⟨q, hr⟩⟩) RN rfl)) (fun q => br_c (fun q1 => gy_rulers GE V n16 (fun r hr => h _ _ (Or.inl ⟨n, hn, rfl, Or.inr (Or.inl ⟨q1, hr⟩)⟩) RN rfl)) (fun q1 => gy_loop GE V n16 (fun r re td hr => h _ _ (Or.inl ⟨n, hn, rfl, Or.inr (Or.inr (Or.inl ⟨?_, hr⟩))⟩) ⟨GE, GA, fun _ => V⟩ rfl)))
  have q0 : j ≠ 0 := fun z => q (by rw [z]; rfl)
  have q2 : j ≠ 1 := fun z => q1 (by rw [z]; rfl)
  have : j = 2 := by omega
  rw [this]
  rfl
end
end
section
/-! Y: merges and live -/
section
variable {f_fresh f_many f_tells f_last f_runs f_stopped : Int32} {a_actKind a_actV a_actC a_endKind a_endV a_endX a_endY a_number a_before a_behind a_reached a_todo a_words a_coming a_values a_told a_variables : Nat → Int32} {ek ex ey ak av ac ev : Nat → Nat}
theorem gy_merges_104 {post : Int32 → SY → Prop} {J94 : Int32 → Int32 → Prop} {x2 : Int32} {P : Nat → Prop} (GE : gy_GE ek ev ex ey a_endKind a_endV a_endX a_endY) (V : gy_VY ek ex ey a_number a_before a_behind) (hM : gs_Mk x2 P)
    (h : ∀ r, gs_Mk r (fun k => P k ∨ ∃ n, n < 16 ∧ P n ∧ gs_edge ek ex ey n k) → (r = x2 → J94 r 0) ∧ (¬ r = x2 → J94 r 1)) : ∃ m, wY_merges_104 post J94 x2 f_fresh f_many f_tells f_last f_runs f_stopped a_actKind a_actV a_actC a_endKind a_endV a_endX a_endY a_number a_before a_behind a_reached a_todo a_words a_coming a_values a_told a_variables m x2 0 := by
  refine pk_loop (fun m i r => wY_merges_104 post J94 x2 f_fresh f_many f_tells f_last f_runs f_stopped a_actKind a_actV a_actC a_endKind a_endV a_endX a_endY a_number a_before a_behind a_reached a_todo a_words a_coming a_values a_told a_variables m r (nI i)) (fun i r => gs_Mk r (fun k => P k ∨ ∃ n, n < i ∧ P n ∧ gs_edge ek ex ey n k)) 16 0 x2 (by omega) (gs_Mk_iff hM (fun k _ => ⟨Or.inl, fun z => z.elim id (fun ⟨n, z, _⟩ => absurd z (Nat.not_lt_zero n))⟩)) ?_ ?_
  · rintro m r hI
    exact br_t gx_x16 (h r hI)
  · rintro m i r hi hI ih
    refine br_f (gx_16 hi) ?_
    rcases gy_bit hM hi with ⟨z1, z2⟩ | ⟨z1, z2⟩
    · refine br_t z2 (gy_edge GE V hi (fun e he => nm_e (nm_r (nI_1 i) (ih _ (gs_Mk_iff (gs_Mk_or hI he) (fun k _ => ?_))))))
      constructor
      · rintro ((q | ⟨n, q1, q2⟩) | q)
        · exact Or.inl q
        · exact Or.inr ⟨n, by omega, q2⟩
        · exact Or.inr ⟨i, by omega, z1, q⟩
      · rintro (q | ⟨n, q1, q2, q3⟩)
        · exact Or.inl (Or.inl q)
        · by_cases e' : n = i
          · subst e'
            exact Or.inr q3
          · exact Or.inl (Or.inr ⟨n, by omega, q2, q3⟩)
    · refine br_f (by rw [z2]; decide) (nm_r (nI_1 i) (ih _ (gs_Mk_iff hI (fun k _ => ?_))))
      constructor
      · rintro (q | ⟨n, q1, q2⟩)
        · exact Or.inl q
        · exact Or.inr ⟨n, by omega, q2⟩
      · rintro (q | ⟨n, q1, q2, q3⟩)
        · exact Or.inl q
        · by_cases e' : n = i
          · subst e'
            exact absurd q2 z1
          · exact Or.inr ⟨n, by omega, q2, q3⟩
theorem gy_merges_94 {post : Int32 → SY → Prop} {x2 : Int32} {v : Nat} (GE : gy_GE ek ev ex ey a_endKind a_endV a_endX a_endY) (V : gy_VY ek ex ey a_number a_before a_behind) (hM : gs_Mk x2 (fun k => ∃ n, (n = 0 ∨ gs_chg ak av ek ex ey v n) ∧ gs_edge ek ex ey n k)) (h : ∀ r, gs_Mk r (gs_mg ak av ek ex ey v) → post r (f_fresh, f_many, f_tells, f_last, f_runs, f_stopped, a_actKind, a_actV, a_actC, a_endKind, a_endV, a_endX, a_endY, a_number, a_before, a_behind, a_reached, a_todo, a_words, a_coming, a_values, a_told, a_variables)) : ∃ m, wY_merges_94 post f_fresh f_many f_tells f_last f_runs f_stopped a_actKind a_actV a_actC a_endKind a_endV a_endX a_endY a_number a_before a_behind a_reached a_todo a_words a_coming a_values a_told a_variables m x2 1 := by
  have hx := GE.2.1
  have hy := GE.2.2.1
  have e16 : ∀ n k, gs_edge ek ex ey n k → n < 16 ∧ k < 16 := fun n k ⟨_, p, _, _, q1, q2⟩ => ⟨gs_sn_lt hx hy (gs_bf_sn hx hy q2), gs_E_lt ek ex ey hx hy q1⟩
  refine loop_m (fun m (s : Int32 × Int32) => wY_merges_94 post f_fresh f_many f_tells f_last f_runs f_stopped a_actKind a_actV a_actC a_endKind a_endV a_endX a_endY a_number a_before a_behind a_reached a_todo a_words a_coming a_values a_told a_variables m s.1 s.2) (fun s => (∀ k, bt s.1 k = true → k < 16 ∧ gs_mg ak av ek ex ey v k) ∧ (∀ k n, (n = 0 ∨ gs_chg ak av ek ex ey v n) → gs_edge ek ex ey n k → bt s.1 k = true) ∧ (s.2 = 0 → ∀ j k, bt s.1 j = true → gs_edge ek ex ey j k → bt s.1 k = true)) (fun s => 2 * (16 - gs_cn (bt s.1) 16) + (if s.2 = 0 then 0 else 1)) ?_ (x2, 1) ?_
  · rintro m ⟨s, f⟩ ⟨i1, i2, i3⟩ ih
    dsimp only at i1 i2 i3 ih
    refine br_c (fun z => h s (fun k => ?_)) (fun z => ?_)
    · constructor
      · exact i1 k
      · rintro ⟨_, q⟩
        refine gs_cl_i q (fun k => bt s k = true) ?_ ?_
        · rintro j ⟨n, w1, w2⟩
          exact i2 j n w1 w2
        · rintro j k _ w e
          exact i3 z j k w e
    · have hs : gs_Mk s (fun k => bt s k = true) := fun k => ⟨fun q => ⟨(i1 k q).1, q⟩, fun q => q.2⟩
      refine gy_merges_104 GE V hs (fun r hr => ?_)
      have c1 : ∀ k, bt r k = true → k < 16 ∧ gs_mg ak av ek ex ey v k := by
        intro k q
        obtain ⟨w1, w2 | ⟨n, w2, w3, w4⟩⟩ := (hr k).mp q
        · exact i1 k w2
        · exact ⟨w1, gs_cl_s (i1 n w3).2 w4⟩
      have up : ∀ k, bt s k = true → bt r k = true := fun k q => (hr k).mpr ⟨(i1 k q).1, Or.inl q⟩
      have z : ¬ f = 0 := z
      constructor
      · intro e
        have e : r = s := e
        have cl : ∀ j k, bt s j = true → gs_edge ek ex ey j k → bt s k = true := fun j k q w => by
          rw [← e]
          exact (hr k).mpr ⟨(e16 j k w).2, Or.inr ⟨j, (e16 j k w).1, q, w⟩⟩
        refine ih (r, 0) ⟨c1, fun k n q w => up k (i2 k n q w), fun _ => ?_⟩ ?_
        · dsimp only
          rw [e]
          exact cl
        · dsimp only
          rw [e, if_neg z, if_pos rfl]
          omega
      · intro e
        refine ih (r, 1) ⟨c1, fun k n q w => up k (i2 k n q w), fun q => absurd (show (1 : Int32) = 0 from q) (by decide)⟩ ?_
        have e : ¬ r = s := e
        have lt := gs_cn_lt (P := bt s) (Q := bt r) 16 (fun i _ q => up i q) (by
          apply Classical.byContradiction
          intro q
          apply e
          apply b_ext
          intro i _
          apply Bool.eq_iff_iff.mpr
          refine ⟨fun w => ?_, up i⟩
          apply Classical.byContradiction
          exact fun y => q ⟨i, (c1 i w).1, w, y⟩)
        have le := gs_cn_le (bt r) 16
        dsimp only
        rw [if_neg z, if_neg (by decide)]
        omega
  · refine ⟨fun k q => ?_, fun k n q w => ?_, fun q => absurd (show (1 : Int32) = 0 from q) (by decide)⟩
    · have := (hM k).mp q
      exact ⟨this.1, gs_cl_b this.2⟩
    · exact (hM k).mpr ⟨(e16 n k w).2, n, q, w⟩
theorem gy_m_merges {post : Int32 → SY → Prop} {p : Int32} (R : gy_RY ak av ac ek ev ex ey (f_fresh, f_many, f_tells, f_last, f_runs, f_stopped, a_actKind, a_actV, a_actC, a_endKind, a_endV, a_endX, a_endY, a_number, a_before, a_behind, a_reached, a_todo, a_words, a_coming, a_values, a_told, a_variables)) (h : ∀ r v, gs_Amg ak av ek ex ey p r → gy_RY ak av ac ek ev ex ey v → gy_run v = gy_run (f_fresh, f_many, f_tells, f_last, f_runs, f_stopped, a_actKind, a_actV, a_actC, a_endKind, a_endV, a_endX, a_endY, a_number, a_before, a_behind, a_reached, a_todo, a_words, a_coming, a_values, a_told, a_variables) → post r v) : wpY_merges post (f_fresh, f_many, f_tells, f_last, f_runs, f_stopped, a_actKind, a_actV, a_actC, a_endKind, a_endV, a_endX, a_endY, a_number, a_before, a_behind, a_reached, a_todo, a_words, a_coming, a_values, a_told, a_variables) p := by
  have R' := R
  obtain ⟨GE, GA, _⟩ := R
  have hx := GE.2.1
  have hy := GE.2.2.1
  unfold wpY_merges
  refine gy_in (m := 3) rfl (by decide) (fun v hv e => ?_) (fun q => h _ _ (Or.inr ⟨fun v hv => q v (by omega), rfl⟩) R' rfl)
  subst e
  refine gy_know GE R'.2.2 (fun f_fresh a_number a_before a_behind a_reached a_todo a_words hf V => ?_)
  have RN : gy_RY ak av ac ek ev ex ey (f_fresh, f_many, f_tells, f_last, f_runs, f_stopped, a_actKind, a_actV, a_actC, a_endKind, a_endV, a_endX, a_endY, a_number, a_before, a_behind, a_reached, a_todo, a_words, a_coming, a_values, a_told, a_variables) := ⟨GE, GA, fun _ => V⟩
  refine gy_edge (t := 0) GE V (by omega) (fun e0 he0 => ?_)
  refine pk_loop (fun m i r => wY_merges_23 post (nI v) f_fresh f_many f_tells f_last f_runs f_stopped a_actKind a_actV a_actC a_endKind a_endV a_endX a_endY a_number a_before a_behind a_reached a_todo a_words a_coming a_values a_told a_variables m r (nI i)) (fun i r => gs_Mk r (fun k => ∃ n, (n = 0 ∨ (n < i ∧ gs_chg ak av ek ex ey v n)) ∧ gs_edge ek ex ey n k)) 16 0 e0 (by omega) (gs_Mk_iff he0 (fun k _ => ⟨fun z => ⟨0, Or.inl rfl, z⟩, fun ⟨n, z1, z2⟩ => by
    rcases z1 with z1 | z1
    · exact z1 ▸ z2
    · exact absurd z1.1 (Nat.not_lt_zero n)⟩)) ?_ ?_
  · rintro m r hI
    refine br_t gx_x16 (gy_merges_94 (ak := ak) (av := av) (v := v) GE V (gs_Mk_iff hI (fun k _ => ?_)) (fun r hr => h _ _ (Or.inl ⟨v, by omega, rfl, hr⟩) RN rfl))
    constructor
    · rintro ⟨n, z1, z2⟩
      exact ⟨n, z1.imp id (fun z => z.2), z2⟩
    · rintro ⟨n, z1, z2⟩
      exact ⟨n, z1.imp id (fun z => ⟨gs_sn_lt hx hy z.1, z⟩), z2⟩
  · rintro m i r hi hI ih
    obtain ⟨g1, g2, g3, g4, g5, g6, g7⟩ := GA
    have ka := g1 i
    have va := g2 i
    have keep : ¬ gs_chg ak av ek ex ey v i → wY_merges_23 post (nI v) f_fresh f_many f_tells f_last f_runs f_stopped a_actKind a_actV a_actC a_endKind a_endV a_endX a_endY a_number a_before a_behind a_reached a_todo a_words a_coming a_values a_told a_variables m r (nI (i + 1)) := fun q => ih r (gs_Mk_iff hI (fun k _ => by
      constructor
      · rintro ⟨n, z1, z2⟩
        exact ⟨n, z1.imp id (fun z => ⟨by omega, z.2⟩), z2⟩
      · rintro ⟨n, z1 | ⟨z1, z3⟩, z2⟩
        · exact ⟨n, Or.inl z1, z2⟩
        · by_cases e : n = i
          · exact absurd (e ▸ z3) q
          · exact ⟨n, Or.inr ⟨by omega, z3⟩, z2⟩))
    have no : ¬ gs_chg ak av ek ex ey v i → wY_merges_62 post (wY_merges_23 post (nI v) f_fresh f_many f_tells f_last f_runs f_stopped a_actKind a_actV a_actC a_endKind a_endV a_endX a_endY a_number a_before a_behind a_reached a_todo a_words a_coming a_values a_told a_variables m) (nI v) r (nI i) f_fresh f_many f_tells f_last f_runs f_stopped a_actKind a_actV a_actC a_endKind a_endV a_endX a_endY a_number a_before a_behind a_reached a_todo a_words a_coming a_values a_told a_variables := by
      intro q
      unfold wY_merges_62 wY_merges_63
      exact gy_sn hx hy V.1 hi (fun _ => br_t rfl (nm_r (nI_1 i) (keep q))) (fun _ => nm_r (nI_1 i) (keep q))
    refine br_f (gx_16 hi) ⟨gx_in hi, ?_⟩
    rw [gx_cl hi, g5]
    refine pk_le (ak i) 0 (fun z => no (fun q => by have := q.2.1; omega)) (fun z => ⟨gx_in hi, pk_eq (ak i) 4 (fun y => no (fun q => by have := q.2.1; omega)) (fun y => ⟨gx_in hi, ?_⟩)⟩)
    rw [g6 i (by omega)]
    refine pk_eq (av i) v (fun w => ?_) (fun w => no (fun q => w q.2.2))
    unfold wY_merges_63
    refine gy_sn hx hy V.1 hi (fun s => br_f (by decide) (gy_edge GE V hi (fun e he => nm_e (nm_r (nI_1 i) (ih _ (gs_Mk_iff (gs_Mk_or hI he) (fun k _ => ?_))))))) (fun s => nm_r (nI_1 i) (keep (fun q => s q.1)))
    constructor
    · rintro (⟨n, z1, z2⟩ | z2)
      · exact ⟨n, z1.imp id (fun z => ⟨by omega, z.2⟩), z2⟩
      · exact ⟨i, Or.inr ⟨by omega, s, by omega, w⟩, z2⟩
    · rintro ⟨n, z1 | ⟨z1, z3⟩, z2⟩
      · exact Or.inl ⟨n, Or.inl z1, z2⟩
      · by_cases e' : n = i
        · subst e'
          exact Or.inr z2
        · exact Or.inl ⟨n, Or.inr ⟨by omega, z3⟩, z2⟩
theorem gy_looks {A B : Prop} {n v : Nat} (GA : gy_GA ak av ac a_actKind a_actV a_actC) (hn : n < 16) (hv : v < 4) (ht : gs_look ak av ac n v → B) (hf : ¬ gs_look ak av ac n v → A) : wpY_looks (fun r => (r = 0 → A) ∧ (¬ r = 0 → B)) (f_fresh, f_many, f_tells, f_last, f_runs, f_stopped, a_actKind, a_actV, a_actC, a_endKind, a_endV, a_endX, a_endY, a_number, a_before, a_behind, a_reached, a_todo, a_words, a_coming, a_values, a_told, a_variables) (nI n) (nI v) := by
  obtain ⟨g1, g2, g3, g4, g5, g6, g7⟩ := GA
  have ka := g1 n
  have va := g2 n
  have s2 : ¬ ((ak n = 2 ∨ ak n = 4) ∧ av n = v) → wY_looks_27 (fun r => (r = 0 → A) ∧ (¬ r = 0 → B)) (nI n) (nI v) (nI (ak n)) f_fresh f_many f_tells f_last f_runs f_stopped a_actKind a_actV a_actC a_endKind a_endV a_endX a_endY a_number a_before a_behind a_reached a_todo a_words a_coming a_values a_told a_variables := by
    intro q
    refine pk_eq (ak n) 3 (fun z => ⟨gx_in hn, ?_⟩) (fun z => br_t rfl (hf (fun w => w.elim q (fun w => z w.1))))
    rw [gx_cl hn, g7 n (Or.inr (Or.inr z))]
    have := g4 n z
    exact pk_eq (ac n) v (fun y => br_f (by decide) (ht (Or.inr ⟨z, y⟩))) (fun y => br_t rfl (hf (fun w => w.elim q (fun w => y w.2))))
  have s1 : (ak n = 2 ∨ ak n = 4) → wY_looks_17 (fun r => (r = 0 → A) ∧ (¬ r = 0 → B)) (nI n) (nI v) (nI (ak n)) f_fresh f_many f_tells f_last f_runs f_stopped a_actKind a_actV a_actC a_endKind a_endV a_endX a_endY a_number a_before a_behind a_reached a_todo a_words a_coming a_values a_told a_variables := by
    intro q
    refine ⟨gx_in hn, ?_⟩
    rw [gx_cl hn, g6 n (by omega)]
    exact pk_eq (av n) v (fun y => br_f (by decide) (ht (Or.inl ⟨q, y⟩))) (fun y => s2 (fun w => y w.2))
  refine ⟨gx_in hn, nm_r (e' := nI (ak n)) (by rw [gx_cl hn, g5]) (pk_eq (ak n) 2 (fun z => s1 (Or.inl z)) (fun z => pk_eq (ak n) 4 (fun y => s1 (Or.inr y)) (fun y => s2 (fun w => by have := w.1; omega))))⟩
theorem gy_replaces {A B : Prop} {n v : Nat} (GA : gy_GA ak av ac a_actKind a_actV a_actC) (hn : n < 16) (hv : v < 4) (ht : gs_rep ak av n v → B) (hf : ¬ gs_rep ak av n v → A) : wpY_replaces (fun r => (r = 0 → A) ∧ (¬ r = 0 → B)) (f_fresh, f_many, f_tells, f_last, f_runs, f_stopped, a_actKind, a_actV, a_actC, a_endKind, a_endV, a_endX, a_endY, a_number, a_before, a_behind, a_reached, a_todo, a_words, a_coming, a_values, a_told, a_variables) (nI n) (nI v) := by
  obtain ⟨g1, g2, g3, g4, g5, g6, g7⟩ := GA
  have ka := g1 n
  have va := g2 n
  have s1 : (ak n = 1 ∨ ak n = 3 ∨ ak n = 5) → wY_replaces_22 (fun r => (r = 0 → A) ∧ (¬ r = 0 → B)) (nI n) (nI v) f_fresh f_many f_tells f_last f_runs f_stopped a_actKind a_actV a_actC a_endKind a_endV a_endX a_endY a_number a_before a_behind a_reached a_todo a_words a_coming a_values a_told a_variables := by
    intro q
    refine ⟨gx_in hn, ?_⟩
    rw [gx_cl hn, g6 n (by omega)]
    exact pk_eq (av n) v (fun y => br_f (by decide) (ht ⟨q, y⟩)) (fun y => br_t rfl (hf (fun w => y w.2)))
  refine ⟨gx_in hn, nm_r (e' := nI (ak n)) (by rw [gx_cl hn, g5]) (pk_eq (ak n) 1 (fun z => s1 (Or.inl z)) (fun z => pk_eq (ak n) 3 (fun y => s1 (Or.inr (Or.inl y))) (fun y => pk_eq (ak n) 5 (fun x => s1 (Or.inr (Or.inr x))) (fun x => br_t rfl (hf (fun w => by have := w.1; omega))))))⟩
theorem gy_isLive_115 {post : Int32 → SY → Prop} {J40 : Int32 → (Nat → Int32) → (Nat → Int32) → (Nat → Int32) → (Nat → Int32) → (Nat → Int32) → (Nat → Int32) → (Nat → Int32) → (Nat → Int32) → (Nat → Int32) → (Nat → Int32) → (Nat → Int32) → (Nat → Int32) → (Nat → Int32) → (Nat → Int32) → (Nat → Int32) → (Nat → Int32) → (Nat → Int32) → Prop} {x2 : Int32} {E : Nat → Nat → Prop} {C H : Nat → Prop} {a n : Nat} {st : List Nat} {rb td : Nat → Int32} (GE : gy_GE ek ev ex ey a_endKind a_endV a_endX a_endY) (hn : n < 16) (hE : ∀ k, E n k ↔ gs_E ek ex ey n k) (hC : ∀ k, gs_E ek ex ey n k → C k) (h0 : gy_RI E C a st rb (fun m => m = n)) (hH : ∀ m, m < 16 → rb m = 1 → m ∉ st → ¬ H m) (hst : gs_st td st)
    (h : ∀ st' rb' td', gy_RI E C a st' rb' (fun _ => False) → (∀ m, m < 16 → rb' m = 1 → m ∉ st' → ¬ H m) → gs_st td' st' → gy_mu st' rb' ≤ gy_mu st rb → J40 (nI st'.length) a_actKind a_actV a_actC a_endKind a_endV a_endX a_endY a_number a_before a_behind rb' td' a_words a_coming a_values a_told a_variables) : ∃ m, wY_isLive_115 post J40 x2 (nI n) (nI (gs_af ek ex ey n)) f_fresh f_many f_tells f_last f_runs f_stopped m (nI st.length) 0 a_actKind a_actV a_actC a_endKind a_endV a_endX a_endY a_number a_before a_behind rb td a_words a_coming a_values a_told a_variables := by
  have hx := GE.2.1
  have hy := GE.2.2.1
  have af2 := gs_af_le ek ex ey n
  refine pk_loop (fun m i (s : List Nat × (Nat → Int32) × (Nat → Int32)) => wY_isLive_115 post J40 x2 (nI n) (nI (gs_af ek ex ey n)) f_fresh f_many f_tells f_last f_runs f_stopped m (nI s.1.length) (nI i) a_actKind a_actV a_actC a_endKind a_endV a_endX a_endY a_number a_before a_behind s.2.1 s.2.2 a_words a_coming a_values a_told a_variables) (fun i s => gy_RI E C a s.1 s.2.1 (fun m => m = n) ∧ (∀ m, m < 16 → s.2.1 m = 1 → m ∉ s.1 → ¬ H m) ∧ gs_st s.2.2 s.1 ∧ gy_mu s.1 s.2.1 ≤ gy_mu st rb ∧ ∀ k, k < i → s.2.1 (gs_ns ex ey n k) = 1) (gs_af ek ex ey n) 0 (st, rb, td) (by omega) ⟨h0, hH, hst, Nat.le_refl _, fun k hk => absurd hk (Nat.not_lt_zero k)⟩ ?_ ?_
  · rintro m ⟨st1, rb1, td1⟩ ⟨⟨r1, r2, r3, r4, r5, r6⟩, qh, q2, q3, q4⟩
    refine br_t (nI_le (Nat.le_refl _) (by omega)) (h _ _ _ ⟨r1, r2, r3, fun p hp z1 z2 z3 k hk e => ?_, r5, r6⟩ qh q2 q3)
    by_cases e1 : p = n
    · subst e1
      obtain ⟨k', k1, k2⟩ := (gs_E_af ek ex ey GE.1).mp ((hE k).mp e)
      subst k2
      exact q4 k' k1
    · exact r4 p hp z1 z2 e1 k hk e
  · rintro m i ⟨st1, rb1, td1⟩ hi ⟨q1, qh, q2, q3, q4⟩ ih
    dsimp only at q1 qh q2 q3 q4
    have s16 := gs_ns_lt hx hy n i
    have hEE : gs_E ek ex ey n (gs_ns ex ey n i) := (gs_E_af ek ex ey GE.1).mpr ⟨i, hi, rfl⟩
    refine br_f (nI_ge hi (by omega)) (gy_succ GE hn hi ⟨gx_in s16, ?_⟩)
    dsimp only
    rw [gx_cl s16]
    refine br_c (fun y => ?_) (fun y => ?_)
    · have pu := gy_RI_push q1 s16 y (hC _ hEE)
      have cl := pu.1.2.2.2.2.2
      have le := gs_cn_le (fun p => decide (upd rb1 (gs_ns ex ey n i) 1 p = 1)) 16
      simp only [List.length_cons] at cl
      refine ⟨gx_in s16, nm_r (e' := upd rb1 (gs_ns ex ey n i) 1) rfl (nm_r (nI_1 _) ⟨vp_in_nI (by omega) (by decide), nm_r (e' := upd td1 st1.length (nI (gs_ns ex ey n i))) (by rw [nI_clamp (by omega)]) (nm_r (nI_1 i) (ih (gs_ns ex ey n i :: st1, upd rb1 (gs_ns ex ey n i) 1, upd td1 st1.length (nI (gs_ns ex ey n i))) ⟨pu.1, fun p hp w1 w2 => ?_, gs_st_push q2, by have := pu.2; dsimp only; omega, fun k hk => ?_⟩))⟩)⟩
      · have pn : p ≠ gs_ns ex ey n i := fun z => w2 (List.mem_cons.mpr (Or.inl z))
        have w1 := (pk_un pn).symm.trans w1
        exact qh p hp w1 (fun z => w2 (List.mem_cons_of_mem _ z))
      · by_cases e : gs_ns ex ey n k = gs_ns ex ey n i
        · dsimp only
          rw [e]
          exact pk_us
        · have : k ≠ i := fun z => e (by rw [z])
          exact (pk_un e).trans (q4 k (by omega))
    · refine nm_r (nI_1 i) (ih (st1, rb1, td1) ⟨q1, qh, q2, q3, fun k hk => ?_⟩)
      by_cases e : k = i
      · subst e
        exact (q1.1 _ s16).resolve_left y
      · exact q4 k (by omega)
theorem gy_isLive {post : Int32 → SY → Prop} {a v : Nat} (GE : gy_GE ek ev ex ey a_endKind a_endV a_endX a_endY) (GA : gy_GA ak av ac a_actKind a_actV a_actC) (ha : a < 16) (hv : v < 4)
    (h : ∀ r re td, (r = 1 ∧ gs_liv ak av ac ek ev ex ey v a) ∨ (r = 0 ∧ ¬ gs_liv ak av ac ek ev ex ey v a) → post r (f_fresh, f_many, f_tells, f_last, f_runs, f_stopped, a_actKind, a_actV, a_actC, a_endKind, a_endV, a_endX, a_endY, a_number, a_before, a_behind, re, td, a_words, a_coming, a_values, a_told, a_variables)) : wpY_isLive post (f_fresh, f_many, f_tells, f_last, f_runs, f_stopped, a_actKind, a_actV, a_actC, a_endKind, a_endV, a_endX, a_endY, a_number, a_before, a_behind, a_reached, a_todo, a_words, a_coming, a_values, a_told, a_variables) (nI a) (nI v) := by
  have hx := GE.2.1
  have hy := GE.2.2.1
  refine pk_loop (fun m i (s : Nat → Int32) => wY_isLive_2 post (nI a) (nI v) f_fresh f_many f_tells f_last f_runs f_stopped m (nI i) a_actKind a_actV a_actC a_endKind a_endV a_endX a_endY a_number a_before a_behind s a_todo a_words a_coming a_values a_told a_variables) (fun i s => ∀ j, j < i → s j = 0) 16 0 a_reached (by omega) (fun j hj => absurd hj (Nat.not_lt_zero j)) ?_ ?_
  · rintro m s0 hI0
    refine br_t gx_x16 (nm_r (e' := nI 1) rfl (nm_e ⟨gx_in ha, nm_r (e' := upd s0 a 1) (by rw [gx_cl ha]; rfl) ?_⟩))
    have c1 := gs_cn_pos (P := fun n => decide (upd s0 a 1 n = 1)) (i := a) 16 ha (by rw [pk_us]; rfl)
    refine loop_m (fun m (s : List Nat × (Nat → Int32) × (Nat → Int32)) => wY_isLive_40 post (nI v) f_fresh f_many f_tells f_last f_runs f_stopped m (nI s.1.length) a_actKind a_actV a_actC a_endKind a_endV a_endX a_endY a_number a_before a_behind s.2.1 s.2.2 a_words a_coming a_values a_told a_variables) (fun s => gy_RI (fun j k => gs_E ek ex ey j k ∧ ¬ gs_rep ak av j v) (gs_cl (fun x => x = a) (fun j k => gs_E ek ex ey j k ∧ ¬ gs_rep ak av j v)) a s.1 s.2.1 (fun _ => False) ∧ (∀ m, m < 16 → s.2.1 m = 1 → m ∉ s.1 → ¬ gs_hit ak av ac ek ev m v) ∧ gs_st s.2.2 s.1) (fun s => gy_mu s.1 s.2.1) ?_ ([a], upd s0 a 1, upd a_todo 0 (nI a)) ?_
    · rintro m ⟨st, rb, td⟩ ⟨q1, qh, q2⟩ ih
      dsimp only at q1 qh q2
      cases st with
      | nil =>
        refine br_t (show nI 0 ≤ (0 : Int32) by decide) (h 0 rb td (Or.inr ⟨rfl, ?_⟩))
        rintro ⟨p, w1, w2⟩
        obtain ⟨r1, r2, r3, r4, r5, r6⟩ := q1
        have cls := gs_cl_i w1 (fun n => n < 16 ∧ rb n = 1) ?_ ?_
        · exact qh p cls.1 cls.2 (fun z => nomatch z) w2
        · rintro j rfl
          exact ⟨ha, r5⟩
        · rintro j k _ ⟨s1, s2⟩ e
          have k16 := gs_E_lt ek ex ey hx hy e.1
          exact ⟨k16, r4 j s1 s2 (fun z => nomatch z) id k k16 e⟩
      | cons n st =>
        have len := q1.2.2.2.2.2
        have le := gs_cn_le (fun p => decide (rb p = 1)) 16
        simp only [List.length_cons] at len
        have hn := q1.2.1 n List.mem_cons_self
        have hcl := q1.2.2.1 n hn.1 hn.2
        have pp := gy_RI_pop q1
        have nohit : ¬ gs_hit ak av ac ek ev n v → ∀ m, m < 16 → rb m = 1 → m ∉ st → ¬ gs_hit ak av ac ek ev m v := by
          intro w m hm w1 w2
          by_cases e : m = n
          · exact e ▸ w
          · exact qh m hm w1 (fun z => (List.mem_cons.mp z).elim e w2)
        have yes : gs_hit ak av ac ek ev n v → post 1 (f_fresh, f_many, f_tells, f_last, f_runs, f_stopped, a_actKind, a_actV, a_actC, a_endKind, a_endV, a_endX, a_endY, a_number, a_before, a_behind, rb, td, a_words, a_coming, a_values, a_told, a_variables) := fun w => h 1 rb td (Or.inl ⟨rfl, n, hcl, w⟩)
        refine br_f (nI_nle (by simp) (by simp only [List.length_cons]; omega)) (nm_r (e' := nI st.length) (pk_m1 _) ⟨vp_in_nI (by omega) (by decide), nm_r (e' := nI n) (by rw [nI_clamp (by omega)]; exact q2.1) (gy_looks GA hn.1 hv (fun w => yes (Or.inl w)) (fun w1 => gy_replaces GA hn.1 hv (fun w2 => ?_) (fun w2 => ?_)))⟩)
        · refine ih (st, rb, td) ⟨⟨pp.1.1, pp.1.2.1, pp.1.2.2.1, fun m hm y1 y2 _ k hk e => ?_, pp.1.2.2.2.2.1, pp.1.2.2.2.2.2⟩, nohit (fun z => z.elim w1 (fun z => z.1 w2)), q2.2⟩ pp.2
          by_cases e1 : m = n
          · subst e1
            exact absurd w2 e.2
          · exact pp.1.2.2.2.1 m hm y1 y2 e1 k hk e
        · have k2 := GE.1 n
          have go : ¬ (ek n = 2 ∧ ev n = v) → wY_isLive_104 post (wY_isLive_40 post (nI v) f_fresh f_many f_tells f_last f_runs f_stopped m) (nI v) (nI st.length) (nI n) f_fresh f_many f_tells f_last f_runs f_stopped a_actKind a_actV a_actC a_endKind a_endV a_endX a_endY a_number a_before a_behind rb td a_words a_coming a_values a_told a_variables := by
            intro w3
            refine gy_after GE hn.1 (gy_isLive_115 (H := fun m => gs_hit ak av ac ek ev m v) GE hn.1 (fun k => ⟨fun z => z.1, fun z => ⟨z, w2⟩⟩) (fun k z => gs_cl_s hcl ⟨z, w2⟩) pp.1 (nohit (fun z => z.elim w1 (fun z => w3 z.2))) q2.2 (fun st' rb' td' z1 z2 z3 z4 => ih (st', rb', td') ⟨z1, z2, z3⟩ ?_))
            have := pp.2
            have z4 : gy_mu st' rb' ≤ gy_mu st rb := z4
            dsimp only
            omega
          refine ⟨gx_in hn.1, ?_⟩
          rw [gx_cl hn.1, GE.2.2.2.2.1]
          refine pk_eq (ek n) 2 (fun y => ⟨gx_in hn.1, ?_⟩) (fun y => go (fun z => y z.1))
          have := GE.2.2.2.1 n
          rw [GE.2.2.2.2.2.2.2 n y]
          exact pk_eq (ev n) v (fun x => yes (Or.inr ⟨w2, y, x⟩)) (fun x => go (fun z => x z.2))
    · refine ⟨⟨fun n hn => ?_, fun n hn => ?_, fun n hn q => ?_, fun n hn q x => ?_, pk_us, c1⟩, fun n hn q x => ?_, ⟨rfl, trivial⟩⟩
      · by_cases e : n = a
        · subst e
          exact Or.inr pk_us
        · exact Or.inl ((pk_un e).trans (hI0 n hn))
      · rcases List.mem_cons.mp hn with rfl | hn
        · exact ⟨ha, pk_us⟩
        · cases hn
      · by_cases e : n = a
        · exact gs_cl_b e
        · have := (pk_un e).symm.trans q
          rw [hI0 n hn] at this
          exact absurd this (by decide)
      · by_cases e : n = a
        · subst e
          exact absurd List.mem_cons_self x
        · have := (pk_un e).symm.trans q
          rw [hI0 n hn] at this
          exact absurd this (by decide)
      · by_cases e : n = a
        · subst e
          exact absurd List.mem_cons_self x
        · have := (pk_un e).symm.trans q
          rw [hI0 n hn] at this
          exact absurd this (by decide)
  · rintro m i s hi hI ih
    refine br_f (gx_16 hi) ⟨gx_in hi, nm_r (e' := upd s i 0) (by rw [gx_cl hi]; rfl) (nm_r (nI_1 i) (ih _ (fun j hj => ?_)))⟩
    by_cases e : j = i
    · subst e
      exact pk_us
    · exact (pk_un e).trans (hI j (by omega))
theorem gs_liv_4 (GA : gy_GA ak av ac a_actKind a_actV a_actC) (hev : ∀ n, ev n < 4) {v n : Nat} (h : gs_liv ak av ac ek ev ex ey v n) : v < 4 := by
  obtain ⟨m, _, (⟨_, h⟩ | ⟨h1, h⟩) | ⟨_, _, h⟩⟩ := h
  · have := GA.2.1 m
    omega
  · have := GA.2.2.2.1 m h1
    omega
  · have := hev m
    omega
theorem gy_m_live {post : Int32 → SY → Prop} {p : Int32} (R : gy_RY ak av ac ek ev ex ey (f_fresh, f_many, f_tells, f_last, f_runs, f_stopped, a_actKind, a_actV, a_actC, a_endKind, a_endV, a_endX, a_endY, a_number, a_before, a_behind, a_reached, a_todo, a_words, a_coming, a_values, a_told, a_variables)) (h : ∀ r v, gs_Q ek ex ey (fun n r => gs_Mk r (fun v => gs_liv ak av ac ek ev ex ey v n)) p r → gy_RY ak av ac ek ev ex ey v → gy_run v = gy_run (f_fresh, f_many, f_tells, f_last, f_runs, f_stopped, a_actKind, a_actV, a_actC, a_endKind, a_endV, a_endX, a_endY, a_number, a_before, a_behind, a_reached, a_todo, a_words, a_coming, a_values, a_told, a_variables) → post r v) : wpY_live post (f_fresh, f_many, f_tells, f_last, f_runs, f_stopped, a_actKind, a_actV, a_actC, a_endKind, a_endV, a_endX, a_endY, a_number, a_before, a_behind, a_reached, a_todo, a_words, a_coming, a_values, a_told, a_variables) p := by
  have R' := R
  obtain ⟨GE, GA, _⟩ := R
  have hx := GE.2.1
  have hy := GE.2.2.1
  unfold wpY_live
  refine gy_know GE R'.2.2 (fun f_fresh a_number a_before a_behind a_reached a_todo a_words hf V => ?_)
  have RN : gy_RY ak av ac ek ev ex ey (f_fresh, f_many, f_tells, f_last, f_runs, f_stopped, a_actKind, a_actV, a_actC, a_endKind, a_endV, a_endX, a_endY, a_number, a_before, a_behind, a_reached, a_todo, a_words, a_coming, a_values, a_told, a_variables) := ⟨GE, GA, fun _ => V⟩
  refine gy_seen hx hy V.1 (fun n hn e => ?_) (fun q => h _ _ (Or.inr ⟨q, rfl⟩) RN rfl)
  subst e
  have n16 := gs_sn_lt hx hy hn
  refine pk_loop (fun m i (s : Int32 × (Nat → Int32) × (Nat → Int32)) => wY_live_18 post (nI n) m s.1 (nI i) f_fresh f_many f_tells f_last f_runs f_stopped a_actKind a_actV a_actC a_endKind a_endV a_endX a_endY a_number a_before a_behind s.2.1 s.2.2 a_words a_coming a_values a_told a_variables) (fun i s => gs_Mk s.1 (fun v => v < i ∧ gs_liv ak av ac ek ev ex ey v n)) 4 0 (0, a_reached, a_todo) (by omega) (gs_Mk_0 (fun i _ z => absurd z.1 (Nat.not_lt_zero i))) ?_ ?_
  · rintro m s hI
    exact br_t (by decide) (h _ _ (Or.inl ⟨n, hn, rfl, gs_Mk_iff hI (fun v _ => ⟨fun z => z.2, fun z => ⟨gs_liv_4 GA GE.2.2.2.1 z, z⟩⟩)⟩) ⟨GE, GA, fun _ => V⟩ rfl)
  · rintro m i ⟨s, re, td⟩ hi hI ih
    dsimp only at hI
    refine br_f (nI_ge (b := 4) hi (by decide)) (gy_isLive GE GA n16 hi (fun r re td hr => ?_))
    rcases hr with ⟨z1, z2⟩ | ⟨z1, z2⟩
    · rw [z1]
      refine br_f (by decide) (nm_e (nm_r (nI_1 i) (ih (_, re, td) (gs_Mk_iff (gs_Mk_set hI (by omega)) (fun v _ => ?_)))))
      constructor
      · rintro (q | rfl)
        · exact ⟨by omega, q.2⟩
        · exact ⟨by omega, z2⟩
      · rintro ⟨q1, q2⟩
        by_cases e : v = i
        · exact Or.inr e
        · exact Or.inl ⟨by omega, q2⟩
    · rw [z1]
      refine br_t rfl (nm_r (nI_1 i) (ih (s, re, td) (gs_Mk_iff hI (fun v _ => ?_))))
      constructor
      · exact fun q => ⟨by omega, q.2⟩
      · rintro ⟨q1, q2⟩
        by_cases e : v = i
        · exact absurd (e ▸ q2) z2
        · exact ⟨by omega, q2⟩
end
end
section
/-! Y: known values -/
theorem gy_ix4 (n v : Nat) : 4 * nI n + nI v = nI (4 * n + v) := by
  rw [show (4 : Int32) = nI 4 from rfl, pk_mul, nI_add]
theorem gy_or {x r : Int32} (hx : x = 0 ∨ x = 1) (hr : r = 0 ∨ r = 1) : x ||| r = if r = 0 then x else 1 := by
  rcases hx with rfl | rfl <;> rcases hr with rfl | rfl <;> decide
theorem gs_fl_01 (a b : Nat → Nat) : gs_fl a b = 0 ∨ gs_fl a b = 1 := by
  by_cases z : b = a
  · exact Or.inl (gs_fl_0 z)
  · exact Or.inr (gs_fl_1 z)
section
variable {f_fresh f_many f_tells f_last f_runs f_stopped : Int32} {a_actKind a_actV a_actC a_endKind a_endV a_endX a_endY a_number a_before a_behind a_reached a_todo a_words a_coming a_values a_told a_variables : Nat → Int32} {ek ex ey ak av ac ev : Nat → Nat}
theorem gy_made {post : Int32 → Prop} {kv : Nat → Nat} {n v : Nat} (GA : gy_GA ak av ac a_actKind a_actV a_actC) (hK : ∀ i, i < 64 → a_values i = gs_kd (kv i)) (hle : ∀ i, kv i ≤ 17) (hn : n < 16) (hv : v < 4) (hall : ∀ v, v < 4 → kv (4 * n + v) ≠ 0)
    (h : post (gs_kd (gs_md ak av ac kv n v))) : wpY_made post (f_fresh, f_many, f_tells, f_last, f_runs, f_stopped, a_actKind, a_actV, a_actC, a_endKind, a_endV, a_endX, a_endY, a_number, a_before, a_behind, a_reached, a_todo, a_words, a_coming, a_values, a_told, a_variables) (nI n) (nI v) := by
  obtain ⟨g1, g2, g3, g4, g5, g6, g7⟩ := GA
  have av4 := g2 n
  have ac16 := g3 n
  have ak5 := g1 n
  unfold wpY_made
  refine ⟨by rw [gy_ix4]; exact vp_in_nI (by omega) (by decide), nm_r (e' := gs_kd (kv (4 * n + v))) (by rw [gy_ix4, nI_clamp (by omega)]; exact hK _ (by omega)) ⟨gx_in hn, ?_⟩⟩
  simp only [gx_cl hn, g5]
  have hc : ak n = 0 ∨ ak n = 4 ∨ (ak n = 1 ∨ ak n = 2 ∨ ak n = 3 ∨ ak n = 5) := by omega
  unfold gs_md at h
  rcases hc with c | c | hc
  · have e : (if v ≠ av n then kv (4 * n + v) else if ak n = 1 then ac n + 1 else if ak n = 2 then (if kv (4 * n + v) = 17 then 17 else (kv (4 * n + v) - 1 + ac n) % 16 + 1) else if ak n = 3 then kv (4 * n + ac n) else if ak n = 5 then 17 else kv (4 * n + v)) = kv (4 * n + v) := by
      rw [c]
      split <;> rfl
    rw [e] at h
    rw [c]
    exact br_t rfl h
  · have e : (if v ≠ av n then kv (4 * n + v) else if ak n = 1 then ac n + 1 else if ak n = 2 then (if kv (4 * n + v) = 17 then 17 else (kv (4 * n + v) - 1 + ac n) % 16 + 1) else if ak n = 3 then kv (4 * n + ac n) else if ak n = 5 then 17 else kv (4 * n + v)) = kv (4 * n + v) := by
      rw [c]
      split <;> rfl
    rw [e] at h
    rw [c]
    exact br_f (by decide) ⟨gx_in hn, br_t rfl h⟩
  · rw [g6 n (by omega)]
    refine pk_eq (ak n) 0 (fun w => by omega) (fun _ => ⟨gx_in hn, pk_eq (ak n) 4 (fun w => by omega) (fun _ => ⟨gx_in hn, pk_eq (av n) v (fun z => ⟨gx_in hn, ?_⟩) (fun z => ?_)⟩)⟩)
    · rw [if_neg (fun w => w z.symm)] at h
      refine pk_eq (ak n) 1 (fun c => ⟨gx_in hn, ?_⟩) (fun c1 => ⟨gx_in hn, pk_eq (ak n) 2 (fun c => ?_) (fun c2 => ⟨gx_in hn, pk_eq (ak n) 3 (fun c => ⟨gx_in hn, ?_, ?_⟩) (fun c3 => ?_)⟩)⟩)
      · rw [if_pos c, gx_kd_s] at h
        rw [g7 n (Or.inl c)]
        exact h
      · rw [if_neg c1, if_pos c] at h
        have h17 := hle (4 * n + v)
        have h0 := hall v hv
        by_cases q : kv (4 * n + v) = 17
        · rw [if_pos q] at h
          rw [q]
          exact br_t rfl h
        · rw [if_neg q, gx_kd_s] at h
          obtain ⟨b, hb⟩ : ∃ b, kv (4 * n + v) = b + 1 := ⟨kv (4 * n + v) - 1, by omega⟩
          rw [hb, gx_kd_s]
          rw [hb, Nat.add_sub_cancel] at h
          refine br_f (fun w => ?_) ⟨gx_in hn, ?_⟩
          · have := (nI_eq (b := 16) (by omega) (by decide)).mp w
            omega
          · rw [g7 n (Or.inr (Or.inl c)), nI_add, pk_andN (by omega) 4 (by decide)]
            exact h
      · rw [g7 n (Or.inr (Or.inr c)), gy_ix4]
        have := g4 n c
        exact vp_in_nI (by omega) (by decide)
      · rw [if_neg c1, if_neg c2, if_pos c] at h
        have := g4 n c
        rw [g7 n (Or.inr (Or.inr c)), gy_ix4, nI_clamp (by omega), hK _ (by omega)]
        exact h
      · rw [if_neg c1, if_neg c2, if_neg c3, if_pos (by omega)] at h
        exact h
    · rw [if_pos (fun w => z w.symm)] at h
      exact h
theorem gy_comes {post : Int32 → SY → Prop} {kw : Nat → Nat} {t v g : Nat} (hK : ∀ i, i < 64 → a_values i = gs_kd (kw i)) (hle : ∀ i, kw i ≤ 17) (hg : g ≤ 17) (ht : t < 16) (hv : v < 4)
    (h : ∀ r a, (r = if gs_jn (kw (4 * t + v)) g = kw (4 * t + v) then 0 else 1) → (∀ i, i < 64 → a i = gs_kd (gs_un1 kw (4 * t + v) (gs_jn (kw (4 * t + v)) g) i)) → post r (f_fresh, f_many, f_tells, f_last, f_runs, f_stopped, a_actKind, a_actV, a_actC, a_endKind, a_endV, a_endX, a_endY, a_number, a_before, a_behind, a_reached, a_todo, a_words, a_coming, a, a_told, a_variables)) : wpY_comes post (f_fresh, f_many, f_tells, f_last, f_runs, f_stopped, a_actKind, a_actV, a_actC, a_endKind, a_endV, a_endX, a_endY, a_number, a_before, a_behind, a_reached, a_todo, a_words, a_coming, a_values, a_told, a_variables) (nI t) (nI v) (gs_kd g) := by
  have hl := hle (4 * t + v)
  have inn : vp_in (4 * nI t + nI v) 64 := by rw [gy_ix4]; exact vp_in_nI (by omega) (by decide)
  have cl : (4 * nI t + nI v).toNatClampNeg = 4 * t + v := by rw [gy_ix4]; exact nI_clamp (by omega)
  have key : wY_comes_34 post (nI t) (nI v) (gs_kd (kw (4 * t + v))) (gs_kd (gs_jn (kw (4 * t + v)) g)) f_fresh f_many f_tells f_last f_runs f_stopped a_actKind a_actV a_actC a_endKind a_endV a_endX a_endY a_number a_before a_behind a_reached a_todo a_words a_coming a_values a_told a_variables := by
    have hj := gs_jn_le (h := kw (4 * t + v)) hg
    have ha : ∀ i, i < 64 → upd a_values (4 * t + v) (gs_kd (gs_jn (kw (4 * t + v)) g)) i = gs_kd (gs_un1 kw (4 * t + v) (gs_jn (kw (4 * t + v)) g) i) := by
      intro i hi
      unfold gs_un1
      by_cases q : i = 4 * t + v
      · rw [if_pos q, q]
        exact pk_us
      · rw [if_neg q]
        exact (pk_un q).trans (hK i hi)
    refine ⟨inn, nm_r (e' := upd a_values (4 * t + v) (gs_kd (gs_jn (kw (4 * t + v)) g))) (by rw [cl]) (br_c (fun z => h 0 _ ?_ ha) (fun z => h 1 _ ?_ ha))⟩
    · rw [if_pos ((gx_kd_inj hj hl).mp z)]
    · rw [if_neg (fun w => z (by rw [w]))]
  refine ⟨inn, nm_r (e' := gs_kd (kw (4 * t + v))) (by rw [cl]; exact hK _ (by omega)) ?_⟩
  by_cases z : kw (4 * t + v) = 0
  · have ej : gs_jn (kw (4 * t + v)) g = g := if_pos (Or.inl z)
    rw [ej] at key
    refine br_f ?_ key
    rw [z]
    decide
  · obtain ⟨b, hb⟩ : ∃ b, kw (4 * t + v) = b + 1 := ⟨kw (4 * t + v) - 1, by omega⟩
    refine br_t ?_ (br_c (fun y => ?_) (fun y => ?_))
    · rw [hb, gx_kd_s]
      exact nI_pos' (by omega)
    · have y' := (gx_kd_inj hl hg).mp y
      have ej : gs_jn (kw (4 * t + v)) g = kw (4 * t + v) := (if_pos (Or.inr y')).trans y'.symm
      rw [ej] at key
      exact key
    · have ej : gs_jn (kw (4 * t + v)) g = 17 := by
        apply if_neg
        rintro (q | q)
        · exact z q
        · exact y (by rw [q])
      rw [ej] at key
      exact key
/-- the flag while the variables come -/
def gy_FL (kv kw : Nat → Nat) (x y : Int32) : Prop := (kw = kv ∧ y = x) ∨ (¬ kw = kv ∧ y = 1)
theorem gy_FL_s {kv : Nat → Nat} {n t w : Nat} {x y r : Int32} (hx : x = 0 ∨ x = 1) (h : gy_FL kv (gs_gw ak av ac kv n t w) x y) (hr : r = if gs_jn (gs_gw ak av ac kv n t w (4 * t + w)) (gs_md ak av ac kv n w) = gs_gw ak av ac kv n t w (4 * t + w) then 0 else 1) : gy_FL kv (gs_gw ak av ac kv n t (w + 1)) x (y ||| r) := by
  have y01 : y = 0 ∨ y = 1 := by
    rcases h with ⟨_, rfl⟩ | ⟨_, rfl⟩
    · exact hx
    · exact Or.inr rfl
  rw [gs_gw_at] at hr
  by_cases q : gs_jn (kv (4 * t + w)) (gs_md ak av ac kv n w) = kv (4 * t + w)
  · rw [if_pos q] at hr
    subst hr
    have same : gs_gw ak av ac kv n t (w + 1) = gs_gw ak av ac kv n t w := by
      rw [gs_gw_s, q]
      funext i
      unfold gs_un1
      by_cases e : i = 4 * t + w
      · rw [if_pos e, e, gs_gw_at]
      · rw [if_neg e]
    rw [same, gy_or y01 (Or.inl rfl), if_pos rfl]
    exact h
  · rw [if_neg q] at hr
    subst hr
    rw [gy_or y01 (Or.inr rfl), if_neg (by decide)]
    refine Or.inr ⟨fun e => q ?_, rfl⟩
    have := congrFun e (4 * t + w)
    rw [gs_gw_s] at this
    unfold gs_un1 at this
    rw [if_pos rfl] at this
    exact this
theorem gy_give_83 {post : Int32 → SY → Prop} {J39 : Int32 → Int32 → Int32 → Int32 → Int32 → Int32 → Int32 → Int32 → (Nat → Int32) → (Nat → Int32) → (Nat → Int32) → (Nat → Int32) → (Nat → Int32) → (Nat → Int32) → (Nat → Int32) → (Nat → Int32) → (Nat → Int32) → (Nat → Int32) → (Nat → Int32) → (Nat → Int32) → (Nat → Int32) → (Nat → Int32) → (Nat → Int32) → (Nat → Int32) → (Nat → Int32) → Prop} {kv : Nat → Nat} {n k : Nat} {x2 x3 x4 : Int32} (GE : gy_GE ek ev ex ey a_endKind a_endV a_endX a_endY) (GA : gy_GA ak av ac a_actKind a_actV a_actC) (hK : ∀ i, i < 64 → a_values i = gs_kd (kv i)) (hle : ∀ i, kv i ≤ 17) (hn : n < 16) (hk : k < gs_af ek ex ey n) (hall : ∀ v, v < 4 → kv (4 * n + v) ≠ 0) (h01 : x2 = 0 ∨ x2 = 1)
    (h : ∀ a, (∀ i, i < 64 → a i = gs_kd (gs_gv ak av ac kv n (gs_ns ex ey n k) i)) → J39 (if gs_fl kv (gs_gv ak av ac kv n (gs_ns ex ey n k)) = 0 then x2 else 1) (nI (k + 1)) f_fresh f_many f_tells f_last f_runs f_stopped a_actKind a_actV a_actC a_endKind a_endV a_endX a_endY a_number a_before a_behind a_reached a_todo a_words a_coming a a_told a_variables) : wY_give_83 post J39 (nI n) x2 x3 x4 (nI k) f_fresh f_many f_tells f_last f_runs f_stopped a_actKind a_actV a_actC a_endKind a_endV a_endX a_endY a_number a_before a_behind a_reached a_todo a_words a_coming a_values a_told a_variables := by
  have s16 := gs_ns_lt GE.2.1 GE.2.2.1 n k
  have g3 := GA.2.2.1
  have g4 := GA.2.2.2.1
  have ml : ∀ v, gs_md ak av ac kv n v ≤ 17 := fun v => gs_md_le g3 hle n v
  have gl := fun w => gs_gw_le (ak := ak) (av := av) g3 hle n (gs_ns ex ey n k) w
  have nx : ∀ (w : Nat) (a : Nat → Int32), (∀ i, i < 64 → a i = gs_kd (gs_un1 (gs_gw ak av ac kv n (gs_ns ex ey n k) w) (4 * gs_ns ex ey n k + w) (gs_jn (gs_gw ak av ac kv n (gs_ns ex ey n k) w (4 * gs_ns ex ey n k + w)) (gs_md ak av ac kv n w)) i)) → ∀ i, i < 64 → a i = gs_kd (gs_gw ak av ac kv n (gs_ns ex ey n k) (w + 1) i) := by
    intro w a ha
    rw [gs_gw_s]
    rw [gs_gw_at] at ha
    exact ha
  refine gy_succ GE hn hk ?_
  refine gy_made (v := 0) GA hK hle hn (by omega) hall ?_
  refine gy_made (v := 1) GA hK hle hn (by omega) hall ?_
  refine gy_made (v := 2) GA hK hle hn (by omega) hall ?_
  refine gy_made (v := 3) GA hK hle hn (by omega) hall ?_
  have K0 : ∀ i, i < 64 → a_values i = gs_kd (gs_gw ak av ac kv n (gs_ns ex ey n k) 0 i) := by
    rw [gs_gw_0]
    exact hK
  have F0 : gy_FL kv (gs_gw ak av ac kv n (gs_ns ex ey n k) 0) x2 x2 := Or.inl ⟨gs_gw_0 kv n _, rfl⟩
  refine gy_comes (v := 0) K0 (gl 0) (ml 0) s16 (by omega) (fun r0 a0 hr0 ha0 => nm_e ?_)
  have F1 := gy_FL_s h01 F0 hr0
  have K1 := nx 0 a0 ha0
  refine gy_comes (v := 1) K1 (gl 1) (ml 1) s16 (by omega) (fun r1 a1 hr1 ha1 => nm_e ?_)
  have F2 := gy_FL_s h01 F1 hr1
  have K2 := nx 1 a1 ha1
  refine gy_comes (v := 2) K2 (gl 2) (ml 2) s16 (by omega) (fun r2 a2 hr2 ha2 => nm_e ?_)
  have F3 := gy_FL_s h01 F2 hr2
  have K3 := nx 2 a2 ha2
  refine gy_comes (v := 3) K3 (gl 3) (ml 3) s16 (by omega) (fun r3 a3 hr3 ha3 => nm_e (nm_r (nI_1 k) ?_))
  have F4 := gy_FL_s h01 F3 hr3
  have K4 := nx 3 a3 ha3
  have := h a3 K4
  rcases F4 with ⟨z1, z2⟩ | ⟨z1, z2⟩
  · have z1 : gs_gv ak av ac kv n (gs_ns ex ey n k) = kv := z1
    rw [z2]
    rw [if_pos (gs_fl_0 z1)] at this
    exact this
  · have z1 : ¬ gs_gv ak av ac kv n (gs_ns ex ey n k) = kv := z1
    rw [z2]
    rw [if_neg (fun q => z1 (gs_fl_z.mp q))] at this
    exact this
theorem gy_fl_if (a b : Nat → Nat) : (if gs_fl a b = 0 then (0 : Int32) else 1) = gs_fl a b := by
  rcases gs_fl_01 a b with z | z
  · rw [z]; rfl
  · rw [z]; rfl
theorem gy_fl_if2 {a b c : Nat → Nat} (h1 : b = a ∨ gs_kc a < gs_kc b) (h2 : c = b ∨ gs_kc b < gs_kc c) : (if gs_fl b c = 0 then gs_fl a b else 1) = gs_fl a c := by
  by_cases z : c = b
  · rw [if_pos (gs_fl_0 z), z]
  · rw [if_neg (fun q => z (gs_fl_z.mp q)), gs_fl_1]
    intro e
    rcases h2 with h2 | h2
    · exact z h2
    · rcases h1 with h1 | h1
      · exact z (e.trans h1.symm)
      · rw [e] at h2
        omega
theorem gy_give {post : Int32 → SY → Prop} {kv : Nat → Nat} {n : Nat} (GE : gy_GE ek ev ex ey a_endKind a_endV a_endX a_endY) (GA : gy_GA ak av ac a_actKind a_actV a_actC) (hI : gs_KI kv) (hn : n < 16) (he : kv (4 * n) ≠ 0) (hK : ∀ i, i < 64 → a_values i = gs_kd (kv i))
    (h : ∀ a, (∀ j, j < 64 → a j = gs_kd (gs_go ak av ac ek ev ex ey kv n j)) → post (gs_fl kv (gs_go ak av ac ek ev ex ey kv n)) (f_fresh, f_many, f_tells, f_last, f_runs, f_stopped, a_actKind, a_actV, a_actC, a_endKind, a_endV, a_endX, a_endY, a_number, a_before, a_behind, a_reached, a_todo, a_words, a_coming, a, a_told, a_variables)) : wpY_give post (f_fresh, f_many, f_tells, f_last, f_runs, f_stopped, a_actKind, a_actV, a_actC, a_endKind, a_endV, a_endX, a_endY, a_number, a_before, a_behind, a_reached, a_todo, a_words, a_coming, a_values, a_told, a_variables) (nI n) := by
  have hx := GE.2.1
  have hy := GE.2.2.1
  have hac := GA.2.2.1
  have hc3 := GA.2.2.2.1
  have ev4 := GE.2.2.2.1 n
  have k2 := GE.1 n
  have hall := gs_KI_all hI hn he
  have ml := gs_md_le (ak := ak) (av := av) hac hI.1 n (ev n)
  have m17 : gs_kd (gs_md ak av ac kv n (ev n)) = 16 ↔ gs_md ak av ac kv n (ev n) = 17 := gx_kd_inj (b := 17) ml (by omega)
  have m1 : gs_kd (gs_md ak av ac kv n (ev n)) = 0 ↔ gs_md ak av ac kv n (ev n) = 1 := gx_kd_inj (b := 1) ml (by omega)
  have one : ∀ t, (ek n = 1 ∨ (ek n = 2 ∧ ex n = ey n)) → gs_af ek ex ey n = 1 → wY_give_28 post (nI n) 0 t f_fresh f_many f_tells f_last f_runs f_stopped a_actKind a_actV a_actC a_endKind a_endV a_endX a_endY a_number a_before a_behind a_reached a_todo a_words a_coming a_values a_told a_variables := by
    intro t hc ha
    have go : gs_go ak av ac ek ev ex ey kv n = gs_gv ak av ac kv n (ex n) := by
      unfold gs_go
      rw [if_neg (by omega), if_pos (by omega)]
    unfold wY_give_28
    refine gy_after GE hn ⟨2, ?_⟩
    rw [ha]
    refine br_f (by decide) (br_f (by decide) (gy_give_83 (k := 0) GE GA hK hI.1 hn (by omega) hall (Or.inl rfl) (fun a ha' => ?_)))
    rw [gy_fl_if]
    rw [go] at h
    exact br_t (by decide) ⟨gs_fl_n _ _, h a ha'⟩
  refine ⟨gx_in hn, ?_⟩
  rw [gx_cl hn, GE.2.2.2.2.1]
  refine pk_eq (ek n) 2 (fun z => ⟨gx_in hn, ?_⟩) (fun z => ?_)
  · rw [GE.2.2.2.2.2.2.2 n z]
    refine gy_made GA hK hI.1 hn ev4 hall ?_
    by_cases xy : ex n = ey n
    · exact one _ (Or.inr ⟨z, xy⟩) (by unfold gs_af; rw [if_neg (by omega), if_pos (Or.inr xy)])
    · have ha : gs_af ek ex ey n = 2 := by
        unfold gs_af
        rw [if_neg (by omega), if_neg (by omega)]
      have go : gs_go ak av ac ek ev ex ey kv n = if gs_md ak av ac kv n (ev n) = 17 then gs_gv ak av ac (gs_gv ak av ac kv n (ex n)) n (ey n) else if gs_md ak av ac kv n (ev n) = 1 then gs_gv ak av ac kv n (ex n) else gs_gv ak av ac kv n (ey n) := by
        unfold gs_go
        rw [if_neg (by omega), if_neg (by omega)]
      rw [go] at h
      unfold wY_give_28
      refine gy_after GE hn ⟨3, ?_⟩
      rw [ha]
      by_cases t17 : gs_md ak av ac kv n (ev n) = 17
      · rw [if_pos t17] at h
        have a1 := gs_gv_KI (ak := ak) (av := av) (ac := ac) (t := ex n) hac hc3 hI hn he
        have a2 := gs_gv_grow (ak := ak) (av := av) (ac := ac) (t := ex n) hc3 hI hn (hx n) he
        have he2 : gs_gv ak av ac kv n (ex n) (4 * n) ≠ 0 := gs_gv_nz he
        have b2 := gs_gv_grow (ak := ak) (av := av) (ac := ac) (t := ey n) hc3 a1 hn (hy n) he2
        refine br_f (by decide) (br_t rfl (br_t (m17.mpr t17) (gy_give_83 (k := 0) GE GA hK hI.1 hn (by omega) hall (Or.inl rfl) (fun a ha' => ?_))))
        rw [gy_fl_if]
        refine br_f (by decide) (br_t rfl (br_t (m17.mpr t17) (gy_give_83 (k := 1) GE GA ha' a1.1 hn (by omega) (gs_KI_all a1 hn he2) (gs_fl_01 _ _) (fun b hb => ?_))))
        have fl := gy_fl_if2 a2 b2
        have fl' : (if gs_fl (gs_gv ak av ac kv n (gs_ns ex ey n 0)) (gs_gv ak av ac (gs_gv ak av ac kv n (gs_ns ex ey n 0)) n (gs_ns ex ey n 1)) = 0 then gs_fl kv (gs_gv ak av ac kv n (gs_ns ex ey n 0)) else 1) = gs_fl kv (gs_gv ak av ac (gs_gv ak av ac kv n (ex n)) n (ey n)) := fl
        rw [fl']
        exact br_t (by decide) ⟨gs_fl_n _ _, h b hb⟩
      · rw [if_neg t17] at h
        have n17 : ¬ gs_kd (gs_md ak av ac kv n (ev n)) = 16 := fun w => t17 (m17.mp w)
        by_cases t1 : gs_md ak av ac kv n (ev n) = 1
        · rw [if_pos t1] at h
          have z0 := m1.mpr t1
          refine br_f (by decide) (br_t rfl (br_f n17 (br_t z0 (br_t rfl (br_t rfl (gy_give_83 (k := 0) GE GA hK hI.1 hn (by omega) hall (Or.inl rfl) (fun a ha' => ?_)))))))
          rw [gy_fl_if]
          exact br_f (by decide) (br_t rfl (br_f n17 (br_t z0 (br_f (by decide) (br_f (by decide) (nm_r (e' := nI 2) rfl (br_t (by decide) ⟨gs_fl_n _ _, h a ha'⟩)))))))
        · rw [if_neg t1] at h
          have z0 : ¬ gs_kd (gs_md ak av ac kv n (ev n)) = 0 := fun w => t1 (m1.mp w)
          refine br_f (by decide) (br_t rfl (br_f n17 (br_f z0 (br_t rfl (br_f (by decide) (nm_r (e' := nI 1) rfl ?_))))))
          refine br_f (by decide) (br_t rfl (br_f n17 (br_f z0 (br_f (by decide) (br_t rfl (gy_give_83 (k := 1) GE GA hK hI.1 hn (by omega) hall (Or.inl rfl) (fun a ha' => ?_)))))))
          rw [gy_fl_if]
          exact br_t (by decide) ⟨gs_fl_n _ _, h a ha'⟩
  · by_cases z1 : ek n = 1
    · exact one _ (Or.inl z1) (by unfold gs_af; rw [if_neg (by omega), if_pos (Or.inl z1)])
    · have z0 : ek n = 0 := by omega
      have ha : gs_af ek ex ey n = 0 := if_pos z0
      have go : gs_go ak av ac ek ev ex ey kv n = kv := by
        unfold gs_go
        rw [if_pos z0]
      rw [go] at h
      unfold wY_give_28
      refine gy_after GE hn ⟨1, ?_⟩
      rw [ha]
      have := h a_values hK
      rw [gs_fl_0 rfl] at this
      exact br_t (by decide) ⟨rfl, this⟩
theorem gs_ks_eq (kv : Nat → Nat) : gs_ks1 ak av ac ek ev ex ey kv 16 = gs_ks ak av ac ek ev ex ey kv := rfl
theorem gy_known_62 {post : Int32 → SY → Prop} {J53 : Int32 → Int32 → Int32 → Int32 → Int32 → Int32 → Int32 → (Nat → Int32) → (Nat → Int32) → (Nat → Int32) → (Nat → Int32) → (Nat → Int32) → (Nat → Int32) → (Nat → Int32) → (Nat → Int32) → (Nat → Int32) → (Nat → Int32) → (Nat → Int32) → (Nat → Int32) → (Nat → Int32) → (Nat → Int32) → (Nat → Int32) → (Nat → Int32) → (Nat → Int32) → Prop} {kv : Nat → Nat} {x1 x2 : Int32} (GE : gy_GE ek ev ex ey a_endKind a_endV a_endX a_endY) (GA : gy_GA ak av ac a_actKind a_actV a_actC) (KI : gs_KI kv) (hK : ∀ i, i < 64 → a_values i = gs_kd (kv i))
    (h : ∀ a, (∀ i, i < 64 → a i = gs_kd (gs_ks1 ak av ac ek ev ex ey kv 16 i)) → J53 (gs_fl kv (gs_ks1 ak av ac ek ev ex ey kv 16)) f_fresh f_many f_tells f_last f_runs f_stopped a_actKind a_actV a_actC a_endKind a_endV a_endX a_endY a_number a_before a_behind a_reached a_todo a_words a_coming a a_told a_variables) : ∃ m, wY_known_62 post J53 x1 x2 m 0 0 f_fresh f_many f_tells f_last f_runs f_stopped a_actKind a_actV a_actC a_endKind a_endV a_endX a_endY a_number a_before a_behind a_reached a_todo a_words a_coming a_values a_told a_variables := by
  have hx := GE.2.1
  have hy := GE.2.2.1
  have hac := GA.2.2.1
  have hc3 := GA.2.2.2.1
  refine pk_loop (fun m' j (s : Int32 × (Nat → Int32)) => wY_known_62 post J53 x1 x2 m' s.1 (nI j) f_fresh f_many f_tells f_last f_runs f_stopped a_actKind a_actV a_actC a_endKind a_endV a_endX a_endY a_number a_before a_behind a_reached a_todo a_words a_coming s.2 a_told a_variables) (fun j s => s.1 = gs_fl kv (gs_ks1 ak av ac ek ev ex ey kv j) ∧ ∀ q, q < 64 → s.2 q = gs_kd (gs_ks1 ak av ac ek ev ex ey kv j q)) 16 0 (0, a_values) (by omega) ⟨(gs_fl_0 rfl).symm, hK⟩ ?_ ?_
  · rintro m' ⟨t1, t2⟩ ⟨h1, h2⟩
    have h1 : t1 = gs_fl kv (gs_ks1 ak av ac ek ev ex ey kv 16) := h1
    subst h1
    exact br_t gx_x16 (h t2 h2)
  · rintro m' j ⟨t1, t2⟩ hj ⟨h1, h2⟩ ihj
    dsimp only at h1 h2
    have ok := gs_ks1_ok (ek := ek) (ev := ev) (av := av) hac hc3 hx hy KI j (by omega)
    have s0 : gs_ks1 ak av ac ek ev ex ey kv (j + 1) = if gs_ks1 ak av ac ek ev ex ey kv j (4 * j) = 0 then gs_ks1 ak av ac ek ev ex ey kv j else gs_go ak av ac ek ev ex ey (gs_ks1 ak av ac ek ev ex ey kv j) j := rfl
    rw [s0] at ihj
    generalize gs_ks1 ak av ac ek ev ex ey kv j = kw at h1 h2 ok ihj
    have e : 4 * nI j = nI (4 * j) := by rw [show (4 : Int32) = nI 4 from rfl, pk_mul]
    have cell : t2 (4 * nI j).toNatClampNeg = gs_kd (kw (4 * j)) := by
      rw [e, nI_clamp (by omega)]
      exact h2 _ (by omega)
    have l17 := ok.1.1 (4 * j)
    have inn : vp_in (4 * nI j) 64 := by rw [e]; exact vp_in_nI (by omega) (by decide)
    refine br_f (gx_16 hj) ⟨inn, ?_⟩
    dsimp only
    rw [cell]
    by_cases w : kw (4 * j) = 0
    · rw [if_pos w] at ihj
      exact br_t (by rw [w]; decide) (nm_r (nI_1 j) (ihj (t1, t2) ⟨h1, h2⟩))
    · rw [if_neg w] at ihj
      obtain ⟨b, hb⟩ : ∃ b, kw (4 * j) = b + 1 := ⟨kw (4 * j) - 1, by omega⟩
      have g := gs_go_ok (ek := ek) (ev := ev) (av := av) hac hc3 hx hy ok.1 hj w
      refine br_f (by rw [hb, gx_kd_s]; exact nI_pos (by omega)) (gy_give GE GA ok.1 hj w h2 (fun a ha => nm_e (nm_r (nI_1 j) (ihj (t1 ||| gs_fl kw (gs_go ak av ac ek ev ex ey kw j), a) ⟨?_, ha⟩))))
      dsimp only
      rw [h1, gy_or (gs_fl_01 _ _) (gs_fl_01 _ _)]
      exact gy_fl_if2 ok.2 g.2
theorem gy_known_53 {post : Int32 → SY → Prop} {n v : Nat} (GE : gy_GE ek ev ex ey a_endKind a_endV a_endX a_endY) (GA : gy_GA ak av ac a_actKind a_actV a_actC) (hn : n < 16) (hv : v < 4) (hK : ∀ i, i < 64 → a_values i = gs_kd (gs_k0 i))
    (h : ∀ a, post (gs_kd (gs_kF ak av ac ek ev ex ey (4 * n + v))) (f_fresh, f_many, f_tells, f_last, f_runs, f_stopped, a_actKind, a_actV, a_actC, a_endKind, a_endV, a_endX, a_endY, a_number, a_before, a_behind, a_reached, a_todo, a_words, a_coming, a, a_told, a_variables)) : ∃ m, wY_known_53 post (nI n) (nI v) m 1 f_fresh f_many f_tells f_last f_runs f_stopped a_actKind a_actV a_actC a_endKind a_endV a_endX a_endY a_number a_before a_behind a_reached a_todo a_words a_coming a_values a_told a_variables := by
  have hx := GE.2.1
  have hy := GE.2.2.1
  have hac := GA.2.2.1
  have hc3 := GA.2.2.2.1
  refine loop_m (fun m (s : (Nat → Nat) × Int32 × (Nat → Int32)) => wY_known_53 post (nI n) (nI v) m s.2.1 f_fresh f_many f_tells f_last f_runs f_stopped a_actKind a_actV a_actC a_endKind a_endV a_endX a_endY a_number a_before a_behind a_reached a_todo a_words a_coming s.2.2 a_told a_variables) (fun s => (∃ i, gs_it (gs_ks ak av ac ek ev ex ey) i gs_k0 = s.1) ∧ (∀ j, j < 64 → s.2.2 j = gs_kd (s.1 j)) ∧ (s.2.1 = 0 → gs_ks ak av ac ek ev ex ey s.1 = s.1)) (fun s => 2 * (80 - gs_kc s.1) + (if s.2.1 = 0 then 0 else 1)) ?_ (gs_k0, 1, a_values) ⟨⟨0, rfl⟩, hK, fun z => absurd (show (1 : Int32) = 0 from z) (by decide)⟩
  rintro m ⟨kv, f, a⟩ ⟨⟨i, hi⟩, hK, hF⟩ ih
  dsimp only at hK hF ih hi
  have KI := gs_kit_KI (ek := ek) (ev := ev) (av := av) hac hc3 hx hy i
  have fin := gs_kF_end (ek := ek) (ev := ev) (av := av) hac hc3 hx hy (i := i)
  have st := gs_it_s (gs_ks ak av ac ek ev ex ey) i gs_k0
  rw [hi] at KI fin st
  have ok := gs_ks1_ok (ek := ek) (ev := ev) (av := av) hac hc3 hx hy KI 16 (Nat.le_refl _)
  rw [gs_ks_eq] at ok
  refine br_c (fun z => ?_) (fun z => ?_)
  · have e := fin (hF z)
    rw [gy_ix4, nI_clamp (by omega)]
    refine ⟨vp_in_nI (by omega) (by decide), ?_⟩
    have hc : a (4 * n + v) = gs_kd (gs_kF ak av ac ek ev ex ey (4 * n + v)) := by
      rw [← e]
      exact hK _ (by omega)
    dsimp only
    rw [hc]
    exact h a
  · have z : ¬ f = 0 := z
    refine gy_known_62 GE GA KI hK (fun b hb => ?_)
    rw [gs_ks_eq] at hb ⊢
    generalize hkw : gs_ks ak av ac ek ev ex ey kv = kw at hb st ok
    refine ih (kw, gs_fl kv kw, b) ⟨⟨i + 1, st⟩, hb, fun w => ?_⟩ ?_
    · have w' : kw = kv := gs_fl_z.mp w
      dsimp only
      rw [w']
      exact hkw.trans w'
    · dsimp only
      rw [if_neg z]
      have c1 := gs_kc_le kw
      rcases ok.2 with o | o
      · rw [gs_fl_0 o, if_pos rfl, o]
        omega
      · split <;> omega
theorem gs_k0_lo {i : Nat} (h : i < 4) : gs_kd (gs_k0 i) = 0 := by
  unfold gs_k0
  rw [if_pos h]
  rfl
theorem gs_k0_hi {i : Nat} (h : 4 ≤ i) : gs_kd (gs_k0 i) = -1 := by
  unfold gs_k0
  rw [if_neg (by omega)]
  rfl
theorem gy_known_23 {post : Int32 → SY → Prop} {x1 x2 : Int32} (h : ∀ a, (∀ i, i < 64 → a i = gs_kd (gs_k0 i)) → ∃ m, wY_known_53 post x1 x2 m 1 f_fresh f_many f_tells f_last f_runs f_stopped a_actKind a_actV a_actC a_endKind a_endV a_endX a_endY a_number a_before a_behind a_reached a_todo a_words a_coming a a_told a_variables) : ∃ m, wY_known_23 post x1 x2 f_fresh f_many f_tells f_last f_runs f_stopped m 0 a_actKind a_actV a_actC a_endKind a_endV a_endX a_endY a_number a_before a_behind a_reached a_todo a_words a_coming a_values a_told a_variables := by
  refine pk_loop (fun m i (s : Nat → Int32) => wY_known_23 post x1 x2 f_fresh f_many f_tells f_last f_runs f_stopped m (nI i) a_actKind a_actV a_actC a_endKind a_endV a_endX a_endY a_number a_before a_behind a_reached a_todo a_words a_coming s a_told a_variables) (fun i s => ∀ j, j < i → s j = gs_kd (gs_k0 j)) 64 0 a_values (by omega) (fun j hj => absurd hj (Nat.not_lt_zero j)) ?_ ?_
  · rintro m l hl
    exact br_t (by decide) (h l hl)
  · rintro m i s hi hI ih
    have put : ∀ w, w = gs_kd (gs_k0 i) → ∀ j, j < i + 1 → upd s i w j = gs_kd (gs_k0 j) := by
      intro w hw j hj
      by_cases e : j = i
      · subst e
        rw [pk_us]
        exact hw
      · rw [pk_un e]
        exact hI j (by omega)
    exact br_f (nI_ge (b := 64) hi (by decide)) (pk_le 4 i (fun z => ⟨vp_in_nI hi (by decide), nm_r (e' := upd s i (-1)) (by rw [nI_clamp (by omega)]) (nm_r (nI_1 i) (ih _ (put _ (gs_k0_hi z).symm)))⟩) (fun z => ⟨vp_in_nI hi (by decide), nm_r (e' := upd s i 0) (by rw [nI_clamp (by omega)]) (nm_r (nI_1 i) (ih _ (put _ (gs_k0_lo z).symm)))⟩))
end
end
section
/-! Y: the code -/
section
variable (ek ex ey : Nat → Nat)
/-- a task of Y as X has it -/
noncomputable def gy_rs (t : Nat) : Nat := if t < 1000 then t else if t < 2000 then 256 + (t - 1000) else gs_way ek ex ey ((t - 2000) / 16) ((t - 2000) % 16)
def gy_vt (t : Nat) : Prop := t < 256 ∨ (∃ n, n < 16 ∧ t = 1000 + n) ∨ (∃ n s, gs_sn ek ex ey n = true ∧ gs_sn ek ex ey s = true ∧ t = 2000 + 16 * n + s)
end
def gy_c2 : List Nat → Nat
  | [] => 0
  | t :: r => (if 2000 ≤ t then 1 else 0) + gy_c2 r
section
variable {f_fresh f_many f_tells f_last f_runs f_stopped : Int32} {a_actKind a_actV a_actC a_endKind a_endV a_endX a_endY a_number a_before a_behind a_reached a_todo a_words a_coming a_values a_told a_variables : Nat → Int32} {ek ex ey ak av ac ev : Nat → Nat}
theorem gy_rs_w {t : Nat} (h : t < 256) : gy_rs ek ex ey t = t := if_pos (by omega)
theorem gy_rs_c {n : Nat} (h : n < 16) : gy_rs ek ex ey (1000 + n) = 256 + n := by
  unfold gy_rs
  rw [if_neg (by omega), if_pos (by omega)]
  omega
theorem gy_rs_g {n s : Nat} (hs : s < 16) : gy_rs ek ex ey (2000 + 16 * n + s) = gs_way ek ex ey n s := by
  unfold gy_rs
  rw [if_neg (by omega), if_neg (by omega), show (2000 + 16 * n + s - 2000) / 16 = n by omega, show (2000 + 16 * n + s - 2000) % 16 = s by omega]
theorem gy_isMeeting {A B : Prop} {s : Nat} (GE : gy_GE ek ev ex ey a_endKind a_endV a_endX a_endY) (V : gy_VY ek ex ey a_number a_before a_behind) (hs : s < 16) (ht : gs_mt ek ex ey s → B) (hf : ¬ gs_mt ek ex ey s → A) : wpY_isMeeting (fun r => (r = 0 → A) ∧ (¬ r = 0 → B)) (f_fresh, f_many, f_tells, f_last, f_runs, f_stopped, a_actKind, a_actV, a_actC, a_endKind, a_endV, a_endX, a_endY, a_number, a_before, a_behind, a_reached, a_todo, a_words, a_coming, a_values, a_told, a_variables) (nI s) := by
  have hx := GE.2.1
  have hy := GE.2.2.1
  refine pk_loop (fun m j (c : Int32) => wY_isMeeting_4 (fun r => (r = 0 → A) ∧ (¬ r = 0 → B)) (nI s) f_fresh f_many f_tells f_last f_runs f_stopped a_actKind a_actV a_actC a_endKind a_endV a_endX a_endY a_number a_before a_behind a_reached a_todo a_words a_coming a_values a_told a_variables m c (nI j)) (fun j c => c = nI (gs_cn (gs_mtc ek ex ey s) j)) 16 0 0 (by omega) rfl ?_ ?_
  · rintro m c rfl
    have hc := gs_cn_le (gs_mtc ek ex ey s) 16
    refine br_t gx_x16 (pk_le (gs_cn (gs_mtc ek ex ey s) 16) 1 (fun z => br_t rfl (hf (fun w => ?_))) (fun z => br_f (by decide) (ht z)))
    have : 1 < gs_cn (gs_mtc ek ex ey s) 16 := w
    omega
  · rintro m j c hj rfl ihj
    have no : ¬ (gs_sn ek ex ey j = true ∧ gs_E ek ex ey j s ∧ gs_nu ek ex ey j < gs_nu ek ex ey s) → nI (gs_cn (gs_mtc ek ex ey s) j) = nI (gs_cn (gs_mtc ek ex ey s) (j + 1)) := fun q => by
      have e : gs_mtc ek ex ey s j = false := gs_B_f.mpr q
      show _ = nI (gs_cn (gs_mtc ek ex ey s) j + (if gs_mtc ek ex ey s j = true then 1 else 0))
      rw [e]
      rfl
    refine br_f (gx_16 hj) (gy_sn hx hy V.1 hj (fun q1 => gy_leads GE hj hs (fun q2 => ⟨gx_in hj, gx_in hs, ?_⟩) (fun q2 => nm_r (nI_1 j) (ihj _ (no (fun z => q2 z.2.1))))) (fun q1 => nm_r (nI_1 j) (ihj _ (no (fun z => q1 z.1)))))
    have hl := (gy_nu_lt hx hy V.1 (gs_sn_E hx hy q1 q2) q1).2
    refine br_c (fun w => ?_) (fun w => ?_)
    · refine nm_r (nI_1 j) (ihj _ (no (fun z => ?_)))
      have := hl.mp w
      omega
    · refine nm_r (nI_1 _) (nm_r (nI_1 j) (ihj _ ?_))
      have hlt : gs_nu ek ex ey j < gs_nu ek ex ey s := by
        have : ¬ gs_nu ek ex ey s ≤ gs_nu ek ex ey j := fun z => w (hl.mpr z)
        omega
      have e : gs_mtc ek ex ey s j = true := gs_B_t.mpr ⟨q1, q2, hlt⟩
      show _ = nI (gs_cn (gs_mtc ek ex ey s) j + (if gs_mtc ek ex ey s j = true then 1 else 0))
      rw [e]
      rfl
/-- the meeting with number k whose chief is n -/
theorem gy_meeting {post : Int32 → Prop} {n k : Nat} (GE : gy_GE ek ev ex ey a_endKind a_endV a_endX a_endY) (V : gy_VY ek ex ey a_number a_before a_behind) (hn : n < 16) (hk : k < 16)
    (h1 : k < (gs_lv ek ex ey).length → gs_kid ek ex ey n (gs_at (gs_lv ek ex ey) k) = true → post (nI (gs_at (gs_lv ek ex ey) k))) (h0 : (k < (gs_lv ek ex ey).length → ¬ gs_kid ek ex ey n (gs_at (gs_lv ek ex ey) k) = true) → post (-1)) : wpY_meeting post (f_fresh, f_many, f_tells, f_last, f_runs, f_stopped, a_actKind, a_actV, a_actC, a_endKind, a_endV, a_endX, a_endY, a_number, a_before, a_behind, a_reached, a_todo, a_words, a_coming, a_values, a_told, a_variables) (nI n) (nI k) := by
  have hx := GE.2.1
  have hy := GE.2.2.1
  have L := gs_lv_len (ek := ek) hx hy
  refine pk_loop (fun m i (_ : Unit) => wY_meeting_2 post (nI n) (nI k) f_fresh f_many f_tells f_last f_runs f_stopped a_actKind a_actV a_actC a_endKind a_endV a_endX a_endY a_number a_before a_behind a_reached a_todo a_words a_coming a_values a_told a_variables m (nI i)) (fun i _ => 1 ≤ i ∧ ∀ m, m < i → ¬ (gs_sn ek ex ey m = true ∧ gs_nu ek ex ey m = k ∧ gs_kid ek ex ey n m = true)) 16 1 () (by omega) ⟨Nat.le_refl 1, fun m hm z => ?_⟩ ?_ ?_
  · have m0 : m = 0 := by omega
    rw [m0] at z
    exact gs_mt_0 hx hy (gs_B_t.mp z.2.2).1
  · rintro m _ ⟨_, hI⟩
    refine br_t gx_x16 (h0 (fun hl q => ?_))
    have hm := gs_at_mem (gs_lv ek ex ey) k hl
    have hs := (gs_sn_lv hx hy).mpr hm
    exact hI _ (gs_sn_lt hx hy hs) ⟨hs, gs_ix_at _ k (gs_lv_nd hx hy) hl, q⟩
  · rintro m i _ hi ⟨h1i, hI⟩ ih
    have up : ¬ (gs_sn ek ex ey i = true ∧ gs_nu ek ex ey i = k ∧ gs_kid ek ex ey n i = true) → wY_meeting_2 post (nI n) (nI k) f_fresh f_many f_tells f_last f_runs f_stopped a_actKind a_actV a_actC a_endKind a_endV a_endX a_endY a_number a_before a_behind a_reached a_todo a_words a_coming a_values a_told a_variables m (nI (i + 1)) := fun q => ih () ⟨by omega, fun m hm => by
      by_cases e : m = i
      · exact e ▸ q
      · exact hI m (by omega)⟩
    refine br_f (gx_16 hi) ⟨gx_in hi, ?_⟩
    rw [gx_cl hi]
    rcases V.1 i hi with ⟨z1, z2⟩ | ⟨z1, z2⟩
    · have l1 := gs_nu_lt hx hy z1
      rw [z2]
      refine pk_eq (gs_nu ek ex ey i) k (fun e => gy_isMeeting GE V hi (fun q => gy_nearBefore hi V.2.1 (fun d n q => gs_bf_refl (gs_bf_sn hx hy q)) (fun r hr => br_c (fun y => ?_) (fun y => nm_r (nI_1 i) (up (fun w => y ((gs_Fst_ch hx hy hn hr).mpr (gs_B_t.mp w.2.2).2)))))) (fun q => nm_r (nI_1 i) (up (fun w => q (gs_B_t.mp w.2.2).1)))) (fun e => nm_r (nI_1 i) (up (fun w => e w.2.1)))
      have kl : k < (gs_lv ek ex ey).length := by omega
      have at' : gs_at (gs_lv ek ex ey) k = i := by
        rw [← e]
        exact gs_at_ix _ i ((gs_sn_lv hx hy).mp z1)
      rw [at'] at h1
      exact h1 kl (gs_B_t.mpr ⟨q, (gs_Fst_ch hx hy hn hr).mp y⟩)
    · rw [z2]
      refine br_f (fun w => gx_ne1 hk w.symm) (nm_r (nI_1 i) (up (fun w => z1 w.1)))
theorem gy_code_57 {post : Int32 → SY → Prop} {n : Nat} (GE : gy_GE ek ev ex ey a_endKind a_endV a_endX a_endY) (V : gy_VY ek ex ey a_number a_before a_behind) (hn : gs_sn ek ex ey n = true) : ∀ (k : Nat) (wd tk : List Nat) (w c : Nat → Int32), k ≤ 16 → gs_st w wd → gs_st c tk → (∀ t, t ∈ tk → gy_vt ek ex ey t) →
    (gs_ob ek ex ey n (min k (gs_lv ek ex ey).length) (wd, tk.map (gy_rs ek ex ey))).1.length < 590 → (gs_ob ek ex ey n (min k (gs_lv ek ex ey).length) (wd, tk.map (gy_rs ek ex ey))).2.length < 590 →
    (∀ tk' w' c', tk'.map (gy_rs ek ex ey) = gs_gon ek ex ey ev n ++ (gs_ob ek ex ey n (min k (gs_lv ek ex ey).length) (wd, tk.map (gy_rs ek ex ey))).2 → gy_c2 tk' ≤ gy_c2 tk + 2 → (∀ t, t ∈ tk' → gy_vt ek ex ey t) → gs_st w' (n :: (gs_ob ek ex ey n (min k (gs_lv ek ex ey).length) (wd, tk.map (gy_rs ek ex ey))).1) → gs_st c' tk' →
      post (nI tk'.length) (f_fresh, nI (n :: (gs_ob ek ex ey n (min k (gs_lv ek ex ey).length) (wd, tk.map (gy_rs ek ex ey))).1).length, f_tells, f_last, f_runs, f_stopped, a_actKind, a_actV, a_actC, a_endKind, a_endV, a_endX, a_endY, a_number, a_before, a_behind, a_reached, a_todo, w', c', a_values, a_told, a_variables)) →
    wY_code_57 post (nI n) f_fresh f_tells f_last f_runs f_stopped (k + 1) (nI tk.length) (nI k + (-1)) (nI wd.length) a_actKind a_actV a_actC a_endKind a_endV a_endX a_endY a_number a_before a_behind a_reached a_todo w c a_values a_told a_variables
  | 0, wd, tk, w, c, _, hw, hc, hv, hl1, hl2, h => by
    have hx := GE.2.1
    have hy := GE.2.2.1
    have n16 := gs_sn_lt hx hy hn
    have k2 := GE.1 n
    have ob0 : gs_ob ek ex ey n (min 0 (gs_lv ek ex ey).length) (wd, tk.map (gy_rs ek ex ey)) = (wd, tk.map (gy_rs ek ex ey)) := by
      rw [Nat.zero_min]
      rfl
    rw [ob0] at hl1 hl2 h
    dsimp only at hl1 hl2 h
    rw [List.length_map] at hl2
    have hEx : ¬ ek n = 0 → gs_E ek ex ey n (ex n) := fun z => by
      by_cases k1 : ek n = 1
      · exact Or.inl ⟨k1, rfl⟩
      · exact Or.inr ⟨by omega, Or.inl rfl⟩
    have x16 := hx n
    have y16 := hy n
    refine br_t (by decide) (nm_r (nI_1 _) ⟨vp_in_nI (by omega) (by decide), nm_r (e' := upd w wd.length (nI n)) (by rw [nI_clamp (by omega), Int32.zero_add]) (gy_after GE n16 ?_)⟩)
    have hw' : gs_st (upd w wd.length (nI n)) (n :: wd) := gs_st_push hw
    unfold gs_gon at h
    by_cases z0 : ek n = 0
    · have ha : gs_af ek ex ey n = 0 := if_pos z0
      rw [if_pos z0] at h
      rw [ha]
      refine br_t rfl (nm_r (nI_1 _) ⟨vp_in_nI (by omega) (by decide), nm_r (e' := upd c tk.length (nI 128)) (by rw [nI_clamp (by omega)]; rfl) (br_f (by decide) (br_f (by decide) ?_))⟩)
      refine h (128 :: tk) _ _ ?_ ?_ ?_ hw' (gs_st_push hc)
      · show gy_rs ek ex ey 128 :: _ = _
        rw [gy_rs_w (by omega)]
        rfl
      · show (if 2000 ≤ 128 then 1 else 0) + gy_c2 tk ≤ _
        rw [if_neg (by omega)]
        omega
      · intro t ht
        rcases List.mem_cons.mp ht with rfl | ht
        · exact Or.inl (by omega)
        · exact hv t ht
    · rw [if_neg z0] at h
      have snx := gs_sn_E hx hy hn (hEx z0)
      have vx : gy_vt ek ex ey (2000 + 16 * n + ex n) := Or.inr (Or.inr ⟨n, ex n, hn, snx, rfl⟩)
      have eX : (2000 + 16 * nI n) + a_endX (nI n).toNatClampNeg = nI (2000 + 16 * n + ex n) := by
        rw [gx_cl n16, GE.2.2.2.2.2.1 n z0, show (16 : Int32) = nI 16 from rfl, show (2000 : Int32) = nI 2000 from rfl, pk_mul, nI_add, nI_add]
      by_cases z1 : ek n = 1 ∨ ex n = ey n
      · have ha : gs_af ek ex ey n = 1 := by
          unfold gs_af
          rw [if_neg z0, if_pos z1]
        rw [if_pos z1] at h
        rw [ha]
        refine br_f (by decide) (br_t rfl (nm_r (nI_1 _) ⟨gx_in n16, vp_in_nI (by omega) (by decide), nm_r (e' := upd c tk.length (nI (2000 + 16 * n + ex n))) (by rw [nI_clamp (by omega), eX]) (br_f (by decide) ?_)⟩))
        refine h ((2000 + 16 * n + ex n) :: tk) _ _ ?_ ?_ ?_ hw' (gs_st_push hc)
        · show gy_rs ek ex ey (2000 + 16 * n + ex n) :: _ = _
          rw [gy_rs_g x16]
          rfl
        · show (if 2000 ≤ 2000 + 16 * n + ex n then 1 else 0) + gy_c2 tk ≤ _
          rw [if_pos (by omega)]
          omega
        · intro t ht
          rcases List.mem_cons.mp ht with rfl | ht
          · exact vx
          · exact hv t ht
      · have ha : gs_af ek ex ey n = 2 := by
          unfold gs_af
          rw [if_neg z0, if_neg z1]
        have e2 : ek n = 2 := by omega
        rw [if_neg z1] at h
        rw [ha]
        have ev4 := GE.2.2.2.1 n
        have sny := gs_sn_E hx hy hn (Or.inr ⟨e2, Or.inr rfl⟩)
        have vy : gy_vt ek ex ey (2000 + 16 * n + ey n) := Or.inr (Or.inr ⟨n, ey n, hn, sny, rfl⟩)
        have eY : (2000 + 16 * nI n) + a_endY (nI n).toNatClampNeg = nI (2000 + 16 * n + ey n) := by
          rw [gx_cl n16, GE.2.2.2.2.2.2.1 n e2, show (16 : Int32) = nI 16 from rfl, show (2000 : Int32) = nI 2000 from rfl, pk_mul, nI_add, nI_add]
        have eV : 48 + a_endV (nI n).toNatClampNeg = nI (48 + ev n) := by
          rw [gx_cl n16, GE.2.2.2.2.2.2.2 n e2]
          exact nI_add 48 _
        refine br_f (by decide) (br_f (by decide) (br_t rfl ?_))
        refine nm_r (nI_1 _) ⟨vp_in_nI (by omega) (by decide), nm_r (e' := upd c tk.length (nI 80)) (by rw [nI_clamp (by omega)]; rfl) (nm_r (nI_1 _) ⟨gx_in n16, vp_in_nI (by omega) (by decide), nm_r (e' := upd (upd c tk.length (nI 80)) (tk.length + 1) (nI (2000 + 16 * n + ey n))) (by rw [nI_clamp (by omega), eY]) (nm_r (nI_1 _) ⟨vp_in_nI (by omega) (by decide), nm_r (e' := upd (upd (upd c tk.length (nI 80)) (tk.length + 1) (nI (2000 + 16 * n + ey n))) (tk.length + 1 + 1) (nI 64)) (by rw [nI_clamp (by omega)]; rfl) (nm_r (nI_1 _) ⟨gx_in n16, vp_in_nI (by omega) (by decide), nm_r (e' := upd (upd (upd (upd c tk.length (nI 80)) (tk.length + 1) (nI (2000 + 16 * n + ey n))) (tk.length + 1 + 1) (nI 64)) (tk.length + 1 + 1 + 1) (nI (2000 + 16 * n + ex n))) (by rw [nI_clamp (by omega), eX]) (nm_r (nI_1 _) ⟨gx_in n16, vp_in_nI (by omega) (by decide), nm_r (e' := upd (upd (upd (upd (upd c tk.length (nI 80)) (tk.length + 1) (nI (2000 + 16 * n + ey n))) (tk.length + 1 + 1) (nI 64)) (tk.length + 1 + 1 + 1) (nI (2000 + 16 * n + ex n))) (tk.length + 1 + 1 + 1 + 1) (nI (48 + ev n))) (by rw [nI_clamp (by omega), eV]) ?_⟩)⟩)⟩)⟩)⟩
        have c1 : gs_st _ (80 :: tk) := gs_st_push hc
        have c2 : gs_st _ ((2000 + 16 * n + ey n) :: 80 :: tk) := gs_st_push c1
        have c3 : gs_st _ (64 :: (2000 + 16 * n + ey n) :: 80 :: tk) := gs_st_push c2
        have c4 : gs_st _ ((2000 + 16 * n + ex n) :: 64 :: (2000 + 16 * n + ey n) :: 80 :: tk) := gs_st_push c3
        have c5 : gs_st _ ((48 + ev n) :: (2000 + 16 * n + ex n) :: 64 :: (2000 + 16 * n + ey n) :: 80 :: tk) := gs_st_push c4
        refine h ((48 + ev n) :: (2000 + 16 * n + ex n) :: 64 :: (2000 + 16 * n + ey n) :: 80 :: tk) _ _ ?_ ?_ ?_ hw' c5
        · show gy_rs ek ex ey (48 + ev n) :: gy_rs ek ex ey (2000 + 16 * n + ex n) :: gy_rs ek ex ey 64 :: gy_rs ek ex ey (2000 + 16 * n + ey n) :: gy_rs ek ex ey 80 :: _ = _
          rw [gy_rs_g x16, gy_rs_g y16, gy_rs_w (by omega), gy_rs_w (by omega), gy_rs_w (by omega)]
          rfl
        · simp only [gy_c2]
          rw [if_neg (by omega), if_pos (by omega), if_neg (by omega), if_pos (by omega), if_neg (by omega)]
          omega
        · intro t ht
          rcases List.mem_cons.mp ht with rfl | ht
          · exact Or.inl (by omega)
          rcases List.mem_cons.mp ht with rfl | ht
          · exact vx
          rcases List.mem_cons.mp ht with rfl | ht
          · exact Or.inl (by omega)
          rcases List.mem_cons.mp ht with rfl | ht
          · exact vy
          rcases List.mem_cons.mp ht with rfl | ht
          · exact Or.inl (by omega)
          · exact hv t ht
  | k + 1, wd, tk, w, c, hk, hw, hc, hv, hl1, hl2, h => by
    have hx := GE.2.1
    have hy := GE.2.2.1
    have n16 := gs_sn_lt hx hy hn
    have ih := gy_code_57 (post := post) GE V hn k
    rw [pk_m1]
    refine br_f (nI_pos (by omega)) (gy_meeting GE V n16 (by omega) (fun kl kid => ?_) (fun no => ?_))
    · have m16 : gs_at (gs_lv ek ex ey) k < 16 := gs_sn_lt hx hy ((gs_sn_lv hx hy).mpr (gs_at_mem _ k kl))
      have e1 : min (k + 1) (gs_lv ek ex ey).length = k + 1 := by omega
      have e2 : min k (gs_lv ek ex ey).length = k := by omega
      have ob : gs_ob ek ex ey n (k + 1) (wd, tk.map (gy_rs ek ex ey)) = gs_ob ek ex ey n k ((32 + gs_at (gs_lv ek ex ey) k) :: wd, (80 :: (1000 + gs_at (gs_lv ek ex ey) k) :: tk).map (gy_rs ek ex ey)) := by
        show gs_ob ek ex ey n k (if gs_kid ek ex ey n (gs_at (gs_lv ek ex ey) k) = true then _ else _) = _
        rw [if_pos kid]
        show gs_ob ek ex ey n k (_, 80 :: (256 + gs_at (gs_lv ek ex ey) k) :: _) = gs_ob ek ex ey n k (_, gy_rs ek ex ey 80 :: gy_rs ek ex ey (1000 + gs_at (gs_lv ek ex ey) k) :: _)
        rw [gy_rs_w (by omega), gy_rs_c m16]
      rw [e1, ob] at hl1 hl2 h
      have ih := ih ((32 + gs_at (gs_lv ek ex ey) k) :: wd) (80 :: (1000 + gs_at (gs_lv ek ex ey) k) :: tk)
      rw [e2] at ih
      have g := gs_ob_len (ek := ek) (ex := ex) (ey := ey) n k ((32 + gs_at (gs_lv ek ex ey) k) :: wd, (80 :: (1000 + gs_at (gs_lv ek ex ey) k) :: tk).map (gy_rs ek ex ey))
      simp only [List.length_cons, List.length_map] at g
      refine br_t (nI_pos' (by omega)) (nm_r (nI_1 _) ⟨vp_in_nI (by omega) (by decide), nm_r (e' := upd w wd.length (nI (32 + gs_at (gs_lv ek ex ey) k))) (by rw [nI_clamp (by omega)]; rw [show (32 : Int32) + nI (gs_at (gs_lv ek ex ey) k) = nI (32 + gs_at (gs_lv ek ex ey) k) from nI_add 32 _]) (nm_r (nI_1 _) ⟨vp_in_nI (by omega) (by decide), nm_r (e' := upd c tk.length (nI (1000 + gs_at (gs_lv ek ex ey) k))) (by rw [nI_clamp (by omega)]; rw [show (1000 : Int32) + nI (gs_at (gs_lv ek ex ey) k) = nI (1000 + gs_at (gs_lv ek ex ey) k) from nI_add 1000 _]) (nm_r (nI_1 _) ⟨vp_in_nI (by omega) (by decide), nm_r (e' := upd (upd c tk.length (nI (1000 + gs_at (gs_lv ek ex ey) k))) (tk.length + 1) (nI 80)) (by rw [nI_clamp (by omega)]; rfl) (nm_e ?_)⟩)⟩)⟩)
      have c1 : gs_st _ ((1000 + gs_at (gs_lv ek ex ey) k) :: tk) := gs_st_push hc
      have c2 : gs_st _ (80 :: (1000 + gs_at (gs_lv ek ex ey) k) :: tk) := gs_st_push c1
      refine ih _ _ (by omega) (gs_st_push hw) c2 (fun t ht => ?_) hl1 hl2 (fun tk' w' c' q1 q2 => h tk' w' c' q1 ?_)
      · rcases List.mem_cons.mp ht with rfl | ht
        · exact Or.inl (by omega)
        rcases List.mem_cons.mp ht with rfl | ht
        · exact Or.inr (Or.inl ⟨_, m16, rfl⟩)
        · exact hv t ht
      · simp only [gy_c2] at q2
        rw [if_neg (by omega), if_neg (by omega)] at q2
        omega
    · have ob : gs_ob ek ex ey n (min (k + 1) (gs_lv ek ex ey).length) (wd, tk.map (gy_rs ek ex ey)) = gs_ob ek ex ey n (min k (gs_lv ek ex ey).length) (wd, tk.map (gy_rs ek ex ey)) := by
        by_cases kl : k < (gs_lv ek ex ey).length
        · rw [show min (k + 1) (gs_lv ek ex ey).length = k + 1 by omega, show min k (gs_lv ek ex ey).length = k by omega]
          show gs_ob ek ex ey n k (if gs_kid ek ex ey n (gs_at (gs_lv ek ex ey) k) = true then _ else _) = _
          rw [if_neg (no kl)]
        · rw [show min (k + 1) (gs_lv ek ex ey).length = min k (gs_lv ek ex ey).length by omega]
      rw [ob] at hl1 hl2 h
      exact br_f (by decide) (nm_e (ih wd tk w c (by omega) hw hc hv hl1 hl2 h))
end
end
section
/-! Y: known, the question -/
section
variable {f_fresh f_many f_tells f_last f_runs f_stopped : Int32} {a_actKind a_actV a_actC a_endKind a_endV a_endX a_endY a_number a_before a_behind a_reached a_todo a_words a_coming a_values a_told a_variables : Nat → Int32} {ek ex ey ak av ac ev : Nat → Nat}
theorem gy_runE : gy_run (f_fresh, f_many, f_tells, f_last, f_runs, f_stopped, a_actKind, a_actV, a_actC, a_endKind, a_endV, a_endX, a_endY, a_number, a_before, a_behind, a_reached, a_todo, a_words, a_coming, a_values, a_told, a_variables) = (f_runs, f_tells, f_last, f_stopped, a_variables, a_told) := rfl
theorem gs_Akn_y {n v : Nat} (hn : n < 16) (hv : v < 4) : gs_Akn ak av ac ek ev ex ey (nI n) (nI v) (gs_kd (gs_kF ak av ac ek ev ex ey (4 * n + v))) := Or.inl ⟨n, v, hn, hv, rfl, rfl, rfl⟩
theorem gs_Akn_n {p q : Int32} (z : (∀ n, n < 16 → p ≠ nI n) ∨ (∀ v, v < 4 → q ≠ nI v)) : gs_Akn ak av ac ek ev ex ey p q (-1) := Or.inr ⟨z, rfl⟩
theorem gy_k1 {post : Int32 → SY → Prop} {n v : Nat} (GE : gy_GE ek ev ex ey a_endKind a_endV a_endX a_endY) (GA : gy_GA ak av ac a_actKind a_actV a_actC) (hn : n < 16) (hv : v < 4) (h : ∀ a, post (gs_kd (gs_kF ak av ac ek ev ex ey (4 * n + v))) (f_fresh, f_many, f_tells, f_last, f_runs, f_stopped, a_actKind, a_actV, a_actC, a_endKind, a_endV, a_endX, a_endY, a_number, a_before, a_behind, a_reached, a_todo, a_words, a_coming, a, a_told, a_variables)) : ∃ m, wY_known_23 post (nI n) (nI v) f_fresh f_many f_tells f_last f_runs f_stopped m 0 a_actKind a_actV a_actC a_endKind a_endV a_endX a_endY a_number a_before a_behind a_reached a_todo a_words a_coming a_values a_told a_variables :=
  gy_known_23 (fun l hl => gy_known_53 GE GA hn hv hl h)
theorem gy_k2 {post : Int32 → SY → Prop} {p q : Int32} (no : (∀ n, n < 16 → p ≠ nI n) ∨ (∀ v, v < 4 → q ≠ nI v) → post (-1) (f_fresh, f_many, f_tells, f_last, f_runs, f_stopped, a_actKind, a_actV, a_actC, a_endKind, a_endV, a_endX, a_endY, a_number, a_before, a_behind, a_reached, a_todo, a_words, a_coming, a_values, a_told, a_variables)) (yes : ∀ n v, n < 16 → v < 4 → p = nI n → q = nI v → ∃ m, wY_known_23 post p q f_fresh f_many f_tells f_last f_runs f_stopped m 0 a_actKind a_actV a_actC a_endKind a_endV a_endX a_endY a_number a_before a_behind a_reached a_todo a_words a_coming a_values a_told a_variables) : wpY_known post (f_fresh, f_many, f_tells, f_last, f_runs, f_stopped, a_actKind, a_actV, a_actC, a_endKind, a_endV, a_endX, a_endY, a_number, a_before, a_behind, a_reached, a_todo, a_words, a_coming, a_values, a_told, a_variables) p q := by
  unfold wpY_known
  refine gy_in (m := 15) rfl (by decide) (fun n hn e => ?_) (fun z => no (Or.inl (fun n hn => z n (by omega))))
  refine gy_in (m := 3) rfl (by decide) (fun v hv e' => ?_) (fun z => no (Or.inr (fun v hv => z v (by omega))))
  exact yes n v (by omega) (by omega) e e'
theorem gy_m_known {post : Int32 → SY → Prop} {p q : Int32} (R : gy_RY ak av ac ek ev ex ey (f_fresh, f_many, f_tells, f_last, f_runs, f_stopped, a_actKind, a_actV, a_actC, a_endKind, a_endV, a_endX, a_endY, a_number, a_before, a_behind, a_reached, a_todo, a_words, a_coming, a_values, a_told, a_variables)) (h : ∀ r v, gs_Akn ak av ac ek ev ex ey p q r → gy_RY ak av ac ek ev ex ey v → gy_run v = gy_run (f_fresh, f_many, f_tells, f_last, f_runs, f_stopped, a_actKind, a_actV, a_actC, a_endKind, a_endV, a_endX, a_endY, a_number, a_before, a_behind, a_reached, a_todo, a_words, a_coming, a_values, a_told, a_variables) → post r v) : wpY_known post (f_fresh, f_many, f_tells, f_last, f_runs, f_stopped, a_actKind, a_actV, a_actC, a_endKind, a_endV, a_endX, a_endY, a_number, a_before, a_behind, a_reached, a_todo, a_words, a_coming, a_values, a_told, a_variables) p q := by
  have R' := R
  obtain ⟨GE, GA, GV⟩ := R
  refine gy_k2 (fun z => h _ _ (gs_Akn_n z) R' rfl) (fun n v hn hv e1 e2 => ?_)
  subst e1 e2
  refine gy_k1 GE GA hn hv (fun a => h _ _ (gs_Akn_y hn hv) ?_ (gy_runE.trans gy_runE.symm))
  exact ⟨GE, GA, GV⟩
end
end
section
/-! Y: the code, on -/
def gy_wd (v : SY) : Nat → Int32 := match v with
  | (f_fresh, f_many, f_tells, f_last, f_runs, f_stopped, a_actKind, a_actV, a_actC, a_endKind, a_endV, a_endX, a_endY, a_number, a_before, a_behind, a_reached, a_todo, a_words, a_coming, a_values, a_told, a_variables) => a_words
section
variable {f_fresh f_many f_tells f_last f_runs f_stopped : Int32} {a_actKind a_actV a_actC a_endKind a_endV a_endX a_endY a_number a_before a_behind a_reached a_todo a_words a_coming a_values a_told a_variables : Nat → Int32} {ek ex ey ak av ac ev : Nat → Nat}
theorem gy_code {post : Int32 → SY → Prop} {n : Nat} {wd tk : List Nat} (GE : gy_GE ek ev ex ey a_endKind a_endV a_endX a_endY) (V : gy_VY ek ex ey a_number a_before a_behind) (hn : gs_sn ek ex ey n = true) (hw : gs_st a_words wd) (hc : gs_st a_coming tk) (hv : ∀ t, t ∈ tk → gy_vt ek ex ey t)
    (hl1 : (gs_op ek ex ey ev n (wd, tk.map (gy_rs ek ex ey))).1.length ≤ 158) (hl2 : (gs_op ek ex ey ev n (wd, tk.map (gy_rs ek ex ey))).2.length ≤ 158)
    (h : ∀ tk' w' c' re td, tk'.map (gy_rs ek ex ey) = (gs_op ek ex ey ev n (wd, tk.map (gy_rs ek ex ey))).2 → gy_c2 tk' ≤ gy_c2 tk + 2 → (∀ t, t ∈ tk' → gy_vt ek ex ey t) → gs_st w' (gs_op ek ex ey ev n (wd, tk.map (gy_rs ek ex ey))).1 → gs_st c' tk' →
      post (nI tk'.length) (f_fresh, nI (gs_op ek ex ey ev n (wd, tk.map (gy_rs ek ex ey))).1.length, f_tells, f_last, f_runs, f_stopped, a_actKind, a_actV, a_actC, a_endKind, a_endV, a_endX, a_endY, a_number, a_before, a_behind, re, td, w', c', a_values, a_told, a_variables)) :
    wpY_code post (f_fresh, nI wd.length, f_tells, f_last, f_runs, f_stopped, a_actKind, a_actV, a_actC, a_endKind, a_endV, a_endX, a_endY, a_number, a_before, a_behind, a_reached, a_todo, a_words, a_coming, a_values, a_told, a_variables) (nI n) (nI tk.length) := by
  have hx := GE.2.1
  have hy := GE.2.2.1
  have n16 := gs_sn_lt hx hy hn
  have L := gs_lv_len (ek := ek) hx hy
  have e16 : min 16 (gs_lv ek ex ey).length = (gs_lv ek ex ey).length := by omega
  unfold wpY_code
  refine gy_loop GE V n16 (fun r re td hM => ?_)
  have e15 : nI 16 + (-1) = (15 : Int32) := rfl
  unfold gs_op at hl1 hl2 h
  dsimp only at hl1 hl2 h
  rw [List.length_append] at hl2
  simp only [List.length_cons] at hl1
  have hz : r = 0 ↔ ¬ ∃ p, gs_ret ek ex ey n p := by
    rw [gs_Mk_z hM]
    constructor
    · rintro z ⟨p, hp⟩
      exact z n n16 (gs_lp_h hp)
    · rintro z i _ ⟨p, hp, _⟩
      exact z ⟨p, hp⟩
  refine br_c (fun z => br_t rfl ?_) (fun z => br_f (by decide) ?_)
  · have o1 : gs_o1 ek ex ey n (wd, tk.map (gy_rs ek ex ey)) = (wd, tk.map (gy_rs ek ex ey)) := if_neg (fun w => hz.mp z (gs_B_t.mp w))
    rw [o1] at hl1 hl2 h
    have c57 := gy_code_57 (post := post) (ev := ev) (a_reached := re) (a_todo := td) (f_fresh := f_fresh) (f_tells := f_tells) (f_last := f_last) (f_runs := f_runs) (f_stopped := f_stopped) (a_values := a_values) (a_told := a_told) (a_variables := a_variables) (a_actKind := a_actKind) (a_actV := a_actV) (a_actC := a_actC) GE V hn 16 wd tk a_words a_coming (Nat.le_refl _) hw hc hv
    rw [e16, e15] at c57
    exact ⟨17, c57 (by omega) (by omega) (fun tk' w' c' q1 q2 q3 q4 q5 => h tk' w' c' re td q1 q2 q3 q4 q5)⟩
  · have hd : gs_hd ek ex ey n = true := by
      apply gs_B_t.mpr
      apply Classical.byContradiction
      exact fun w => z (hz.mpr w)
    have o1 : gs_o1 ek ex ey n (wd, tk.map (gy_rs ek ex ey)) = ((16 + n) :: wd, (80 :: tk).map (gy_rs ek ex ey)) := by
      rw [List.map_cons, gy_rs_w (by omega)]
      exact if_pos hd
    rw [o1] at hl1 hl2 h
    have g := gs_ob_len (ek := ek) (ex := ex) (ey := ey) n (gs_lv ek ex ey).length ((16 + n) :: wd, (80 :: tk).map (gy_rs ek ex ey))
    simp only [List.length_cons, List.length_map] at g
    refine nm_r (nI_1 _) ⟨vp_in_nI (by omega) (by decide), nm_r (e' := upd a_words wd.length (nI (16 + n))) (by rw [nI_clamp (by omega)]; rw [show (16 : Int32) + nI n = nI (16 + n) from nI_add 16 n]) (nm_r (nI_1 _) ⟨vp_in_nI (by omega) (by decide), nm_r (e' := upd a_coming tk.length (nI 80)) (by rw [nI_clamp (by omega)]; rfl) ?_⟩)⟩
    have c57 := gy_code_57 (post := post) (ev := ev) (a_reached := re) (a_todo := td) (f_fresh := f_fresh) (f_tells := f_tells) (f_last := f_last) (f_runs := f_runs) (f_stopped := f_stopped) (a_values := a_values) (a_told := a_told) (a_variables := a_variables) (a_actKind := a_actKind) (a_actV := a_actV) (a_actC := a_actC) GE V hn 16 ((16 + n) :: wd) (80 :: tk) (upd a_words wd.length (nI (16 + n))) (upd a_coming tk.length (nI 80)) (Nat.le_refl _) (gs_st_push hw) (gs_st_push hc) (fun t ht => (List.mem_cons.mp ht).elim (fun e => Or.inl (by omega)) (hv t))
    rw [e16, e15] at c57
    refine ⟨17, c57 (by omega) (by omega) (fun tk' w' c' q1 q2 q3 q4 q5 => h tk' w' c' re td q1 ?_ q3 q4 q5)⟩
    have : gy_c2 (80 :: tk) = gy_c2 tk := by
      show (if 2000 ≤ 80 then 1 else 0) + gy_c2 tk = _
      rw [if_neg (by omega)]
      omega
    omega
theorem gy_way {post : Int32 → SY → Prop} {n s : Nat} {tk : List Nat} (GE : gy_GE ek ev ex ey a_endKind a_endV a_endX a_endY) (V : gy_VY ek ex ey a_number a_before a_behind) (hn : gs_sn ek ex ey n = true) (hs : gs_sn ek ex ey s = true) (hc : gs_st a_coming tk) (hl : tk.length < 590)
    (h : ∀ t c, gy_rs ek ex ey t = gs_way ek ex ey n s → t < 2000 → gy_vt ek ex ey t → gs_st c (t :: tk) → post (nI (t :: tk).length) (f_fresh, f_many, f_tells, f_last, f_runs, f_stopped, a_actKind, a_actV, a_actC, a_endKind, a_endV, a_endX, a_endY, a_number, a_before, a_behind, a_reached, a_todo, a_words, c, a_values, a_told, a_variables)) : wpY_way post (f_fresh, f_many, f_tells, f_last, f_runs, f_stopped, a_actKind, a_actV, a_actC, a_endKind, a_endV, a_endX, a_endY, a_number, a_before, a_behind, a_reached, a_todo, a_words, a_coming, a_values, a_told, a_variables) (nI n) (nI s) (nI tk.length) := by
  have hx := GE.2.1
  have hy := GE.2.2.1
  have n16 := gs_sn_lt hx hy hn
  have s16 := gs_sn_lt hx hy hs
  have hl2 := (gy_nu_lt hx hy V.1 hn hs).1
  have put : ∀ t, gy_rs ek ex ey t = gs_way ek ex ey n s → t < 2000 → gy_vt ek ex ey t → ∀ x, x = nI t → vp_in (nI tk.length) 600 ∧ ∀ c, c = upd a_coming (nI tk.length).toNatClampNeg x → post (nI tk.length + 1) (f_fresh, f_many, f_tells, f_last, f_runs, f_stopped, a_actKind, a_actV, a_actC, a_endKind, a_endV, a_endX, a_endY, a_number, a_before, a_behind, a_reached, a_todo, a_words, c, a_values, a_told, a_variables) := by
    intro t e1 e2 e3 x hx'
    refine ⟨vp_in_nI (by omega) (by decide), nm_r (e' := upd a_coming tk.length (nI t)) (by rw [nI_clamp (by omega), hx']) ?_⟩
    rw [nI_1]
    exact h t _ e1 e2 e3 (gs_st_push hc)
  refine ⟨gx_in s16, gx_in n16, br_c (fun z => ?_) (fun z => ?_)⟩
  · have z' := hl2.mp z
    refine gy_isMeeting GE V s16 (fun q => put (112 + s) ?_ (by omega) (Or.inl (by omega)) _ (nI_add 112 s)) (fun q => put (1000 + s) ?_ (by omega) (Or.inr (Or.inl ⟨s, s16, rfl⟩)) _ (nI_add 1000 s))
    · rw [gy_rs_w (by omega)]
      unfold gs_way
      rw [if_neg (by omega), if_pos (gs_B_t.mpr q)]
    · rw [gy_rs_c s16]
      unfold gs_way
      rw [if_neg (by omega), if_neg (fun w => q (gs_B_t.mp w))]
  · have z' : ¬ gs_nu ek ex ey n < gs_nu ek ex ey s := fun w => z (hl2.mpr w)
    refine put (96 + s) ?_ (by omega) (Or.inl (by omega)) _ (nI_add 96 s)
    rw [gy_rs_w (by omega)]
    unfold gs_way
    rw [if_pos (by omega)]
theorem gs_ci_i (hk : ∀ n, ek n ≤ 2) (hx : ∀ n, ex n < 16) (hy : ∀ n, ey n < 16) (hv : ∀ n, ev n < 4) {i : Nat} (h : (gs_ci ek ex ey ev i).2 ≠ []) : i ≤ 127 := by
  obtain ⟨b, _, h2⟩ := gs_CS_i (ev := ev) hk hx hy hv i
  rw [← gs_ci_eq] at h2
  rcases h2 with h2 | h2
  · exact absurd h2 h
  · omega
theorem gy_write {post : SY → Prop} (GE : gy_GE ek ev ex ey a_endKind a_endV a_endX a_endY) (V : gy_VY ek ex ey a_number a_before a_behind)
    (h : ∀ w c re td, gs_st w (gs_cF ek ex ey ev).1 → post (f_fresh, nI (gs_cF ek ex ey ev).1.length, f_tells, f_last, f_runs, f_stopped, a_actKind, a_actV, a_actC, a_endKind, a_endV, a_endX, a_endY, a_number, a_before, a_behind, re, td, w, c, a_values, a_told, a_variables)) : wpY_write post (f_fresh, f_many, f_tells, f_last, f_runs, f_stopped, a_actKind, a_actV, a_actC, a_endKind, a_endV, a_endX, a_endY, a_number, a_before, a_behind, a_reached, a_todo, a_words, a_coming, a_values, a_told, a_variables) := by
  have hk := GE.1
  have hx := GE.2.1
  have hy := GE.2.2.1
  have hv := GE.2.2.2.1
  refine nm_r (e' := nI 1) rfl (nm_r (e' := upd a_coming 0 (nI 1000)) rfl ?_)
  refine loop_m (fun m (s : (Nat × List Nat × List Nat) × (Nat → Int32) × (Nat → Int32) × (Nat → Int32) × (Nat → Int32)) => wY_write_19 post m (nI s.1.2.2.length) f_fresh (nI s.1.2.1.length) f_tells f_last f_runs f_stopped a_actKind a_actV a_actC a_endKind a_endV a_endX a_endY a_number a_before a_behind s.2.2.2.1 s.2.2.2.2 s.2.1 s.2.2.1 a_values a_told a_variables) (fun s => gs_ci ek ex ey ev s.1.1 = (s.1.2.1, s.1.2.2.map (gy_rs ek ex ey)) ∧ (∀ t, t ∈ s.1.2.2 → gy_vt ek ex ey t) ∧ gs_st s.2.1 s.1.2.1 ∧ gs_st s.2.2.1 s.1.2.2) (fun s => 3 * (128 - s.1.1) + gy_c2 s.1.2.2) ?_ ((0, [], [1000]), a_words, upd a_coming 0 (nI 1000), a_reached, a_todo) ?_
  · rintro m ⟨⟨i, wd, tk⟩, w, c, re, td⟩ ⟨i1, i2, i3, i4⟩ ih
    dsimp only at i1 i2 i3 i4
    have st := gs_ci_s ek ex ey ev i
    obtain ⟨b, cs⟩ := gs_ci_CS (ev := ev) hk hx hy hv i
    obtain ⟨b2, cs2⟩ := gs_ci_CS (ev := ev) hk hx hy hv (i + 1)
    have fin := gs_ci_end (ev := ev) hk hx hy hv (i := i)
    have i127 := gs_ci_i (ev := ev) hk hx hy hv (i := i)
    rw [st] at cs2
    rw [i1] at st cs cs2 fin i127
    cases tk with
    | nil =>
      refine br_t (show nI 0 ≤ (0 : Int32) by decide) ?_
      have f := fin rfl
      rw [← f] at h
      exact h w c re td i3
    | cons q r =>
      have i127 := i127 (by simp)
      have len := gs_CS_len cs
      have len2 := gs_CS_len cs2
      simp only [List.map_cons, List.length_cons, List.length_map] at len
      rw [List.map_cons] at st cs2 len2
      have vq := i2 q List.mem_cons_self
      have vr : ∀ t, t ∈ r → gy_vt ek ex ey t := fun t ht => i2 t (List.mem_cons_of_mem _ ht)
      refine br_f (nI_nle (by simp) (by simp only [List.length_cons]; omega)) (nm_r (e' := nI r.length) (pk_m1 _) ⟨vp_in_nI (by omega) (by decide), nm_r (e' := nI q) (by rw [nI_clamp (by omega)]; exact i4.1) ?_⟩)
      rcases vq with vq | ⟨n, n16, rfl⟩ | ⟨n, s, sn, ss, rfl⟩
      · have e1 : gs_cs ek ex ey ev (wd, gy_rs ek ex ey q :: r.map (gy_rs ek ex ey)) = (q :: wd, r.map (gy_rs ek ex ey)) := by
          rw [gy_rs_w vq]
          exact if_pos vq
        rw [e1] at st
        refine br_f (nI_ge (b := 1000) (by omega) (by decide)) (nm_r (nI_1 wd.length) ⟨vp_in_nI (n := wd.length) (by omega) (by decide), nm_r (e' := upd w wd.length (nI q)) (by show upd w (nI wd.length).toNatClampNeg (nI q) = _; rw [nI_clamp (by omega)]) ?_⟩)
        refine ih ((i + 1, q :: wd, r), upd w wd.length (nI q), c, re, td) ⟨st, vr, gs_st_push i3, i4.2⟩ ?_
        simp only [gy_c2]
        rw [if_neg (by omega)]
        omega
      · have e1 : gs_cs ek ex ey ev (wd, gy_rs ek ex ey (1000 + n) :: r.map (gy_rs ek ex ey)) = gs_op ek ex ey ev n (wd, r.map (gy_rs ek ex ey)) := by
          rw [gy_rs_c n16]
          show (if 256 + n < 256 then _ else _) = _
          rw [if_neg (by omega), Nat.add_sub_cancel_left]
        rw [e1] at st len2
        have hsn : gs_sn ek ex ey n = true := by
          obtain ⟨Wr, ci, _⟩ := cs
          rcases ci.1 (gy_rs ek ex ey (1000 + n)) (by rw [List.map_cons]; exact List.mem_cons_self) with w' | w'
          · rw [gy_rs_c n16] at w'
            omega
          · rw [gy_rs_c n16, Nat.add_sub_cancel_left] at w'
            exact w'.2
        have e2 : nI (1000 + n) - 1000 = nI n := by
          have := pk_sub (a := 1000 + n) (b := 1000) (by omega)
          rw [Nat.add_sub_cancel_left] at this
          exact this
        refine br_t (nI_le (a := 1000) (by omega) (by omega)) (br_f (nI_ge (b := 2000) (by omega) (by decide)) ?_)
        rw [e2]
        refine gy_code (ev := ev) GE V hsn i3 i4.2 vr len2.1 len2.2 (fun tk' w' c' re' td' q1 q2 q3 q4 q5 => ?_)
        refine ih ((i + 1, (gs_op ek ex ey ev n (wd, r.map (gy_rs ek ex ey))).1, tk'), w', c', re', td') ⟨?_, q3, q4, q5⟩ ?_
        · dsimp only
          rw [st, q1]
        · simp only [gy_c2]
          rw [if_neg (by omega)]
          omega
      · have n16 := gs_sn_lt hx hy sn
        have s16 := gs_sn_lt hx hy ss
        have e2 : nI (2000 + 16 * n + s) - 2000 = nI (16 * n + s) := by
          have := pk_sub (a := 2000 + 16 * n + s) (b := 2000) (by omega)
          rw [show 2000 + 16 * n + s - 2000 = 16 * n + s by omega] at this
          exact this
        refine br_t (nI_le (a := 1000) (by omega) (by omega)) (br_t (nI_le (a := 2000) (by omega) (by omega)) ⟨by decide, by decide, ?_⟩)
        rw [e2, show (16 : Int32) = nI 16 from rfl, pk_rem (by omega) (by decide) (by decide), pk_div (by omega) (by decide) (by decide), show (16 * n + s) / 16 = n by omega, show (16 * n + s) % 16 = s by omega]
        refine gy_way GE V sn ss i4.2 (by omega) (fun t c' q1 q2 q3 q4 => ?_)
        refine ih ((i, wd, t :: r), w, c', re, td) ⟨?_, fun t' ht' => ?_, i3, q4⟩ ?_
        · dsimp only
          rw [i1, List.map_cons, List.map_cons, q1, gy_rs_g s16]
        · rcases List.mem_cons.mp ht' with rfl | ht'
          · exact q3
          · exact vr t' ht'
        · simp only [gy_c2]
          rw [if_neg (by omega), if_pos (by omega)]
          omega
  · refine ⟨?_, fun t ht => ?_, trivial, ⟨rfl, trivial⟩⟩
    · dsimp only
      rw [gs_ci_0, List.map_cons, gy_rs_c (n := 0) (by omega)]
      rfl
    · rcases List.mem_cons.mp ht with rfl | ht
      · exact Or.inr (Or.inl ⟨0, by omega, rfl⟩)
      · cases ht
theorem gy_words {post : Int32 → SY → Prop} (R : gy_RY ak av ac ek ev ex ey (f_fresh, f_many, f_tells, f_last, f_runs, f_stopped, a_actKind, a_actV, a_actC, a_endKind, a_endV, a_endX, a_endY, a_number, a_before, a_behind, a_reached, a_todo, a_words, a_coming, a_values, a_told, a_variables)) (h1 : gs_strt ek ex ey → ∀ w v, gs_st w (gs_cF ek ex ey ev).1 → gy_RY ak av ac ek ev ex ey v → gy_run v = gy_run (f_fresh, f_many, f_tells, f_last, f_runs, f_stopped, a_actKind, a_actV, a_actC, a_endKind, a_endV, a_endX, a_endY, a_number, a_before, a_behind, a_reached, a_todo, a_words, a_coming, a_values, a_told, a_variables) → gy_wd v = w → post (nI (gs_cF ek ex ey ev).1.length) v) (h0 : ¬ gs_strt ek ex ey → ∀ v, gy_RY ak av ac ek ev ex ey v → gy_run v = gy_run (f_fresh, f_many, f_tells, f_last, f_runs, f_stopped, a_actKind, a_actV, a_actC, a_endKind, a_endV, a_endX, a_endY, a_number, a_before, a_behind, a_reached, a_todo, a_words, a_coming, a_values, a_told, a_variables) → post (-1) v) : wpY_words post (f_fresh, f_many, f_tells, f_last, f_runs, f_stopped, a_actKind, a_actV, a_actC, a_endKind, a_endV, a_endX, a_endY, a_number, a_before, a_behind, a_reached, a_todo, a_words, a_coming, a_values, a_told, a_variables) := by
  have R' := R
  obtain ⟨GE, GA, _⟩ := R
  unfold wpY_words
  refine gy_m_straight R' (fun r f_fresh a_number a_before a_behind a_reached a_todo a_words hr hf V => ?_)
  rcases hr with ⟨z1, z2⟩ | ⟨z1, z2⟩
  · rw [z1]
    exact br_f (by decide) (gy_write GE V (fun w c re td hw => h1 z2 w _ hw ⟨GE, GA, fun _ => V⟩ rfl rfl))
  · rw [z1]
    exact br_t rfl (h0 z2 _ ⟨GE, GA, fun _ => V⟩ rfl)
theorem gy_m_words {post : Int32 → SY → Prop} (R : gy_RY ak av ac ek ev ex ey (f_fresh, f_many, f_tells, f_last, f_runs, f_stopped, a_actKind, a_actV, a_actC, a_endKind, a_endV, a_endX, a_endY, a_number, a_before, a_behind, a_reached, a_todo, a_words, a_coming, a_values, a_told, a_variables)) (h : ∀ r v, gs_Aws ek ev ex ey r → gy_RY ak av ac ek ev ex ey v → gy_run v = gy_run (f_fresh, f_many, f_tells, f_last, f_runs, f_stopped, a_actKind, a_actV, a_actC, a_endKind, a_endV, a_endX, a_endY, a_number, a_before, a_behind, a_reached, a_todo, a_words, a_coming, a_values, a_told, a_variables) → post r v) : wpY_words post (f_fresh, f_many, f_tells, f_last, f_runs, f_stopped, a_actKind, a_actV, a_actC, a_endKind, a_endV, a_endX, a_endY, a_number, a_before, a_behind, a_reached, a_todo, a_words, a_coming, a_values, a_told, a_variables) :=
  gy_words R (fun z w v _ q1 q2 _ => h _ v (Or.inl ⟨z, rfl⟩) q1 q2) (fun z v q1 q2 => h _ v (Or.inr ⟨z, rfl⟩) q1 q2)
theorem gy_m_word {post : Int32 → SY → Prop} {p : Int32} (R : gy_RY ak av ac ek ev ex ey (f_fresh, f_many, f_tells, f_last, f_runs, f_stopped, a_actKind, a_actV, a_actC, a_endKind, a_endV, a_endX, a_endY, a_number, a_before, a_behind, a_reached, a_todo, a_words, a_coming, a_values, a_told, a_variables)) (h : ∀ r v, gs_Awd ek ev ex ey p r → gy_RY ak av ac ek ev ex ey v → gy_run v = gy_run (f_fresh, f_many, f_tells, f_last, f_runs, f_stopped, a_actKind, a_actV, a_actC, a_endKind, a_endV, a_endX, a_endY, a_number, a_before, a_behind, a_reached, a_todo, a_words, a_coming, a_values, a_told, a_variables) → post r v) : wpY_word post (f_fresh, f_many, f_tells, f_last, f_runs, f_stopped, a_actKind, a_actV, a_actC, a_endKind, a_endV, a_endX, a_endY, a_number, a_before, a_behind, a_reached, a_todo, a_words, a_coming, a_values, a_told, a_variables) p := by
  have R' := R
  obtain ⟨GE, GA, _⟩ := R
  have L := gs_cF_len (ev := ev) GE.1 GE.2.1 GE.2.2.1 GE.2.2.2.1
  unfold wpY_word
  refine gy_words R' (fun z w v hw q1 q2 q3 => ?_) (fun z v q1 q2 => ?_)
  · obtain ⟨y1, y2, y3, y4, y5, y6, y7, y8, y9, y10, y11, y12, y13, y14, y15, y16, y17, y18, y19, y20, y21, y22, y23⟩ := v
    have q3 : y19 = w := q3
    refine br_c (fun y => h _ _ (Or.inr ⟨Or.inr (fun j hj e => ?_), rfl⟩) q1 q2) (fun y => ?_)
    · subst e
      exact nI_pos (by omega) y
    · obtain ⟨j, hj, rfl⟩ := nI_of y
      refine pk_lt j (gs_cF ek ex ey ev).1.length (fun x => ⟨vp_in_nI (by omega) (by decide), ?_⟩) (fun x => h _ _ (Or.inr ⟨Or.inr (fun i hi e => ?_), rfl⟩) q1 q2)
      · rw [nI_clamp hj]
        refine h _ _ (Or.inl ⟨z, j, x, rfl, ?_⟩) q1 q2
        rw [q3]
        exact gs_st_j hw x
      · have := (nI_eq hj (by omega)).mp e
        omega
  · obtain ⟨y1, y2, y3, y4, y5, y6, y7, y8, y9, y10, y11, y12, y13, y14, y15, y16, y17, y18, y19, y20, y21, y22, y23⟩ := v
    refine br_c (fun y => h _ _ (Or.inr ⟨Or.inl z, rfl⟩) q1 q2) (fun y => br_f (fun w => ?_) (h _ _ (Or.inr ⟨Or.inl z, rfl⟩) q1 q2))
    obtain ⟨j, hj, rfl⟩ := nI_of y
    have a1 := Int32.lt_iff_toInt_lt.mp w
    rw [nI_toInt hj, show (-1 : Int32).toInt = -1 from by decide] at a1
    omega
end
end
section
/-! act and end, both sides -/
theorem gs_updI {a : Nat → Int32} {f : Nat → Nat} (h : ∀ m, a m = nI (f m)) (n k : Nat) : ∀ m, upd a n (nI k) m = nI (gs_un1 f n k m) := by
  intro m
  unfold gs_un1
  by_cases e : m = n
  · rw [if_pos e, e, pk_us]
  · rw [if_neg e, pk_un e]
    exact h m
theorem gs_un1_all {f : Nat → Nat} {P : Nat → Prop} {n k : Nat} (h : ∀ m, P (f m)) (hk : P k) : ∀ m, P (gs_un1 f n k m) := by
  intro m
  unfold gs_un1
  by_cases e : m = n
  · rw [if_pos e]
    exact hk
  · rw [if_neg e]
    exact h m
theorem gs_un1_2 {f g : Nat → Nat} {P : Nat → Nat → Prop} {n k l : Nat} (h : ∀ m, P (f m) (g m)) (hk : P k l) : ∀ m, P (gs_un1 f n k m) (gs_un1 g n l m) := by
  intro m
  unfold gs_un1
  by_cases e : m = n
  · rw [if_pos e, if_pos e]
    exact hk
  · rw [if_neg e, if_neg e]
    exact h m
/-- where a kind's condition holds, the array shows the number -/
theorem gs_updC {a : Nat → Int32} {f g : Nat → Nat} {C : Nat → Prop} {p : Int32} {n k l : Nat} (h : ∀ m, C (f m) → a m = nI (g m)) (hk : C k → p = nI l) : ∀ m, C (gs_un1 f n k m) → upd a n p m = nI (gs_un1 g n l m) := by
  intro m
  unfold gs_un1
  by_cases e : m = n
  · rw [if_pos e, if_pos e, e, pk_us]
    exact hk
  · rw [if_neg e, if_neg e, pk_un e]
    exact h m
def gs_cA (n k v c : Nat) (p0 p1 p2 p3 : Int32) : Prop := n < 16 ∧ k ≤ 5 ∧ p0 = nI n ∧ p1 = nI k ∧ (k ≠ 0 → v < 4 ∧ p2 = nI v) ∧ (k = 0 → v = 0) ∧ (k = 1 ∨ k = 2 → c < 16 ∧ p3 = nI c) ∧ (k = 3 → c < 4 ∧ p3 = nI c) ∧ (k = 0 ∨ k = 4 ∨ k = 5 → c = 0)
def gs_cE (n k v x y : Nat) (p0 p1 p2 p3 p4 : Int32) : Prop := n < 16 ∧ k ≤ 2 ∧ p0 = nI n ∧ p1 = nI k ∧ (k ≠ 0 → x < 16 ∧ p3 = nI x) ∧ (k = 0 → x = 0) ∧ (k = 2 → v < 4 ∧ p2 = nI v ∧ y < 16 ∧ p4 = nI y) ∧ (k ≠ 2 → v = 0 ∧ y = 0)
theorem gx_isVal {A B : Prop} {p : Int32} (ht : ∀ n, n < 16 → p = nI n → B) (hf : (∀ n, n < 16 → p ≠ nI n) → A) : wpX_isValue (fun r => (r = 0 → A) ∧ (¬ r = 0 → B)) p := by
  refine br_c (fun z => br_t rfl (hf (fun n hn e => ?_))) (fun z => ?_)
  · subst e
    exact nI_pos (by omega) z
  · obtain ⟨j, hj, rfl⟩ := nI_of z
    refine pk_le 16 j (fun w => br_t rfl (hf (fun n hn e => ?_))) (fun w => br_f (by decide) (ht j w rfl))
    have := (nI_eq hj (by omega)).mp e
    omega
theorem gx_isVarP {post : Int32 → Prop} {p : Int32} (ht : ∀ n, n < 4 → p = nI n → post 1) (hf : (∀ n, n < 4 → p ≠ nI n) → post 0) : wpX_isVariable post p := by
  refine br_c (fun z => hf (fun n hn e => ?_)) (fun z => ?_)
  · subst e
    exact nI_pos (by omega) z
  · obtain ⟨j, hj, rfl⟩ := nI_of z
    refine pk_le 4 j (fun w => hf (fun n hn e => ?_)) (fun w => ht j w rfl)
    have := (nI_eq hj (by omega)).mp e
    omega
theorem gx_isNodeP {post : Int32 → Prop} {p : Int32} (ht : ∀ n, n < 16 → p = nI n → post 1) (hf : (∀ n, n < 16 → p ≠ nI n) → post 0) : wpX_isNode post p := by
  refine br_c (fun z => hf (fun n hn e => ?_)) (fun z => ?_)
  · subst e
    exact nI_pos (by omega) z
  · obtain ⟨j, hj, rfl⟩ := nI_of z
    refine pk_le 16 j (fun w => hf (fun n hn e => ?_)) (fun w => ht j w rfl)
    have := (nI_eq hj (by omega)).mp e
    omega
theorem gx_isAct {A B : Prop} {p1 p2 p3 : Int32} {n : Nat} (hn : n < 16) (ht : (∃ k v c, gs_cA n k v c (nI n) p1 p2 p3) → B) (hf : (¬ ∃ k v c, gs_cA n k v c (nI n) p1 p2 p3) → A) : wpX_isAct (fun r => (r = 0 → A) ∧ (¬ r = 0 → B)) p1 p2 p3 := by
  have bad : (∀ k, k ≤ 5 → p1 ≠ nI k) → A := fun q => hf (fun ⟨k, v, c, w⟩ => q k w.2.1 w.2.2.2.1)
  refine br_c (fun z => br_t rfl (bad (fun k hk e => ?_))) (fun z => ?_)
  · subst e
    exact nI_pos (by omega) z
  · obtain ⟨k, hk, rfl⟩ := nI_of z
    refine pk_lt 5 k (fun w => br_t rfl (bad (fun j hj e => ?_))) (fun w => ?_)
    · have := (nI_eq hk (by omega)).mp e
      omega
    · have inj : ∀ j, j ≤ 5 → nI k = nI j → j = k := fun j hj e => ((nI_eq hk (by omega)).mp e).symm
      have h12 : (k = 1 ∨ k = 2) → wX_isAct_42 (fun r => (r = 0 → A) ∧ (¬ r = 0 → B)) p2 p3 := fun hc => by
        refine gx_isVar (fun v hv e => gx_isVal (fun c hc' e' => br_f (by decide) (ht ⟨k, v, c, hn, w, rfl, rfl, fun _ => ⟨hv, e⟩, fun q => by omega, fun _ => ⟨hc', e'⟩, fun q => by omega, fun q => by omega⟩)) (fun q => br_t rfl (hf ?_))) (fun q => br_t rfl (hf ?_))
        · rintro ⟨j, v', c', y⟩
          have := inj j y.2.1 y.2.2.2.1
          subst this
          exact q c' (y.2.2.2.2.2.2.1 hc).1 (y.2.2.2.2.2.2.1 hc).2
        · rintro ⟨j, v', c', y⟩
          have := inj j y.2.1 y.2.2.2.1
          subst this
          exact q v' (y.2.2.2.2.1 (by omega)).1 (y.2.2.2.2.1 (by omega)).2
      have h45 : (k = 4 ∨ k = 5) → wX_isAct_82 (fun r => (r = 0 → A) ∧ (¬ r = 0 → B)) p2 := fun hc => by
        refine gx_isVarP (fun v hv e => ⟨rfl, br_f (by decide) (ht ⟨k, v, 0, hn, w, rfl, rfl, fun _ => ⟨hv, e⟩, fun q => by omega, fun q => by omega, fun q => by omega, fun _ => rfl⟩)⟩) (fun q => ⟨rfl, br_t rfl (hf ?_)⟩)
        rintro ⟨j, v', c', y⟩
        have := inj j y.2.1 y.2.2.2.1
        subst this
        exact q v' (y.2.2.2.2.1 (by omega)).1 (y.2.2.2.2.1 (by omega)).2
      refine pk_eq k 0 (fun c0 => br_f (by decide) (ht ⟨k, 0, 0, hn, w, rfl, rfl, fun q => absurd c0 q, fun _ => rfl, fun q => by omega, fun q => by omega, fun _ => rfl⟩)) (fun c0 => pk_eq k 1 (fun c1 => h12 (Or.inl c1)) (fun c1 => pk_eq k 2 (fun c2 => h12 (Or.inr c2)) (fun c2 => pk_eq k 3 (fun c3 => ?_) (fun c3 => pk_eq k 4 (fun c4 => h45 (Or.inl c4)) (fun c4 => pk_eq k 5 (fun c5 => h45 (Or.inr c5)) (fun _ => trivial))))))
      refine gx_isVar (fun v hv e => gx_isVar (fun c hc' e' => br_f (by decide) (ht ⟨k, v, c, hn, w, rfl, rfl, fun _ => ⟨hv, e⟩, fun q => by omega, fun q => by omega, fun _ => ⟨hc', e'⟩, fun q => by omega⟩)) (fun q => br_t rfl (hf ?_))) (fun q => br_t rfl (hf ?_))
      · rintro ⟨j, v', c', y⟩
        have := inj j y.2.1 y.2.2.2.1
        subst this
        exact q c' (y.2.2.2.2.2.2.2.1 c3).1 (y.2.2.2.2.2.2.2.1 c3).2
      · rintro ⟨j, v', c', y⟩
        have := inj j y.2.1 y.2.2.2.1
        subst this
        exact q v' (y.2.2.2.2.1 (by omega)).1 (y.2.2.2.2.1 (by omega)).2
theorem gx_isEnd {A B : Prop} {p1 p2 p3 p4 : Int32} {n : Nat} (hn : n < 16) (ht : (∃ k v x y, gs_cE n k v x y (nI n) p1 p2 p3 p4) → B) (hf : (¬ ∃ k v x y, gs_cE n k v x y (nI n) p1 p2 p3 p4) → A) : wpX_isEnd (fun r => (r = 0 → A) ∧ (¬ r = 0 → B)) p1 p2 p3 p4 := by
  have bad : (∀ k, k ≤ 2 → p1 ≠ nI k) → A := fun q => hf (fun ⟨k, v, x, y, w⟩ => q k w.2.1 w.2.2.2.1)
  refine br_c (fun z => br_t rfl (bad (fun k hk e => ?_))) (fun z => ?_)
  · subst e
    exact nI_pos (by omega) z
  · obtain ⟨k, hk, rfl⟩ := nI_of z
    refine pk_lt 2 k (fun w => br_t rfl (bad (fun j hj e => ?_))) (fun w => ?_)
    · have := (nI_eq hk (by omega)).mp e
      omega
    · have inj : ∀ j, j ≤ 2 → nI k = nI j → j = k := fun j hj e => ((nI_eq hk (by omega)).mp e).symm
      refine pk_eq k 0 (fun c0 => br_f (by decide) (ht ⟨k, 0, 0, 0, hn, w, rfl, rfl, fun q => absurd c0 q, fun _ => rfl, fun q => by omega, fun _ => ⟨rfl, rfl⟩⟩)) (fun c0 => pk_eq k 1 (fun c1 => ?_) (fun c1 => pk_eq k 2 (fun c2 => ?_) (fun _ => trivial)))
      · refine gx_isNodeP (fun x hx e => ⟨rfl, br_f (by decide) (ht ⟨k, 0, x, 0, hn, w, rfl, rfl, fun _ => ⟨hx, e⟩, fun q => by omega, fun q => by omega, fun _ => ⟨rfl, rfl⟩⟩)⟩) (fun q => ⟨rfl, br_t rfl (hf ?_)⟩)
        rintro ⟨j, v', x', y', y⟩
        have := inj j y.2.1 y.2.2.2.1
        subst this
        exact q x' (y.2.2.2.2.1 (by omega)).1 (y.2.2.2.2.1 (by omega)).2
      · refine gx_isVar (fun v hv e => gx_isNode (fun x hx e' => gx_isNode (fun y hy e'' => br_f (by decide) (ht ⟨k, v, x, y, hn, w, rfl, rfl, fun _ => ⟨hx, e'⟩, fun q => by omega, fun _ => ⟨hv, e, hy, e''⟩, fun q => absurd c2 q⟩)) (fun q => br_t rfl (hf ?_))) (fun q => br_t rfl (hf ?_))) (fun q => br_t rfl (hf ?_))
        · rintro ⟨j, v', x', y', y⟩
          have := inj j y.2.1 y.2.2.2.1
          subst this
          have := y.2.2.2.2.2.2.1 c2
          exact q y' this.2.2.1 this.2.2.2
        · rintro ⟨j, v', x', y', y⟩
          have := inj j y.2.1 y.2.2.2.1
          subst this
          exact q x' (y.2.2.2.2.1 (by omega)).1 (y.2.2.2.2.1 (by omega)).2
        · rintro ⟨j, v', x', y', y⟩
          have := inj j y.2.1 y.2.2.2.1
          subst this
          have := y.2.2.2.2.2.2.1 c2
          exact q v' this.1 this.2.1
section
variable {f_stale f_seen f_seenCount f_isStraight f_meetings f_codeCount f_taskCount f_hasRun f_toldCount f_lastNode f_hasStopped : Int32} {f_inputLeft : Int64} {a_actKind a_actVariable a_actOperand a_endKind a_endVariable a_endX a_endY a_path a_pathSide a_leaving a_numberOf a_nodeAt a_successors a_predecessors a_before a_behind a_loop a_liveAt a_knownAt a_code a_task a_variable a_latestTold : Nat → Int32} {ek ex ey ak av ac ev : Nat → Nat}
theorem gx_m_act {post : Int32 → SX → Prop} {p0 p1 p2 p3 : Int32} (R : gx_RX ak av ac ek ev ex ey (f_stale, f_seen, f_seenCount, f_isStraight, f_meetings, f_codeCount, f_taskCount, f_hasRun, f_inputLeft, f_toldCount, f_lastNode, f_hasStopped, a_actKind, a_actVariable, a_actOperand, a_endKind, a_endVariable, a_endX, a_endY, a_path, a_pathSide, a_leaving, a_numberOf, a_nodeAt, a_successors, a_predecessors, a_before, a_behind, a_loop, a_liveAt, a_knownAt, a_code, a_task, a_variable, a_latestTold)) (hno : (¬ ∃ n k v c, gs_cA n k v c p0 p1 p2 p3) → post 0 (f_stale, f_seen, f_seenCount, f_isStraight, f_meetings, f_codeCount, f_taskCount, f_hasRun, f_inputLeft, f_toldCount, f_lastNode, f_hasStopped, a_actKind, a_actVariable, a_actOperand, a_endKind, a_endVariable, a_endX, a_endY, a_path, a_pathSide, a_leaving, a_numberOf, a_nodeAt, a_successors, a_predecessors, a_before, a_behind, a_loop, a_liveAt, a_knownAt, a_code, a_task, a_variable, a_latestTold))
    (hok : ∀ n k v c, gs_cA n k v c p0 p1 p2 p3 → ∀ u, gx_RX (gs_un1 ak n k) (gs_un1 av n v) (gs_un1 ac n c) ek ev ex ey u → gx_run u = gx_run (f_stale, f_seen, f_seenCount, f_isStraight, f_meetings, f_codeCount, f_taskCount, f_hasRun, f_inputLeft, f_toldCount, f_lastNode, f_hasStopped, a_actKind, a_actVariable, a_actOperand, a_endKind, a_endVariable, a_endX, a_endY, a_path, a_pathSide, a_leaving, a_numberOf, a_nodeAt, a_successors, a_predecessors, a_before, a_behind, a_loop, a_liveAt, a_knownAt, a_code, a_task, a_variable, a_latestTold) → post 1 u) : wpX_act post (f_stale, f_seen, f_seenCount, f_isStraight, f_meetings, f_codeCount, f_taskCount, f_hasRun, f_inputLeft, f_toldCount, f_lastNode, f_hasStopped, a_actKind, a_actVariable, a_actOperand, a_endKind, a_endVariable, a_endX, a_endY, a_path, a_pathSide, a_leaving, a_numberOf, a_nodeAt, a_successors, a_predecessors, a_before, a_behind, a_loop, a_liveAt, a_knownAt, a_code, a_task, a_variable, a_latestTold) p0 p1 p2 p3 := by
  obtain ⟨GE, ⟨g1, g2, g3, g4, g5, g6, g7, g8, g9⟩, _⟩ := R
  unfold wpX_act
  refine gx_isNode (fun n hn e => ?_) (fun q => hno (fun ⟨n, k, v, c, w⟩ => q n w.1 w.2.2.1))
  subst e
  refine gx_isAct hn (fun ⟨k, v, c, w⟩ => ?_) (fun q => hno (fun ⟨m, k, v, c, w⟩ => q ?_))
  · have w' := w
    obtain ⟨w1, w2, w3, w4, w5, w6, w7, w8, w9⟩ := w
    subst w4
    have fin : ∀ u, gx_RX (gs_un1 ak n k) (gs_un1 av n v) (gs_un1 ac n c) ek ev ex ey u → gx_run u = gx_run (f_stale, f_seen, f_seenCount, f_isStraight, f_meetings, f_codeCount, f_taskCount, f_hasRun, f_inputLeft, f_toldCount, f_lastNode, f_hasStopped, a_actKind, a_actVariable, a_actOperand, a_endKind, a_endVariable, a_endX, a_endY, a_path, a_pathSide, a_leaving, a_numberOf, a_nodeAt, a_successors, a_predecessors, a_before, a_behind, a_loop, a_liveAt, a_knownAt, a_code, a_task, a_variable, a_latestTold) → post 1 u := hok n k v c w'
    have c16 : c < 16 := by
      by_cases q : k = 1 ∨ k = 2
      · exact (w7 q).1
      · by_cases q3 : k = 3
        · have := (w8 q3).1
          omega
        · have := w9 (by omega)
          omega
    have v4 : v < 4 := by
      by_cases q : k = 0
      · have := w6 q
        omega
      · exact (w5 q).1
    have GA : ∀ a1 a2 a3, (∀ m, a1 m = nI (gs_un1 ak n k m)) → (∀ m, a2 m = nI (gs_un1 av n v m)) → (∀ m, a3 m = nI (gs_un1 ac n c m)) → gx_GA (gs_un1 ak n k) (gs_un1 av n v) (gs_un1 ac n c) ev a1 a2 a3 a_endVariable := fun a1 a2 a3 h1 h2 h3 =>
      ⟨gs_un1_all (P := fun x => x ≤ 5) g1 w2, gs_un1_all (P := fun x => x < 4) g2 v4, gs_un1_all (P := fun x => x < 16) g3 c16, gs_un1_2 (P := fun x y => x = 3 → y < 4) g4 (fun q => (w8 q).1), g5, h1, h2, h3, g9⟩
    have s62 : ∀ (z : Int32) (x5 : Int32), z = nI v → ((x5 = 0 ∧ c = 0) ∨ (¬ x5 = 0 ∧ p3 = nI c)) → wX_act_62 post (nI n) p3 x5 z (nI n) f_stale f_seen f_seenCount f_isStraight f_meetings f_codeCount f_taskCount f_hasRun f_inputLeft f_toldCount f_lastNode f_hasStopped (upd a_actKind n (nI k)) a_actVariable a_actOperand a_endKind a_endVariable a_endX a_endY a_path a_pathSide a_leaving a_numberOf a_nodeAt a_successors a_predecessors a_before a_behind a_loop a_liveAt a_knownAt a_code a_task a_variable a_latestTold := by
      intro z x5 hz hx5
      refine ⟨gx_in hn, nm_r (e' := upd a_actVariable n (nI v)) (by rw [gx_cl hn, hz]) (br_c (fun y => ⟨gx_in hn, nm_r (e' := upd a_actOperand n (nI c)) ?_ ?_⟩) (fun y => ⟨gx_in hn, nm_r (e' := upd a_actOperand n (nI c)) ?_ ?_⟩))⟩
      · rw [gx_cl hn]
        rcases hx5 with q | q
        · rw [q.2]
          rfl
        · exact absurd y q.1
      · exact fin _ ⟨GE, GA _ _ _ (gs_updI g6 n k) (gs_updI g7 n v) (gs_updI g8 n c), fun q => absurd q (by decide)⟩ rfl
      · rw [gx_cl hn]
        rcases hx5 with q | q
        · exact absurd q.1 y
        · rw [q.2]
      · exact fin _ ⟨GE, GA _ _ _ (gs_updI g6 n k) (gs_updI g7 n v) (gs_updI g8 n c), fun q => absurd q (by decide)⟩ rfl
    have s39 : ∀ x5 : Int32, ((x5 = 0 ∧ c = 0) ∨ (¬ x5 = 0 ∧ p3 = nI c)) → wX_act_39 post (nI n) (nI k) p2 p3 x5 f_stale f_seen f_seenCount f_isStraight f_meetings f_codeCount f_taskCount f_hasRun f_inputLeft f_toldCount f_lastNode f_hasStopped a_actKind a_actVariable a_actOperand a_endKind a_endVariable a_endX a_endY a_path a_pathSide a_leaving a_numberOf a_nodeAt a_successors a_predecessors a_before a_behind a_loop a_liveAt a_knownAt a_code a_task a_variable a_latestTold := by
      intro x5 hx5
      refine ⟨gx_in hn, nm_r (e' := upd a_actKind n (nI k)) (by rw [gx_cl hn]) (pk_eq k 0 (fun q => s62 _ x5 (by rw [w6 q]; rfl) hx5) (fun q => s62 _ x5 (w5 q).2 hx5))⟩
    have s34 : (k = 1 ∨ k = 2 ∨ k = 3) → wX_act_34 post (nI n) (nI k) p2 p3 f_stale f_seen f_seenCount f_isStraight f_meetings f_codeCount f_taskCount f_hasRun f_inputLeft f_toldCount f_lastNode f_hasStopped a_actKind a_actVariable a_actOperand a_endKind a_endVariable a_endX a_endY a_path a_pathSide a_leaving a_numberOf a_nodeAt a_successors a_predecessors a_before a_behind a_loop a_liveAt a_knownAt a_code a_task a_variable a_latestTold := by
      intro q
      refine s39 1 (Or.inr ⟨by decide, ?_⟩)
      by_cases q3 : k = 3
      · exact (w8 q3).2
      · exact (w7 (by omega)).2
    exact pk_eq k 1 (fun q => s34 (Or.inl q)) (fun q1 => pk_eq k 2 (fun q => s34 (Or.inr (Or.inl q))) (fun q2 => pk_eq k 3 (fun q => s34 (Or.inr (Or.inr q))) (fun q3 => s39 0 (Or.inl ⟨rfl, w9 (by omega)⟩))))
  · have : m = n := ((nI_eq (by omega) (by have := w.1; omega)).mp w.2.2.1).symm
    subst this
    exact ⟨k, v, c, w⟩
theorem gx_m_end {post : Int32 → SX → Prop} {p0 p1 p2 p3 p4 : Int32} (R : gx_RX ak av ac ek ev ex ey (f_stale, f_seen, f_seenCount, f_isStraight, f_meetings, f_codeCount, f_taskCount, f_hasRun, f_inputLeft, f_toldCount, f_lastNode, f_hasStopped, a_actKind, a_actVariable, a_actOperand, a_endKind, a_endVariable, a_endX, a_endY, a_path, a_pathSide, a_leaving, a_numberOf, a_nodeAt, a_successors, a_predecessors, a_before, a_behind, a_loop, a_liveAt, a_knownAt, a_code, a_task, a_variable, a_latestTold)) (hno : (¬ ∃ n k v x y, gs_cE n k v x y p0 p1 p2 p3 p4) → post 0 (f_stale, f_seen, f_seenCount, f_isStraight, f_meetings, f_codeCount, f_taskCount, f_hasRun, f_inputLeft, f_toldCount, f_lastNode, f_hasStopped, a_actKind, a_actVariable, a_actOperand, a_endKind, a_endVariable, a_endX, a_endY, a_path, a_pathSide, a_leaving, a_numberOf, a_nodeAt, a_successors, a_predecessors, a_before, a_behind, a_loop, a_liveAt, a_knownAt, a_code, a_task, a_variable, a_latestTold))
    (hok : ∀ n k v x y, gs_cE n k v x y p0 p1 p2 p3 p4 → ∀ u, gx_RX ak av ac (gs_un1 ek n k) (gs_un1 ev n v) (gs_un1 ex n x) (gs_un1 ey n y) u → gx_run u = gx_run (f_stale, f_seen, f_seenCount, f_isStraight, f_meetings, f_codeCount, f_taskCount, f_hasRun, f_inputLeft, f_toldCount, f_lastNode, f_hasStopped, a_actKind, a_actVariable, a_actOperand, a_endKind, a_endVariable, a_endX, a_endY, a_path, a_pathSide, a_leaving, a_numberOf, a_nodeAt, a_successors, a_predecessors, a_before, a_behind, a_loop, a_liveAt, a_knownAt, a_code, a_task, a_variable, a_latestTold) → post 1 u) : wpX_end post (f_stale, f_seen, f_seenCount, f_isStraight, f_meetings, f_codeCount, f_taskCount, f_hasRun, f_inputLeft, f_toldCount, f_lastNode, f_hasStopped, a_actKind, a_actVariable, a_actOperand, a_endKind, a_endVariable, a_endX, a_endY, a_path, a_pathSide, a_leaving, a_numberOf, a_nodeAt, a_successors, a_predecessors, a_before, a_behind, a_loop, a_liveAt, a_knownAt, a_code, a_task, a_variable, a_latestTold) p0 p1 p2 p3 p4 := by
  obtain ⟨⟨e1, e2, e3, e4, e5, e6⟩, ⟨g1, g2, g3, g4, g5, g6, g7, g8, g9⟩, _⟩ := R
  unfold wpX_end
  refine gx_isNode (fun n hn e => ?_) (fun q => hno (fun ⟨n, k, v, x, y, w⟩ => q n w.1 w.2.2.1))
  subst e
  refine gx_isEnd hn (fun ⟨k, v, x, y, w⟩ => ?_) (fun q => hno (fun ⟨m, k, v, x, y, w⟩ => q ?_))
  · have w' := w
    obtain ⟨w1, w2, w3, w4, w5, w6, w7, w8⟩ := w
    subst w4
    have fin : ∀ u, gx_RX ak av ac (gs_un1 ek n k) (gs_un1 ev n v) (gs_un1 ex n x) (gs_un1 ey n y) u → gx_run u = gx_run (f_stale, f_seen, f_seenCount, f_isStraight, f_meetings, f_codeCount, f_taskCount, f_hasRun, f_inputLeft, f_toldCount, f_lastNode, f_hasStopped, a_actKind, a_actVariable, a_actOperand, a_endKind, a_endVariable, a_endX, a_endY, a_path, a_pathSide, a_leaving, a_numberOf, a_nodeAt, a_successors, a_predecessors, a_before, a_behind, a_loop, a_liveAt, a_knownAt, a_code, a_task, a_variable, a_latestTold) → post 1 u := hok n k v x y w'
    have x16 : x < 16 := by
      by_cases q : k = 0
      · have := w6 q
        omega
      · exact (w5 q).1
    have vy : v < 4 ∧ y < 16 := by
      by_cases q : k = 2
      · exact ⟨(w7 q).1, (w7 q).2.2.1⟩
      · have := w8 q
        omega
    have GE : gx_GE (gs_un1 ek n k) (gs_un1 ex n x) (gs_un1 ey n y) (upd a_endKind n (nI k)) (upd a_endX n (nI x)) (upd a_endY n (nI y)) := ⟨gs_un1_all (P := fun x => x ≤ 2) e1 w2, gs_un1_all (P := fun x => x < 16) e2 x16, gs_un1_all (P := fun x => x < 16) e3 vy.2, gs_updI e4 n k, gs_updI e5 n x, gs_updI e6 n y⟩
    have GA : gx_GA ak av ac (gs_un1 ev n v) a_actKind a_actVariable a_actOperand (upd a_endVariable n (nI v)) := ⟨g1, g2, g3, g4, gs_un1_all (P := fun x => x < 4) g5 vy.1, g6, g7, g8, gs_updI g9 n v⟩
    have s59 : ∀ z : Int32, z = nI x → wX_end_59 post (nI n) (nI k) p4 z (nI n) f_stale f_seen f_seenCount f_isStraight f_meetings f_codeCount f_taskCount f_hasRun f_inputLeft f_toldCount f_lastNode f_hasStopped a_actKind a_actVariable a_actOperand (upd a_endKind n (nI k)) (upd a_endVariable n (nI v)) a_endX a_endY a_path a_pathSide a_leaving a_numberOf a_nodeAt a_successors a_predecessors a_before a_behind a_loop a_liveAt a_knownAt a_code a_task a_variable a_latestTold := by
      intro z hz
      refine ⟨gx_in hn, nm_r (e' := upd a_endX n (nI x)) (by rw [gx_cl hn, hz]) (pk_eq k 2 (fun q => ⟨gx_in hn, nm_r (e' := upd a_endY n (nI y)) (by rw [gx_cl hn, (w7 q).2.2.2]) ?_⟩) (fun q => ⟨gx_in hn, nm_r (e' := upd a_endY n (nI y)) (by rw [gx_cl hn, (w8 q).2]; rfl) ?_⟩))⟩
      · exact fin _ ⟨GE, GA, fun q => absurd q (by decide)⟩ rfl
      · exact fin _ ⟨GE, GA, fun q => absurd q (by decide)⟩ rfl
    have s43 : ∀ z : Int32, z = nI v → wX_end_43 post (nI n) (nI k) p3 p4 z (nI n) f_stale f_seen f_seenCount f_isStraight f_meetings f_codeCount f_taskCount f_hasRun f_inputLeft f_toldCount f_lastNode f_hasStopped a_actKind a_actVariable a_actOperand (upd a_endKind n (nI k)) a_endVariable a_endX a_endY a_path a_pathSide a_leaving a_numberOf a_nodeAt a_successors a_predecessors a_before a_behind a_loop a_liveAt a_knownAt a_code a_task a_variable a_latestTold := by
      intro z hz
      exact ⟨gx_in hn, nm_r (e' := upd a_endVariable n (nI v)) (by rw [gx_cl hn, hz]) (pk_eq k 0 (fun q => s59 _ (by rw [w6 q]; rfl)) (fun q => s59 _ (w5 q).2))⟩
    exact ⟨gx_in hn, nm_r (e' := upd a_endKind n (nI k)) (by rw [gx_cl hn]) (pk_eq k 2 (fun q => s43 _ (w7 q).2.1) (fun q => s43 _ (by rw [(w8 q).1]; rfl)))⟩
  · have : m = n := ((nI_eq (by omega) (by have := w.1; omega)).mp w.2.2.1).symm
    subst this
    exact ⟨k, v, x, y, w⟩
end
section
variable {f_fresh f_many f_tells f_last f_runs f_stopped : Int32} {a_actKind a_actV a_actC a_endKind a_endV a_endX a_endY a_number a_before a_behind a_reached a_todo a_words a_coming a_values a_told a_variables : Nat → Int32} {ek ex ey ak av ac ev : Nat → Nat}
theorem gy_m_act {post : Int32 → SY → Prop} {p0 p1 p2 p3 : Int32} (R : gy_RY ak av ac ek ev ex ey (f_fresh, f_many, f_tells, f_last, f_runs, f_stopped, a_actKind, a_actV, a_actC, a_endKind, a_endV, a_endX, a_endY, a_number, a_before, a_behind, a_reached, a_todo, a_words, a_coming, a_values, a_told, a_variables)) (hno : (¬ ∃ n k v c, gs_cA n k v c p0 p1 p2 p3) → post 0 (f_fresh, f_many, f_tells, f_last, f_runs, f_stopped, a_actKind, a_actV, a_actC, a_endKind, a_endV, a_endX, a_endY, a_number, a_before, a_behind, a_reached, a_todo, a_words, a_coming, a_values, a_told, a_variables))
    (hok : ∀ n k v c, gs_cA n k v c p0 p1 p2 p3 → ∀ u, gy_RY (gs_un1 ak n k) (gs_un1 av n v) (gs_un1 ac n c) ek ev ex ey u → gy_run u = gy_run (f_fresh, f_many, f_tells, f_last, f_runs, f_stopped, a_actKind, a_actV, a_actC, a_endKind, a_endV, a_endX, a_endY, a_number, a_before, a_behind, a_reached, a_todo, a_words, a_coming, a_values, a_told, a_variables) → post 1 u) : wpY_act post (f_fresh, f_many, f_tells, f_last, f_runs, f_stopped, a_actKind, a_actV, a_actC, a_endKind, a_endV, a_endX, a_endY, a_number, a_before, a_behind, a_reached, a_todo, a_words, a_coming, a_values, a_told, a_variables) p0 p1 p2 p3 := by
  obtain ⟨GE, ⟨g1, g2, g3, g4, g5, g6, g7⟩, _⟩ := R
  unfold wpY_act
  refine gy_in (m := 15) rfl (by decide) (fun n hn e => ?_) (fun q => hno (fun ⟨n, k, v, c, w⟩ => q n (by have := w.1; omega) w.2.2.1))
  subst e
  have bad : ∀ k, k ≤ 5 → p1 = nI k → (∀ v c, ¬ gs_cA n k v c (nI n) p1 p2 p3) → post 0 (f_fresh, f_many, f_tells, f_last, f_runs, f_stopped, a_actKind, a_actV, a_actC, a_endKind, a_endV, a_endX, a_endY, a_number, a_before, a_behind, a_reached, a_todo, a_words, a_coming, a_values, a_told, a_variables) := by
    intro k hk e q
    refine hno (fun ⟨m, j, v, c, w⟩ => q v c ?_)
    have m1 : m = n := ((nI_eq (by omega) (by have := w.1; omega)).mp w.2.2.1).symm
    have j1 : j = k := ((nI_eq (by omega) (by have := w.2.1; omega)).mp (e.symm.trans w.2.2.2.1)).symm
    subst m1 j1
    exact w
  refine gy_in (m := 5) rfl (by decide) (fun k hk e => ?_) (fun q => hno (fun ⟨m, k, v, c, w⟩ => q k w.2.1 w.2.2.2.1))
  subst e
  have s70 : ∀ v c, gs_cA n k v c (nI n) (nI k) p2 p3 → wY_act_70 post (nI n) (nI k) p2 p3 f_fresh f_many f_tells f_last f_runs f_stopped a_actKind a_actV a_actC a_endKind a_endV a_endX a_endY a_number a_before a_behind a_reached a_todo a_words a_coming a_values a_told a_variables := by
    intro v c w
    have w' := w
    obtain ⟨w1, w2, w3, w4, w5, w6, w7, w8, w9⟩ := w
    have c16 : c < 16 := by
      by_cases q : k = 1 ∨ k = 2
      · exact (w7 q).1
      · by_cases q3 : k = 3
        · have := (w8 q3).1
          omega
        · have := w9 (by omega)
          omega
    have v4 : v < 4 := by
      by_cases q : k = 0
      · have := w6 q
        omega
      · exact (w5 q).1
    refine ⟨gx_in w1, nm_r (e' := upd a_actKind n (nI k)) (by rw [gx_cl w1]) ⟨gx_in w1, nm_r (e' := upd a_actV n p2) (by rw [gx_cl w1]) ⟨gx_in w1, nm_r (e' := upd a_actC n p3) (by rw [gx_cl w1]) ?_⟩⟩⟩
    refine hok n k v c w' _ ⟨GE, ⟨gs_un1_all (P := fun x => x ≤ 5) g1 w2, gs_un1_all (P := fun x => x < 4) g2 v4, gs_un1_all (P := fun x => x < 16) g3 c16, gs_un1_2 (P := fun x y => x = 3 → y < 4) g4 (fun q => (w8 q).1), gs_updI g5 n k, gs_updC (C := fun x => x ≠ 0) g6 (fun q => (w5 q).2), gs_updC (C := fun x => x = 1 ∨ x = 2 ∨ x = 3) g7 (fun q => ?_)⟩, fun q => absurd rfl q⟩ rfl
    by_cases q3 : k = 3
    · exact (w8 q3).2
    · exact (w7 (by omega)).2
  have s53 : ∀ v, ((k ≠ 0 → v < 4 ∧ p2 = nI v) ∧ (k = 0 → v = 0)) → (¬ (k = 1 ∨ k = 2) ∨ ∃ c, c < 16 ∧ p3 = nI c) → wY_act_53 post (nI n) (nI k) p2 p3 f_fresh f_many f_tells f_last f_runs f_stopped a_actKind a_actV a_actC a_endKind a_endV a_endX a_endY a_number a_before a_behind a_reached a_todo a_words a_coming a_values a_told a_variables := by
    intro v hv hc
    refine pk_eq k 3 (fun q => gy_in (m := 3) rfl (by decide) (fun c h3 e => s70 v c ⟨by omega, hk, rfl, rfl, hv.1, hv.2, fun y => by omega, fun _ => ⟨by omega, e⟩, fun y => by omega⟩) (fun y => bad k hk rfl (fun v' c' w => y c' (by have := (w.2.2.2.2.2.2.2.1 q).1; omega) (w.2.2.2.2.2.2.2.1 q).2))) (fun q => ?_)
    by_cases q12 : k = 1 ∨ k = 2
    · obtain ⟨c, h1, h2⟩ := hc.resolve_left (fun y => y q12)
      exact s70 v c ⟨by omega, hk, rfl, rfl, hv.1, hv.2, fun _ => ⟨h1, h2⟩, fun y => absurd y q, fun y => by omega⟩
    · exact s70 v 0 ⟨by omega, hk, rfl, rfl, hv.1, hv.2, fun y => absurd y q12, fun y => absurd y q, fun _ => rfl⟩
  have s32 : ∀ v, ((k ≠ 0 → v < 4 ∧ p2 = nI v) ∧ (k = 0 → v = 0)) → wY_act_32 post (nI n) (nI k) p2 p3 f_fresh f_many f_tells f_last f_runs f_stopped a_actKind a_actV a_actC a_endKind a_endV a_endX a_endY a_number a_before a_behind a_reached a_todo a_words a_coming a_values a_told a_variables := by
    intro v hv
    have s42 : (k = 1 ∨ k = 2) → wY_act_42 post (nI n) (nI k) p2 p3 f_fresh f_many f_tells f_last f_runs f_stopped a_actKind a_actV a_actC a_endKind a_endV a_endX a_endY a_number a_before a_behind a_reached a_todo a_words a_coming a_values a_told a_variables := fun q => gy_in (m := 15) rfl (by decide) (fun c hc e => s53 v hv (Or.inr ⟨c, by omega, e⟩)) (fun y => bad k hk rfl (fun v' c' w => y c' (by have := (w.2.2.2.2.2.2.1 q).1; omega) (w.2.2.2.2.2.2.1 q).2))
    exact pk_eq k 1 (fun q => s42 (Or.inl q)) (fun q1 => pk_eq k 2 (fun q => s42 (Or.inr q)) (fun q2 => s53 v hv (Or.inl (by omega))))
  refine pk_le k 0 (fun q => s32 0 ⟨fun y => by omega, fun _ => rfl⟩) (fun q => gy_in (m := 3) rfl (by decide) (fun v hv e => s32 v ⟨fun _ => ⟨by omega, e⟩, fun y => by omega⟩) (fun y => bad k hk rfl (fun v' c' w => y v' (by have := (w.2.2.2.2.1 (by omega)).1; omega) (w.2.2.2.2.1 (by omega)).2)))
theorem gy_m_end {post : Int32 → SY → Prop} {p0 p1 p2 p3 p4 : Int32} (R : gy_RY ak av ac ek ev ex ey (f_fresh, f_many, f_tells, f_last, f_runs, f_stopped, a_actKind, a_actV, a_actC, a_endKind, a_endV, a_endX, a_endY, a_number, a_before, a_behind, a_reached, a_todo, a_words, a_coming, a_values, a_told, a_variables)) (hno : (¬ ∃ n k v x y, gs_cE n k v x y p0 p1 p2 p3 p4) → post 0 (f_fresh, f_many, f_tells, f_last, f_runs, f_stopped, a_actKind, a_actV, a_actC, a_endKind, a_endV, a_endX, a_endY, a_number, a_before, a_behind, a_reached, a_todo, a_words, a_coming, a_values, a_told, a_variables))
    (hok : ∀ n k v x y, gs_cE n k v x y p0 p1 p2 p3 p4 → ∀ u, gy_RY ak av ac (gs_un1 ek n k) (gs_un1 ev n v) (gs_un1 ex n x) (gs_un1 ey n y) u → gy_run u = gy_run (f_fresh, f_many, f_tells, f_last, f_runs, f_stopped, a_actKind, a_actV, a_actC, a_endKind, a_endV, a_endX, a_endY, a_number, a_before, a_behind, a_reached, a_todo, a_words, a_coming, a_values, a_told, a_variables) → post 1 u) : wpY_end post (f_fresh, f_many, f_tells, f_last, f_runs, f_stopped, a_actKind, a_actV, a_actC, a_endKind, a_endV, a_endX, a_endY, a_number, a_before, a_behind, a_reached, a_todo, a_words, a_coming, a_values, a_told, a_variables) p0 p1 p2 p3 p4 := by
  obtain ⟨⟨e1, e2, e3, e4, e5, e6, e7, e8⟩, GA, _⟩ := R
  unfold wpY_end
  refine gy_in (m := 15) rfl (by decide) (fun n hn e => ?_) (fun q => hno (fun ⟨n, k, v, x, y, w⟩ => q n (by have := w.1; omega) w.2.2.1))
  subst e
  have bad : ∀ k, k ≤ 2 → p1 = nI k → (∀ v x y, ¬ gs_cE n k v x y (nI n) p1 p2 p3 p4) → post 0 (f_fresh, f_many, f_tells, f_last, f_runs, f_stopped, a_actKind, a_actV, a_actC, a_endKind, a_endV, a_endX, a_endY, a_number, a_before, a_behind, a_reached, a_todo, a_words, a_coming, a_values, a_told, a_variables) := by
    intro k hk e q
    refine hno (fun ⟨m, j, v, x, y, w⟩ => q v x y ?_)
    have m1 : m = n := ((nI_eq (by omega) (by have := w.1; omega)).mp w.2.2.1).symm
    have j1 : j = k := ((nI_eq (by omega) (by have := w.2.1; omega)).mp (e.symm.trans w.2.2.2.1)).symm
    subst m1 j1
    exact w
  refine gy_in (m := 2) rfl (by decide) (fun k hk e => ?_) (fun q => hno (fun ⟨m, k, v, x, y, w⟩ => q k w.2.1 w.2.2.2.1))
  subst e
  have s61 : ∀ v x y, gs_cE n k v x y (nI n) (nI k) p2 p3 p4 → wY_end_61 post (nI n) (nI k) p2 p3 p4 f_fresh f_many f_tells f_last f_runs f_stopped a_actKind a_actV a_actC a_endKind a_endV a_endX a_endY a_number a_before a_behind a_reached a_todo a_words a_coming a_values a_told a_variables := by
    intro v x y w
    have w' := w
    obtain ⟨w1, w2, w3, w4, w5, w6, w7, w8⟩ := w
    have x16 : x < 16 := by
      by_cases q : k = 0
      · have := w6 q
        omega
      · exact (w5 q).1
    have vy : v < 4 ∧ y < 16 := by
      by_cases q : k = 2
      · exact ⟨(w7 q).1, (w7 q).2.2.1⟩
      · have := w8 q
        omega
    refine ⟨gx_in w1, nm_r (e' := upd a_endKind n (nI k)) (by rw [gx_cl w1]) ⟨gx_in w1, nm_r (e' := upd a_endV n p2) (by rw [gx_cl w1]) ⟨gx_in w1, nm_r (e' := upd a_endX n p3) (by rw [gx_cl w1]) ⟨gx_in w1, nm_r (e' := upd a_endY n p4) (by rw [gx_cl w1]) ?_⟩⟩⟩⟩
    exact hok n k v x y w' _ ⟨⟨gs_un1_all (P := fun x => x ≤ 2) e1 w2, gs_un1_all (P := fun x => x < 16) e2 x16, gs_un1_all (P := fun x => x < 16) e3 vy.2, gs_un1_all (P := fun x => x < 4) e4 vy.1, gs_updI e5 n k, gs_updC (C := fun x => x ≠ 0) e6 (fun q => (w5 q).2), gs_updC (C := fun x => x = 2) e7 (fun q => (w7 q).2.2.2), gs_updC (C := fun x => x = 2) e8 (fun q => (w7 q).2.1)⟩, GA, fun q => absurd rfl q⟩ rfl
  have s34 : ∀ x, ((k ≠ 0 → x < 16 ∧ p3 = nI x) ∧ (k = 0 → x = 0)) → wY_end_34 post (nI n) (nI k) p2 p3 p4 f_fresh f_many f_tells f_last f_runs f_stopped a_actKind a_actV a_actC a_endKind a_endV a_endX a_endY a_number a_before a_behind a_reached a_todo a_words a_coming a_values a_told a_variables := by
    intro x hx
    exact pk_eq k 2 (fun q => gy_in (m := 3) rfl (by decide) (fun v hv e => gy_in (m := 15) rfl (by decide) (fun y hy e' => s61 v x y ⟨by omega, hk, rfl, rfl, hx.1, hx.2, fun _ => ⟨by omega, e, by omega, e'⟩, fun z => absurd q z⟩) (fun z => bad k hk rfl (fun v' x' y' w => z y' (by have := (w.2.2.2.2.2.2.1 q).2.2.1; omega) (w.2.2.2.2.2.2.1 q).2.2.2))) (fun z => bad k hk rfl (fun v' x' y' w => z v' (by have := (w.2.2.2.2.2.2.1 q).1; omega) (w.2.2.2.2.2.2.1 q).2.1))) (fun q => s61 0 x 0 ⟨by omega, hk, rfl, rfl, hx.1, hx.2, fun y => absurd y q, fun _ => ⟨rfl, rfl⟩⟩)
  exact pk_le k 0 (fun q => s34 0 ⟨fun y => by omega, fun _ => rfl⟩) (fun q => gy_in (m := 15) rfl (by decide) (fun x hx e => s34 x ⟨fun _ => ⟨by omega, e⟩, fun y => by omega⟩) (fun y => bad k hk rfl (fun v' x' y' w => y x' (by have := (w.2.2.2.2.1 (by omega)).1; omega) (w.2.2.2.2.1 (by omega)).2)))
end
end
section
/-! run and ran, both sides -/
theorem gs_upd_self {a : Nat → Int32} {k : Nat} {x : Int32} (h : a k = x) : upd a k x = a := by
  funext j
  by_cases e : j = k
  · rw [e, pk_us, h]
  · exact pk_un e
def gs_VB (a : Nat → Int32) : Prop := ∀ i, i < 4 → ∃ b, b < 16 ∧ a i = nI b
theorem gs_VB_upd {a : Nat → Int32} {k b : Nat} (h : gs_VB a) (hb : b < 16) : gs_VB (upd a k (nI b)) := by
  intro i hi
  by_cases e : i = k
  · rw [e]
    exact ⟨b, hb, pk_us⟩
  · rw [pk_un e]
    exact h i hi
def gs_zk (a : Nat → Int32) : Nat → Nat → Int32
  | 0 => a
  | i + 1 => upd (gs_zk a i) i 0
theorem gs_zk_VB (a : Nat → Int32) : gs_VB (gs_zk a 4) := by
  intro i hi
  refine ⟨0, by omega, ?_⟩
  have hc : i = 0 ∨ i = 1 ∨ i = 2 ∨ i = 3 := by omega
  rcases hc with rfl | rfl | rfl | rfl <;> rfl
theorem gs_in15 (x : Int64) : ∃ b, b < 16 ∧ (x &&& 15).toInt32 = nI b := by
  obtain ⟨m, hm, rfl⟩ : ∃ m, m < 2 ^ 64 ∧ x = lN m := ⟨x.toBitVec.toNat, x.toBitVec.isLt, Int64.toBitVec_inj.mp (by show _ = BitVec.ofNat 64 _; simp)⟩
  refine ⟨m % 16, by omega, ?_⟩
  have e : lN m &&& 15 = lN (m % 16) := by
    apply Int64.toBitVec_inj.mp
    apply BitVec.eq_of_toNat_eq
    show (BitVec.ofNat 64 m &&& 15#64).toNat = (BitVec.ofNat 64 (m % 16)).toNat
    rw [BitVec.toNat_and, BitVec.toNat_ofNat, BitVec.toNat_ofNat, BitVec.toNat_ofNat, show 15 % 2 ^ 64 = 2 ^ 4 - 1 from rfl, Nat.and_two_pow_sub_one_eq_mod]
    omega
  rw [e, lN_i]
abbrev gs_RS : Type := (Nat → Int32) × (Nat → Int32) × Nat × Int64 × Nat × Bool × Int32
section
variable (ak av ac ek ev ex ey : Nat → Nat)
/-- what the act at n makes: variables, told, how many, the input -/
def gs_ra (n : Nat) (va lt : Nat → Int32) (tc : Nat) (inp : Int64) : (Nat → Int32) × (Nat → Int32) × Nat × Int64 :=
  if ak n = 1 then (upd va (av n) (nI (ac n)), lt, tc, inp)
  else if ak n = 2 then (upd va (av n) (nI (((va (av n)).toNatClampNeg + ac n) % 16)), lt, tc, inp)
  else if ak n = 3 then (upd va (av n) (va (ac n)), lt, tc, inp)
  else if ak n = 4 then (va, upd lt (tc % 8) (va (av n)), tc + 1, inp)
  else if ak n = 5 then (upd va (av n) ((inp &&& 15).toInt32), lt, tc, (inp.toUInt64 >>> ((4 : Int32).toInt64.toUInt64 &&& Int64.toUInt64 63)).toInt64)
  else (va, lt, tc, inp)
def gs_rn (n : Nat) (va : Nat → Int32) : Nat := if ek n = 0 then n else if ek n = 1 then ex n else if va (ev n) = 0 then ex n else ey n
def gs_r1 (S : gs_RS) : gs_RS :=
  ((gs_ra ak av ac S.2.2.2.2.1 S.1 S.2.1 S.2.2.1 S.2.2.2.1).1, (gs_ra ak av ac S.2.2.2.2.1 S.1 S.2.1 S.2.2.1 S.2.2.2.1).2.1, (gs_ra ak av ac S.2.2.2.2.1 S.1 S.2.1 S.2.2.1 S.2.2.2.1).2.2.1, (gs_ra ak av ac S.2.2.2.2.1 S.1 S.2.1 S.2.2.1 S.2.2.2.1).2.2.2,
    gs_rn ek ev ex ey S.2.2.2.2.1 (gs_ra ak av ac S.2.2.2.2.1 S.1 S.2.1 S.2.2.1 S.2.2.2.1).1, decide (ek S.2.2.2.2.1 = 0), nI S.2.2.2.2.1)
def gs_r0 (va lt : Nat → Int32) (inp : Int64) : gs_RS := (gs_zk va 4, lt, 0, inp, 0, false, -1)
/-- the run made i steps and came to S -/
def gs_RA (va lt : Nat → Int32) (inp : Int64) (L i : Nat) (S : gs_RS) : Prop :=
  S = gs_it (gs_r1 ak av ac ek ev ex ey) i (gs_r0 va lt inp) ∧ i ≤ L ∧ (∀ j, j < i → (gs_it (gs_r1 ak av ac ek ev ex ey) j (gs_r0 va lt inp)).2.2.2.2.2.1 = false) ∧ (i = L ∨ S.2.2.2.2.2.1 = true)
def gs_RI (i : Nat) (S : gs_RS) : Prop := gs_VB S.1 ∧ S.2.2.1 ≤ i ∧ S.2.2.2.2.1 < 16
variable {ak av ac ek ev ex ey}
theorem gs_RA_uniq {va lt : Nat → Int32} {inp : Int64} {L i j : Nat} {S T : gs_RS} (h : gs_RA ak av ac ek ev ex ey va lt inp L i S) (h' : gs_RA ak av ac ek ev ex ey va lt inp L j T) : i = j ∧ S = T := by
  obtain ⟨a1, a2, a3, a4⟩ := h
  obtain ⟨b1, b2, b3, b4⟩ := h'
  have e : i = j := by
    rcases Nat.lt_trichotomy i j with z | z | z
    · rcases a4 with q | q
      · omega
      · have := b3 i z
        rw [← a1, q] at this
        exact nomatch this
    · exact z
    · rcases b4 with q | q
      · omega
      · have := a3 j z
        rw [← b1, q] at this
        exact nomatch this
  subst e
  exact ⟨rfl, a1.trans b1.symm⟩
theorem gs_RI_s (hav : ∀ n, av n < 4) (hac : ∀ n, ac n < 16) (hc3 : ∀ n, ak n = 3 → ac n < 4) (hx : ∀ n, ex n < 16) (hy : ∀ n, ey n < 16) {i : Nat} {S : gs_RS} (h : gs_RI i S) : gs_RI (i + 1) (gs_r1 ak av ac ek ev ex ey S) := by
  obtain ⟨va, lt, tc, inp, n, st, la⟩ := S
  obtain ⟨h1, h2, h3⟩ := h
  dsimp only at h1 h2 h3
  have a16 := hac n
  have key : gs_VB (gs_ra ak av ac n va lt tc inp).1 ∧ (gs_ra ak av ac n va lt tc inp).2.2.1 ≤ i + 1 := by
    unfold gs_ra
    split
    · exact ⟨gs_VB_upd h1 a16, by dsimp only; omega⟩
    · split
      · exact ⟨gs_VB_upd h1 (by omega), by dsimp only; omega⟩
      · split
        · rename_i c
          obtain ⟨b, hb, e⟩ := h1 (ac n) (hc3 n c)
          dsimp only
          rw [e]
          exact ⟨gs_VB_upd h1 hb, by omega⟩
        · split
          · exact ⟨h1, by dsimp only; omega⟩
          · split
            · obtain ⟨b, hb, e⟩ := gs_in15 inp
              dsimp only
              rw [e]
              exact ⟨gs_VB_upd h1 hb, by omega⟩
            · exact ⟨h1, by dsimp only; omega⟩
  refine ⟨key.1, key.2, ?_⟩
  show gs_rn ek ev ex ey n (gs_ra ak av ac n va lt tc inp).1 < 16
  unfold gs_rn
  split
  · exact h3
  · split
    · exact hx n
    · split
      · exact hx n
      · exact hy n
end
/-- what ran answers of what the runs leave -/
noncomputable def gs_ranA (R : Int32 × Int32 × Int32 × Int32 × (Nat → Int32) × (Nat → Int32)) (p : Int32) : Int32 :=
  if R.1 = 0 then -1 else if p = nI 0 then R.2.2.2.2.1 0 + 16 * R.2.2.2.2.1 1 + 256 * R.2.2.2.2.1 2 + 4096 * R.2.2.2.2.1 3
  else if p = nI 1 then R.2.1 else if p = nI 10 then R.2.2.1 else if p = nI 11 then (if R.2.2.2.1 = 0 then 0 else 1)
  else @ite Int32 (∃ j, j < 8 ∧ p = nI (2 + j)) (Classical.propDecidable _) (if (p - 2).toNatClampNeg < R.2.1.toNatClampNeg then R.2.2.2.2.2 ((R.2.1.toNatClampNeg - 1 - (p - 2).toNatClampNeg) % 8) else -1) (-1)
section
variable {f_stale f_seen f_seenCount f_isStraight f_meetings f_codeCount f_taskCount f_hasRun f_toldCount f_lastNode f_hasStopped : Int32} {f_inputLeft : Int64} {a_actKind a_actVariable a_actOperand a_endKind a_endVariable a_endX a_endY a_path a_pathSide a_leaving a_numberOf a_nodeAt a_successors a_predecessors a_before a_behind a_loop a_liveAt a_knownAt a_code a_task a_variable a_latestTold : Nat → Int32} {ek ex ey ak av ac ev : Nat → Nat}
theorem gx_runE : gx_run (f_stale, f_seen, f_seenCount, f_isStraight, f_meetings, f_codeCount, f_taskCount, f_hasRun, f_inputLeft, f_toldCount, f_lastNode, f_hasStopped, a_actKind, a_actVariable, a_actOperand, a_endKind, a_endVariable, a_endX, a_endY, a_path, a_pathSide, a_leaving, a_numberOf, a_nodeAt, a_successors, a_predecessors, a_before, a_behind, a_loop, a_liveAt, a_knownAt, a_code, a_task, a_variable, a_latestTold) = (f_hasRun, f_toldCount, f_lastNode, f_hasStopped, a_variable, a_latestTold) := rfl
theorem gx_madeV {post : Int32 → Prop} {n b : Nat} (GA : gx_GA ak av ac ev a_actKind a_actVariable a_actOperand a_endVariable) (hn : n < 16) (hb : b < 16) (hv : a_variable (av n) = nI b) (h0 : ak n = 0 → post (nI b)) (h1 : ak n = 1 → post (nI (ac n))) (h2 : ak n = 2 → post (nI ((b + ac n) % 16))) (h3 : ak n = 3 → post (a_variable (ac n))) (hne : ak n ≠ 4 ∧ ak n ≠ 5) : wpX_made__variable post (f_stale, f_seen, f_seenCount, f_isStraight, f_meetings, f_codeCount, f_taskCount, f_hasRun, f_inputLeft, f_toldCount, f_lastNode, f_hasStopped, a_actKind, a_actVariable, a_actOperand, a_endKind, a_endVariable, a_endX, a_endY, a_path, a_pathSide, a_leaving, a_numberOf, a_nodeAt, a_successors, a_predecessors, a_before, a_behind, a_loop, a_liveAt, a_knownAt, a_code, a_task, a_variable, a_latestTold) 0 (nI n) (nI (av n)) := by
  obtain ⟨g1, g2, g3, g4, g5, g6, g7, g8, g9⟩ := GA
  have av4 := g2 n
  have ac16 := g3 n
  have ak5 := g1 n
  unfold wpX_made__variable
  simp only [Int32.zero_add]
  refine ⟨vp_in_nI av4 (by decide), nm_r (e' := nI b) (by rw [nI_clamp (by omega)]; exact hv) ⟨gx_in hn, ?_⟩⟩
  simp only [gx_cl hn, g6, g7, g8]
  refine br_t trivial ⟨gx_in hn, nm_e ?_⟩
  have hc : ak n = 0 ∨ ak n = 1 ∨ ak n = 2 ∨ ak n = 3 := by omega
  rcases hc with c | c | c | c <;> rw [c]
  · exact br_t (by decide) (h0 c)
  · exact br_f (by decide) (br_f (by decide) (br_t rfl ⟨gx_in hn, h1 c⟩))
  · refine br_f (by decide) (br_f (by decide) (br_f (by decide) (br_t rfl (br_f (fun w => ?_) ⟨gx_in hn, by decide, ?_⟩))))
    · have := (nI_eq (b := 16) (by omega) (by decide)).mp w
      omega
    · rw [nI_add, show (16 : Int32) = nI 16 from rfl, pk_rem (by omega) (by decide) (by decide)]
      exact h2 c
  · have c4 := g4 n c
    refine br_f (by decide) (br_f (by decide) (br_f (by decide) (br_f (by decide) (br_t rfl ⟨gx_in hn, vp_in_nI c4 (by decide), ?_⟩))))
    rw [nI_clamp (by omega)]
    exact h3 c
theorem gx_doAct {post : SX → Prop} {n tc : Nat} (GA : gx_GA ak av ac ev a_actKind a_actVariable a_actOperand a_endVariable) (hn : n < 16) (hV : gs_VB a_variable) (ht : tc ≤ 1000)
    (h : post (f_stale, f_seen, f_seenCount, f_isStraight, f_meetings, f_codeCount, f_taskCount, f_hasRun, (gs_ra ak av ac n a_variable a_latestTold tc f_inputLeft).2.2.2, nI (gs_ra ak av ac n a_variable a_latestTold tc f_inputLeft).2.2.1, f_lastNode, f_hasStopped, a_actKind, a_actVariable, a_actOperand, a_endKind, a_endVariable, a_endX, a_endY, a_path, a_pathSide, a_leaving, a_numberOf, a_nodeAt, a_successors, a_predecessors, a_before, a_behind, a_loop, a_liveAt, a_knownAt, a_code, a_task, (gs_ra ak av ac n a_variable a_latestTold tc f_inputLeft).1, (gs_ra ak av ac n a_variable a_latestTold tc f_inputLeft).2.1)) : wpX_doAct post (f_stale, f_seen, f_seenCount, f_isStraight, f_meetings, f_codeCount, f_taskCount, f_hasRun, f_inputLeft, nI tc, f_lastNode, f_hasStopped, a_actKind, a_actVariable, a_actOperand, a_endKind, a_endVariable, a_endX, a_endY, a_path, a_pathSide, a_leaving, a_numberOf, a_nodeAt, a_successors, a_predecessors, a_before, a_behind, a_loop, a_liveAt, a_knownAt, a_code, a_task, a_variable, a_latestTold) (nI n) := by
  have GA' := GA
  obtain ⟨g1, g2, g3, g4, g5, g6, g7, g8, g9⟩ := GA
  have av4 := g2 n
  have ak5 := g1 n
  obtain ⟨b, hb, hvb⟩ := hV (av n) av4
  have cb : (a_variable (av n)).toNatClampNeg = b := by rw [hvb]; exact nI_clamp (by omega)
  refine ⟨gx_in hn, nm_r (e' := nI (av n)) (by rw [gx_cl hn, g7]) ⟨gx_in hn, ?_⟩⟩
  rw [gx_cl hn, g6]
  unfold gs_ra at h
  refine pk_eq (ak n) 4 (fun c => ?_) (fun c4 => ⟨gx_in hn, pk_eq (ak n) 5 (fun c => ?_) (fun c5 => ?_)⟩)
  · rw [if_neg (by omega), if_neg (by omega), if_neg (by omega), if_pos c] at h
    have e : nI tc - nI tc / 8 * 8 = nI (tc % 8) := by
      rw [show (8 : Int32) = nI 8 from rfl, pk_rem (by omega) (by decide) (by decide)]
    rw [e]
    refine ⟨by decide, vp_in_nI av4 (by decide), vp_in_nI (by omega) (by decide), nm_r (e' := upd a_latestTold (tc % 8) (a_variable (av n))) (by rw [nI_clamp (by omega), nI_clamp (by omega)]) (nm_r (nI_1 _) h)⟩
  · rw [if_neg (by omega), if_neg (by omega), if_neg (by omega), if_neg (by omega), if_pos c] at h
    exact ⟨vp_in_nI av4 (by decide), nm_r (e' := upd a_variable (av n) ((f_inputLeft &&& 15).toInt32)) (by rw [nI_clamp (by omega)]) (nm_e h)⟩
  · have put : ∀ x, post (f_stale, f_seen, f_seenCount, f_isStraight, f_meetings, f_codeCount, f_taskCount, f_hasRun, f_inputLeft, nI tc, f_lastNode, f_hasStopped, a_actKind, a_actVariable, a_actOperand, a_endKind, a_endVariable, a_endX, a_endY, a_path, a_pathSide, a_leaving, a_numberOf, a_nodeAt, a_successors, a_predecessors, a_before, a_behind, a_loop, a_liveAt, a_knownAt, a_code, a_task, upd a_variable (av n) x, a_latestTold) → vp_in (nI (av n)) 4 ∧ ∀ y, y = upd a_variable (nI (av n)).toNatClampNeg x → post (f_stale, f_seen, f_seenCount, f_isStraight, f_meetings, f_codeCount, f_taskCount, f_hasRun, f_inputLeft, nI tc, f_lastNode, f_hasStopped, a_actKind, a_actVariable, a_actOperand, a_endKind, a_endVariable, a_endX, a_endY, a_path, a_pathSide, a_leaving, a_numberOf, a_nodeAt, a_successors, a_predecessors, a_before, a_behind, a_loop, a_liveAt, a_knownAt, a_code, a_task, y, a_latestTold) := fun x q => ⟨vp_in_nI av4 (by decide), fun y hy => by rw [hy, nI_clamp (by omega)]; exact q⟩
    refine gx_madeV (b := b) GA' hn hb hvb (fun c => ?_) (fun c => ?_) (fun c => ?_) (fun c => ?_) ⟨c4, c5⟩
    · rw [if_neg (by omega), if_neg (by omega), if_neg (by omega), if_neg (by omega), if_neg (by omega)] at h
      refine put _ ?_
      rw [gs_upd_self hvb]
      exact h
    · rw [if_pos c] at h
      exact put _ h
    · rw [if_neg (by omega), if_pos c, cb] at h
      exact put _ h
    · rw [if_neg (by omega), if_neg (by omega), if_pos c] at h
      exact put _ h
theorem gx_nextInRun {post : Int32 → Prop} {n : Nat} (GE : gx_GE ek ex ey a_endKind a_endX a_endY) (hev : ∀ n, a_endVariable n = nI (ev n)) (hv4 : ∀ n, ev n < 4) (hn : n < 16) (h : post (if decide (ek n = 0) = true then -1 else nI (gs_rn ek ev ex ey n a_variable))) : wpX_nextInRun post (f_stale, f_seen, f_seenCount, f_isStraight, f_meetings, f_codeCount, f_taskCount, f_hasRun, f_inputLeft, f_toldCount, f_lastNode, f_hasStopped, a_actKind, a_actVariable, a_actOperand, a_endKind, a_endVariable, a_endX, a_endY, a_path, a_pathSide, a_leaving, a_numberOf, a_nodeAt, a_successors, a_predecessors, a_before, a_behind, a_loop, a_liveAt, a_knownAt, a_code, a_task, a_variable, a_latestTold) (nI n) := by
  have GE' := GE
  obtain ⟨g1, g2, g3, g4, g5, g6⟩ := GE
  have k2 := g1 n
  have v4 := hv4 n
  have fin : ∀ k, k < 2 → (ek n = 2 → (k = 0 ↔ a_variable (ev n) = 0)) → (ek n = 1 → k = 0) → wpX_successor post (f_stale, f_seen, f_seenCount, f_isStraight, f_meetings, f_codeCount, f_taskCount, f_hasRun, f_inputLeft, f_toldCount, f_lastNode, f_hasStopped, a_actKind, a_actVariable, a_actOperand, a_endKind, a_endVariable, a_endX, a_endY, a_path, a_pathSide, a_leaving, a_numberOf, a_nodeAt, a_successors, a_predecessors, a_before, a_behind, a_loop, a_liveAt, a_knownAt, a_code, a_task, a_variable, a_latestTold) (nI n) (nI k) := by
    intro k hk q2 q1
    refine gx_succ GE' hn hk (fun s s16 hs => ?_) (fun hs => ?_)
    · unfold gs_sc at hs
      unfold gs_rn at h
      by_cases e2 : ek n = 2
      · rw [if_pos e2] at hs
        rw [if_neg (fun z => by have := decide_eq_true_iff.mp z; omega), if_neg (by omega), if_neg (by omega)] at h
        by_cases k0 : k = 0
        · rw [if_pos k0] at hs
          rw [if_pos ((q2 e2).mp k0), Option.some.inj hs] at h
          exact h
        · rw [if_neg k0] at hs
          rw [if_neg (fun z => k0 ((q2 e2).mpr z)), Option.some.inj hs] at h
          exact h
      · rw [if_neg e2] at hs
        by_cases e1 : ek n = 1 ∧ k = 0
        · rw [if_pos e1] at hs
          rw [if_neg (fun z => by have := decide_eq_true_iff.mp z; omega), if_neg (by omega), if_pos e1.1, Option.some.inj hs] at h
          exact h
        · rw [if_neg e1] at hs
          exact nomatch hs
    · unfold gs_sc at hs
      by_cases e2 : ek n = 2
      · rw [if_pos e2] at hs
        split at hs <;> exact nomatch hs
      · rw [if_neg e2] at hs
        by_cases e1 : ek n = 1
        · rw [if_pos ⟨e1, q1 e1⟩] at hs
          exact nomatch hs
        · rw [if_pos (decide_eq_true (by omega))] at h
          exact h
  refine ⟨gx_in hn, ?_⟩
  rw [gx_cl hn, g4, hev]
  refine pk_eq (ek n) 2 (fun z => ⟨gx_in hn, vp_in_nI v4 (by decide), ?_⟩) (fun z => br_t rfl (fin 0 (by omega) (fun q => absurd q z) (fun _ => rfl)))
  rw [nI_clamp (by omega)]
  refine br_c (fun y => br_t rfl (fin 0 (by omega) (fun _ => ⟨fun _ => y, fun _ => rfl⟩) (fun _ => rfl))) (fun y => br_f (by decide) (fin 1 (by omega) (fun _ => ⟨fun q => by omega, fun q => absurd q y⟩) (fun q => by omega)))
theorem gs_it_inv2 {α : Type} (f : α → α) (I : Nat → α → Prop) (h : ∀ i x, I i x → I (i + 1) (f x)) (x : α) (h0 : I 0 x) : ∀ i, I i (gs_it f i x)
  | 0 => h0
  | i + 1 => by
    rw [gs_it_s]
    exact h i _ (gs_it_inv2 f I h x h0 i)
theorem gx_run62 {post : Int32 → SX → Prop} {i : Nat} {S : gs_RS} (h : ∀ u, gx_RX ak av ac ek ev ex ey u → gx_run u = (1, nI S.2.2.1, S.2.2.2.2.2.2, (if S.2.2.2.2.2.1 = true then 1 else 0), S.1, S.2.1) → post (nI i) u) (R : gx_RX ak av ac ek ev ex ey (f_stale, f_seen, f_seenCount, f_isStraight, f_meetings, f_codeCount, f_taskCount, f_hasRun, f_inputLeft, f_toldCount, f_lastNode, f_hasStopped, a_actKind, a_actVariable, a_actOperand, a_endKind, a_endVariable, a_endX, a_endY, a_path, a_pathSide, a_leaving, a_numberOf, a_nodeAt, a_successors, a_predecessors, a_before, a_behind, a_loop, a_liveAt, a_knownAt, a_code, a_task, a_variable, a_latestTold)) (hn : S.2.2.2.2.1 < 16) : wX_run_62 post (nI i) (if S.2.2.2.2.2.1 = true then -1 else nI S.2.2.2.2.1) f_stale f_seen f_seenCount f_isStraight f_meetings f_codeCount f_taskCount 1 S.2.2.2.1 (nI S.2.2.1) S.2.2.2.2.2.2 f_hasStopped a_actKind a_actVariable a_actOperand a_endKind a_endVariable a_endX a_endY a_path a_pathSide a_leaving a_numberOf a_nodeAt a_successors a_predecessors a_before a_behind a_loop a_liveAt a_knownAt a_code a_task S.1 S.2.1 := by
  obtain ⟨GE, GA, V⟩ := R
  cases hs : S.2.2.2.2.2.1 with
  | true =>
    rw [hs] at h
    exact br_t rfl (h _ ⟨GE, GA, V⟩ rfl)
  | false =>
    rw [hs] at h
    exact br_f (gx_ne1 hn) (h _ ⟨GE, GA, V⟩ rfl)
theorem gx_m_run {post : Int32 → SX → Prop} {p0 : Int64} {p1 : Int32} (R : gx_RX ak av ac ek ev ex ey (f_stale, f_seen, f_seenCount, f_isStraight, f_meetings, f_codeCount, f_taskCount, f_hasRun, f_inputLeft, f_toldCount, f_lastNode, f_hasStopped, a_actKind, a_actVariable, a_actOperand, a_endKind, a_endVariable, a_endX, a_endY, a_path, a_pathSide, a_leaving, a_numberOf, a_nodeAt, a_successors, a_predecessors, a_before, a_behind, a_loop, a_liveAt, a_knownAt, a_code, a_task, a_variable, a_latestTold)) (hno : (∀ L, L ≤ 1000 → p1 ≠ nI L) → post (-1) (f_stale, f_seen, f_seenCount, f_isStraight, f_meetings, f_codeCount, f_taskCount, f_hasRun, f_inputLeft, f_toldCount, f_lastNode, f_hasStopped, a_actKind, a_actVariable, a_actOperand, a_endKind, a_endVariable, a_endX, a_endY, a_path, a_pathSide, a_leaving, a_numberOf, a_nodeAt, a_successors, a_predecessors, a_before, a_behind, a_loop, a_liveAt, a_knownAt, a_code, a_task, a_variable, a_latestTold))
    (hok : ∀ L i S u, L ≤ 1000 → p1 = nI L → gs_RA ak av ac ek ev ex ey a_variable a_latestTold p0 L i S → gx_RX ak av ac ek ev ex ey u → gx_run u = (1, nI S.2.2.1, S.2.2.2.2.2.2, (if S.2.2.2.2.2.1 = true then 1 else 0), S.1, S.2.1) → post (nI i) u) : wpX_run post (f_stale, f_seen, f_seenCount, f_isStraight, f_meetings, f_codeCount, f_taskCount, f_hasRun, f_inputLeft, f_toldCount, f_lastNode, f_hasStopped, a_actKind, a_actVariable, a_actOperand, a_endKind, a_endVariable, a_endX, a_endY, a_path, a_pathSide, a_leaving, a_numberOf, a_nodeAt, a_successors, a_predecessors, a_before, a_behind, a_loop, a_liveAt, a_knownAt, a_code, a_task, a_variable, a_latestTold) p0 p1 := by
  have R0 := R
  obtain ⟨GE, GA, V⟩ := R
  refine br_c (fun z => hno (fun L hL e => ?_)) (fun z => ?_)
  · subst e
    exact nI_pos (by omega) z
  · obtain ⟨L, hL, rfl⟩ := nI_of z
    refine pk_le L 1000 (fun w => ?_) (fun w => hno (fun M hM e => ?_))
    · have hok := hok L
      refine pk_loop (fun m i (s : Nat → Int32) => wX_startRun_12 _ f_stale f_seen f_seenCount f_isStraight f_meetings f_codeCount f_taskCount 1 p0 f_toldCount f_lastNode f_hasStopped m (nI i) a_actKind a_actVariable a_actOperand a_endKind a_endVariable a_endX a_endY a_path a_pathSide a_leaving a_numberOf a_nodeAt a_successors a_predecessors a_before a_behind a_loop a_liveAt a_knownAt a_code a_task s a_latestTold) (fun i s => s = gs_zk a_variable i) 4 0 a_variable (by omega) rfl ?_ ?_
      · rintro m s rfl
        refine br_t (by decide) ?_
        have inv := gs_it_inv2 (gs_r1 ak av ac ek ev ex ey) gs_RI (fun i S h => gs_RI_s GA.2.1 GA.2.2.1 GA.2.2.2.1 GE.2.1 GE.2.2.1 h) (gs_r0 a_variable a_latestTold p0) ⟨gs_zk_VB _, Nat.le_refl 0, by show 0 < 16; omega⟩
        refine pk_loop (fun m i (S : gs_RS) => wX_run_24 post (nI L) m (nI i) (if S.2.2.2.2.2.1 = true then -1 else nI S.2.2.2.2.1) f_stale f_seen f_seenCount f_isStraight f_meetings f_codeCount f_taskCount 1 S.2.2.2.1 (nI S.2.2.1) S.2.2.2.2.2.2 f_hasStopped a_actKind a_actVariable a_actOperand a_endKind a_endVariable a_endX a_endY a_path a_pathSide a_leaving a_numberOf a_nodeAt a_successors a_predecessors a_before a_behind a_loop a_liveAt a_knownAt a_code a_task S.1 S.2.1) (fun i S => S = gs_it (gs_r1 ak av ac ek ev ex ey) i (gs_r0 a_variable a_latestTold p0) ∧ ∀ j, j < i → (gs_it (gs_r1 ak av ac ek ev ex ey) j (gs_r0 a_variable a_latestTold p0)).2.2.2.2.2.1 = false) L 0 (gs_r0 a_variable a_latestTold p0) (by omega) ⟨rfl, fun j hj => absurd hj (Nat.not_lt_zero j)⟩ ?_ ?_
        · rintro m S ⟨q1, q2⟩
          refine br_t (nI_le (Nat.le_refl _) (by omega)) ?_
          have ra : gs_RA ak av ac ek ev ex ey a_variable a_latestTold p0 L L S := ⟨q1, Nat.le_refl _, q2, Or.inl rfl⟩
          exact gx_run62 (fun u hu => hok L S u w rfl ra hu) R0 (by have := inv L; rw [← q1] at this; exact this.2.2)
        · rintro m i S hi ⟨q1, q2⟩ ih
          have iv := inv i
          have st := gs_it_s (gs_r1 ak av ac ek ev ex ey) i (gs_r0 a_variable a_latestTold p0)
          rw [← q1] at iv st
          refine br_f (nI_ge hi (by omega)) ?_
          cases hs : S.2.2.2.2.2.1 with
          | true =>
            have ra : gs_RA ak av ac ek ev ex ey a_variable a_latestTold p0 L i S := ⟨q1, by omega, q2, Or.inr hs⟩
            refine br_t rfl ?_
            have g := gx_run62 (post := post) (S := S) (i := i) (fun u hu => hok i S u w rfl ra hu) R0 iv.2.2
            rw [hs] at g
            exact g
          | false =>
            have tc : S.2.2.1 ≤ 1000 := by have := iv.2.1; omega
            refine br_f (gx_ne1 iv.2.2) (gx_doAct GA iv.2.2 iv.1 tc (gx_nextInRun GE GA.2.2.2.2.2.2.2.2 GA.2.2.2.2.1 iv.2.2 (nm_r (nI_1 i) ?_)))
            refine ih (gs_r1 ak av ac ek ev ex ey S) ⟨st.symm, fun j hj => ?_⟩
            by_cases e : j = i
            · subst e
              rw [← q1]
              exact hs
            · exact q2 j (by omega)
      · rintro m i s hi rfl ih
        exact br_f (nI_ge (b := 4) hi (by decide)) ⟨vp_in_nI hi (by decide), nm_r (e' := upd (gs_zk a_variable i) i 0) (by rw [nI_clamp (by omega)]) (nm_r (nI_1 i) (ih _ rfl))⟩
    · have := (nI_eq hL (by omega)).mp e
      omega
theorem gx_m_ran {post : Int32 → Prop} {p : Int32} (h : post (gs_ranA (gx_run (f_stale, f_seen, f_seenCount, f_isStraight, f_meetings, f_codeCount, f_taskCount, f_hasRun, f_inputLeft, f_toldCount, f_lastNode, f_hasStopped, a_actKind, a_actVariable, a_actOperand, a_endKind, a_endVariable, a_endX, a_endY, a_path, a_pathSide, a_leaving, a_numberOf, a_nodeAt, a_successors, a_predecessors, a_before, a_behind, a_loop, a_liveAt, a_knownAt, a_code, a_task, a_variable, a_latestTold)) p)) (hc : ∃ c, c ≤ 1000 ∧ f_toldCount = nI c) : wpX_ran post (f_stale, f_seen, f_seenCount, f_isStraight, f_meetings, f_codeCount, f_taskCount, f_hasRun, f_inputLeft, f_toldCount, f_lastNode, f_hasStopped, a_actKind, a_actVariable, a_actOperand, a_endKind, a_endVariable, a_endX, a_endY, a_path, a_pathSide, a_leaving, a_numberOf, a_nodeAt, a_successors, a_predecessors, a_before, a_behind, a_loop, a_liveAt, a_knownAt, a_code, a_task, a_variable, a_latestTold) p := by
  obtain ⟨c, hc, rfl⟩ := hc
  rw [gx_runE] at h
  unfold gs_ranA at h
  dsimp only at h
  have s28 : p ≠ nI 2 ∧ p ≠ nI 3 ∧ p ≠ nI 4 ∧ p ≠ nI 5 ∧ p ≠ nI 6 ∧ p ≠ nI 7 ∧ p ≠ nI 8 ∧ p ≠ nI 9 → ¬ f_hasRun = 0 → wX_ran_28 post p f_stale f_seen f_seenCount f_isStraight f_meetings f_codeCount f_taskCount f_hasRun f_inputLeft (nI c) f_lastNode f_hasStopped a_actKind a_actVariable a_actOperand a_endKind a_endVariable a_endX a_endY a_path a_pathSide a_leaving a_numberOf a_nodeAt a_successors a_predecessors a_before a_behind a_loop a_liveAt a_knownAt a_code a_task a_variable a_latestTold := by
    intro hp z
    rw [if_neg z] at h
    refine br_c (fun (y : p = nI 0) => ?_) (fun (y0 : ¬ p = nI 0) => br_c (fun (y : p = nI 1) => ?_) (fun (y1 : ¬ p = nI 1) => br_c (fun (y : p = nI 10) => ?_) (fun (y10 : ¬ p = nI 10) => br_c (fun (y : p = nI 11) => ?_) (fun (y11 : ¬ p = nI 11) => ?_))))
    · rw [if_pos y] at h
      exact h
    · rw [if_neg y0, if_pos y] at h
      exact h
    · rw [if_neg y0, if_neg y1, if_pos y] at h
      exact h
    · rw [if_neg y0, if_neg y1, if_neg y10, if_pos y] at h
      exact br_c (fun q => by rw [if_pos q] at h; exact h) (fun q => by rw [if_neg q] at h; exact h)
    · rw [if_neg y0, if_neg y1, if_neg y10, if_neg y11, if_neg] at h
      · exact h
      · rintro ⟨j, hj, e⟩
        have : j = 0 ∨ j = 1 ∨ j = 2 ∨ j = 3 ∨ j = 4 ∨ j = 5 ∨ j = 6 ∨ j = 7 := by omega
        rcases this with rfl | rfl | rfl | rfl | rfl | rfl | rfl | rfl
        · exact hp.1 e
        · exact hp.2.1 e
        · exact hp.2.2.1 e
        · exact hp.2.2.2.1 e
        · exact hp.2.2.2.2.1 e
        · exact hp.2.2.2.2.2.1 e
        · exact hp.2.2.2.2.2.2.1 e
        · exact hp.2.2.2.2.2.2.2 e
  refine br_c (fun z => by rw [if_pos z] at h; exact h) (fun z => ?_)
  refine br_c (fun y => s28 ?_ z) (fun y => br_c (fun w => s28 ?_ z) (fun w => ?_))
  · refine ⟨?_, ?_, ?_, ?_, ?_, ?_, ?_, ?_⟩ <;> (intro e; rw [e] at y; exact absurd y (by decide))
  · refine ⟨?_, ?_, ?_, ?_, ?_, ?_, ?_, ?_⟩ <;> (intro e; rw [e] at w; exact absurd w (by decide))
  · obtain ⟨j, hj, rfl⟩ := nI_of (x := p) (fun q => y (Int32.lt_trans q (by decide)))
    have j2 : 2 ≤ j := by
      apply Classical.byContradiction
      intro q
      exact y (nI_lt (b := 2) (by omega) (by decide))
    have j10 : j < 10 := by
      apply Classical.byContradiction
      intro q
      exact w (nI_le (a := 10) (by omega) hj)
    have ne : ∀ k, k < 20 → k ≠ j → ¬ nI j = nI k := fun k hk hne q => hne ((nI_eq hj (by omega)).mp q).symm
    rw [if_neg z, if_neg (ne 0 (by omega) (by omega)), if_neg (ne 1 (by omega) (by omega)), if_neg (ne 10 (by omega) (by omega)), if_neg (ne 11 (by omega) (by omega)), if_pos ⟨j - 2, by omega, by rw [show 2 + (j - 2) = j by omega]⟩] at h
    have e2 : nI j - 2 = nI (j - 2) := pk_sub (b := 2) j2
    rw [e2] at h
    rw [e2]
    have ec : (nI c).toNatClampNeg = c := nI_clamp (by omega)
    have ej : (nI (j - 2)).toNatClampNeg = j - 2 := nI_clamp (by omega)
    rw [ec, ej] at h
    refine pk_le c (j - 2) (fun q => ?_) (fun q => ?_)
    · rw [if_neg (by omega)] at h
      exact h
    · rw [if_pos q] at h
      have e : ((nI c - 1) - nI (j - 2)) - ((nI c - 1) - nI (j - 2)) / 8 * 8 = nI ((c - 1 - (j - 2)) % 8) := by
        rw [show (1 : Int32) = nI 1 from rfl, pk_sub (by omega), pk_sub (by omega), show (8 : Int32) = nI 8 from rfl, pk_rem (by omega) (by decide) (by decide)]
      rw [e]
      refine ⟨by decide, vp_in_nI (by omega) (by decide), ?_⟩
      rw [nI_clamp (by omega)]
      exact h
end
section
variable {f_fresh f_many f_tells f_last f_runs f_stopped : Int32} {a_actKind a_actV a_actC a_endKind a_endV a_endX a_endY a_number a_before a_behind a_reached a_todo a_words a_coming a_values a_told a_variables : Nat → Int32} {ek ex ey ak av ac ev : Nat → Nat}
theorem gy_m_ran {post : Int32 → Prop} {p : Int32} (h : post (gs_ranA (gy_run (f_fresh, f_many, f_tells, f_last, f_runs, f_stopped, a_actKind, a_actV, a_actC, a_endKind, a_endV, a_endX, a_endY, a_number, a_before, a_behind, a_reached, a_todo, a_words, a_coming, a_values, a_told, a_variables)) p)) (hc : ∃ c, c ≤ 1000 ∧ f_tells = nI c) : wpY_ran post (f_fresh, f_many, f_tells, f_last, f_runs, f_stopped, a_actKind, a_actV, a_actC, a_endKind, a_endV, a_endX, a_endY, a_number, a_before, a_behind, a_reached, a_todo, a_words, a_coming, a_values, a_told, a_variables) p := by
  obtain ⟨c, hc, rfl⟩ := hc
  rw [gy_runE] at h
  unfold gs_ranA at h
  dsimp only at h
  refine br_c (fun z => by rw [if_pos z] at h; exact h) (fun z => ?_)
  rw [if_neg z] at h
  refine gy_in (m := 11) rfl (by decide) (fun j hj e => ?_) (fun q => ?_)
  · subst e
    refine pk_eq j 0 (fun y => ?_) (fun y0 => pk_eq j 1 (fun y => ?_) (fun y1 => pk_eq j 10 (fun y => ?_) (fun y10 => pk_eq j 11 (fun y => ?_) (fun y11 => ?_))))
    · rw [if_pos (by rw [y])] at h
      exact h
    · rw [if_neg (by rw [y]; decide), if_pos (by rw [y])] at h
      exact h
    · rw [if_neg (by rw [y]; decide), if_neg (by rw [y]; decide), if_pos (by rw [y])] at h
      exact h
    · rw [if_neg (by rw [y]; decide), if_neg (by rw [y]; decide), if_neg (by rw [y]; decide), if_pos (by rw [y])] at h
      exact br_c (fun q => by rw [if_pos q] at h; exact h) (fun q => by rw [if_neg q] at h; exact h)
    · have ne : ∀ k, k < 20 → k ≠ j → ¬ nI j = nI k := fun k hk hne q => hne ((nI_eq (by omega) (by omega)).mp q).symm
      rw [if_neg (ne 0 (by omega) (by omega)), if_neg (ne 1 (by omega) (by omega)), if_neg (ne 10 (by omega) (by omega)), if_neg (ne 11 (by omega) (by omega)), if_pos ⟨j - 2, by omega, by rw [show 2 + (j - 2) = j by omega]⟩] at h
      have e2 : nI j - 2 = nI (j - 2) := pk_sub (b := 2) (by omega)
      rw [e2] at h
      rw [e2]
      have ec : (nI c).toNatClampNeg = c := nI_clamp (by omega)
      have ej : (nI (j - 2)).toNatClampNeg = j - 2 := nI_clamp (by omega)
      rw [ec, ej] at h
      refine pk_lt (j - 2) c (fun q => ?_) (fun q => ?_)
      · rw [if_pos q] at h
        have e : ((nI c - 1) - nI (j - 2)) - ((nI c - 1) - nI (j - 2)) / 8 * 8 = nI ((c - 1 - (j - 2)) % 8) := by
          rw [show (1 : Int32) = nI 1 from rfl, pk_sub (by omega), pk_sub (by omega), show (8 : Int32) = nI 8 from rfl, pk_rem (by omega) (by decide) (by decide)]
        rw [e]
        refine ⟨by decide, vp_in_nI (by omega) (by decide), ?_⟩
        rw [nI_clamp (by omega)]
        exact h
      · rw [if_neg (by omega)] at h
        exact h
  · have ne : ∀ k, k ≤ 11 → ¬ p = nI k := fun k hk => q k hk
    rw [if_neg (ne 0 (by omega)), if_neg (ne 1 (by omega)), if_neg (ne 10 (by omega)), if_neg (ne 11 (by omega)), if_neg] at h
    · exact h
    · rintro ⟨j, hj, e⟩
      exact ne (2 + j) (by omega) e
theorem gy_nextv {post : Int32 → SY → Prop} {J65 : Int64 → Int32 → Int32 → Int32 → Int32 → Int32 → (Nat → Int32) → (Nat → Int32) → (Nat → Int32) → (Nat → Int32) → (Nat → Int32) → (Nat → Int32) → (Nat → Int32) → (Nat → Int32) → (Nat → Int32) → (Nat → Int32) → (Nat → Int32) → (Nat → Int32) → (Nat → Int32) → (Nat → Int32) → (Nat → Int32) → (Nat → Int32) → (Nat → Int32) → Prop} {x3 x7 : Int32} {inp : Int64} {n : Nat} (GE : gy_GE ek ev ex ey a_endKind a_endV a_endX a_endY) (hn : n < 16) (h : J65 inp (nI (gs_rn ek ev ex ey n a_variables)) x7 f_tells f_last (if decide (ek n = 0) = true then 1 else 0) a_actKind a_actV a_actC a_endKind a_endV a_endX a_endY a_number a_before a_behind a_reached a_todo a_words a_coming a_values a_told a_variables) (h0 : f_stopped = 0) : wY_run_255 post J65 x3 inp (nI n) x7 f_fresh f_many f_tells f_last f_runs f_stopped a_actKind a_actV a_actC a_endKind a_endV a_endX a_endY a_number a_before a_behind a_reached a_todo a_words a_coming a_values a_told a_variables := by
  obtain ⟨g1, g2, g3, g4, g5, g6, g7, g8⟩ := GE
  have k2 := g1 n
  have v4 := g4 n
  subst h0
  refine ⟨gx_in hn, ?_⟩
  rw [gx_cl hn, g5]
  unfold gs_rn at h
  refine pk_eq (ek n) 0 (fun z => ?_) (fun z => ⟨gx_in hn, pk_eq (ek n) 1 (fun y => ⟨gx_in hn, nm_r (e' := nI (ex n)) (g6 n z) ?_⟩) (fun y => ⟨gx_in hn, ?_⟩)⟩)
  · rw [if_pos z, if_pos (decide_eq_true z)] at h
    exact h
  · rw [if_neg z, if_pos y, if_neg (fun q => z (decide_eq_true_iff.mp q))] at h
    exact h
  · have e2 : ek n = 2 := by omega
    rw [if_neg z, if_neg y, if_neg (fun q => z (decide_eq_true_iff.mp q))] at h
    rw [g8 n e2]
    refine ⟨vp_in_nI v4 (by decide), ?_⟩
    rw [nI_clamp (by omega)]
    refine br_c (fun w => ⟨gx_in hn, nm_r (e' := nI (ex n)) (g6 n z) ?_⟩) (fun w => ⟨gx_in hn, nm_r (e' := nI (ey n)) (g7 n e2) ?_⟩)
    · rw [if_pos w] at h
      exact h
    · rw [if_neg w] at h
      exact h
theorem gy_m_run {post : Int32 → SY → Prop} {p0 : Int64} {p1 : Int32} (R : gy_RY ak av ac ek ev ex ey (f_fresh, f_many, f_tells, f_last, f_runs, f_stopped, a_actKind, a_actV, a_actC, a_endKind, a_endV, a_endX, a_endY, a_number, a_before, a_behind, a_reached, a_todo, a_words, a_coming, a_values, a_told, a_variables)) (hno : (∀ L, L ≤ 1000 → p1 ≠ nI L) → post (-1) (f_fresh, f_many, f_tells, f_last, f_runs, f_stopped, a_actKind, a_actV, a_actC, a_endKind, a_endV, a_endX, a_endY, a_number, a_before, a_behind, a_reached, a_todo, a_words, a_coming, a_values, a_told, a_variables))
    (hok : ∀ L i S u, L ≤ 1000 → p1 = nI L → gs_RA ak av ac ek ev ex ey a_variables a_told p0 L i S → gy_RY ak av ac ek ev ex ey u → gy_run u = (1, nI S.2.2.1, S.2.2.2.2.2.2, (if S.2.2.2.2.2.1 = true then 1 else 0), S.1, S.2.1) → post (nI i) u) : wpY_run post (f_fresh, f_many, f_tells, f_last, f_runs, f_stopped, a_actKind, a_actV, a_actC, a_endKind, a_endV, a_endX, a_endY, a_number, a_before, a_behind, a_reached, a_todo, a_words, a_coming, a_values, a_told, a_variables) p0 p1 := by
  obtain ⟨GE, GA, V⟩ := R
  have GA' := GA
  obtain ⟨g1, g2, g3, g4, g5, g6, g7⟩ := GA
  refine gy_in (m := 1000) rfl (by decide) (fun L hL e => ?_) hno
  subst e
  have hok := hok L
  refine pk_loop (fun m i (s : Nat → Int32) => wY_run_25 post (nI L) p0 0 0 f_fresh f_many f_tells f_last f_runs f_stopped m (nI i) a_actKind a_actV a_actC a_endKind a_endV a_endX a_endY a_number a_before a_behind a_reached a_todo a_words a_coming a_values a_told s) (fun i s => s = gs_zk a_variables i) 4 0 a_variables (by omega) rfl ?_ ?_
  · rintro m s rfl
    refine br_t (by decide) ?_
    have inv := gs_it_inv2 (gs_r1 ak av ac ek ev ex ey) gs_RI (fun i S h => gs_RI_s g2 g3 g4 GE.2.1 GE.2.2.1 h) (gs_r0 a_variables a_told p0) ⟨gs_zk_VB _, Nat.le_refl 0, by show 0 < 16; omega⟩
    refine pk_loop (fun m i (S : gs_RS) => wY_run_65 post (nI L) f_fresh f_many 1 m S.2.2.2.1 (nI S.2.2.2.2.1) (nI i) (nI S.2.2.1) S.2.2.2.2.2.2 (if S.2.2.2.2.2.1 = true then 1 else 0) a_actKind a_actV a_actC a_endKind a_endV a_endX a_endY a_number a_before a_behind a_reached a_todo a_words a_coming a_values S.2.1 S.1) (fun i S => S = gs_it (gs_r1 ak av ac ek ev ex ey) i (gs_r0 a_variables a_told p0) ∧ ∀ j, j < i → (gs_it (gs_r1 ak av ac ek ev ex ey) j (gs_r0 a_variables a_told p0)).2.2.2.2.2.1 = false) L 0 (gs_r0 a_variables a_told p0) (by omega) ⟨rfl, fun j hj => absurd hj (Nat.not_lt_zero j)⟩ ?_ ?_
    · rintro m S ⟨q1, q2⟩
      have ra : gs_RA ak av ac ek ev ex ey a_variables a_told p0 L L S := ⟨q1, Nat.le_refl _, q2, Or.inl rfl⟩
      exact br_t (nI_le (Nat.le_refl _) (by omega)) (hok L S _ hL rfl ra ⟨GE, GA', V⟩ rfl)
    · rintro m i S hi ⟨q1, q2⟩ ih
      have iv := inv i
      have st := gs_it_s (gs_r1 ak av ac ek ev ex ey) i (gs_r0 a_variables a_told p0)
      rw [← q1] at iv st
      refine br_f (nI_ge hi (by omega)) ?_
      cases hs : S.2.2.2.2.2.1 with
      | true =>
        have ra : gs_RA ak av ac ek ev ex ey a_variables a_told p0 L i S := ⟨q1, by omega, q2, Or.inr hs⟩
        have fin := hok i S (f_fresh, f_many, nI S.2.2.1, S.2.2.2.2.2.2, 1, 1, a_actKind, a_actV, a_actC, a_endKind, a_endV, a_endX, a_endY, a_number, a_before, a_behind, a_reached, a_todo, a_words, a_coming, a_values, S.2.1, S.1) (by omega) rfl ra ⟨GE, GA', V⟩ (by rw [hs]; rfl)
        exact br_f (by decide) fin
      | false =>
        have tc : S.2.2.1 ≤ 1000 := by have := iv.2.1; omega
        obtain ⟨va, lt, tcn, inp, n, sp, la⟩ := S
        dsimp only at iv hs tc
        obtain ⟨iv1, iv2, iv3⟩ := iv
        dsimp only at iv1 iv2 iv3
        subst hs
        have av4 := g2 n
        have ak5 := g1 n
        have ac16 := g3 n
        obtain ⟨b, hb, hvb⟩ := iv1 (av n) av4
        have cb : (va (av n)).toNatClampNeg = b := by rw [hvb]; exact nI_clamp (by omega)
        have nxt : wY_run_65 post (nI L) f_fresh f_many 1 m (gs_ra ak av ac n va lt tcn inp).2.2.2 (nI (gs_rn ek ev ex ey n (gs_ra ak av ac n va lt tcn inp).1)) (nI (i + 1)) (nI (gs_ra ak av ac n va lt tcn inp).2.2.1) (nI n) (if decide (ek n = 0) = true then 1 else 0) a_actKind a_actV a_actC a_endKind a_endV a_endX a_endY a_number a_before a_behind a_reached a_todo a_words a_coming a_values ((gs_ra ak av ac n va lt tcn inp).2.1) ((gs_ra ak av ac n va lt tcn inp).1) := by
          refine ih (gs_r1 ak av ac ek ev ex ey (va, lt, tcn, inp, n, false, la)) ⟨st.symm, fun j hj => ?_⟩
          by_cases e : j = i
          · subst e
            rw [← q1]
          · exact q2 j (by omega)
        refine br_t rfl (nm_r (nI_1 i) ⟨gx_in iv3, nm_e ⟨gx_in iv3, nm_r (e' := nI (ak n)) (by rw [gx_cl iv3, g5]) ?_⟩⟩)
        unfold gs_ra at nxt
        rw [gx_cl iv3]
        have hc : ak n = 0 ∨ ak n = 1 ∨ ak n = 2 ∨ ak n = 3 ∨ ak n = 4 ∨ ak n = 5 := by omega
        rcases hc with c | c | c | c | c | c <;> rw [c] at nxt ⊢
        · exact br_t (by decide) (gy_nextv GE iv3 nxt rfl)
        · refine br_f (by decide) (br_f (by decide) (br_t rfl ⟨gx_in iv3, ?_⟩))
          rw [g6 n (by omega), g7 n (Or.inl c)]
          exact ⟨vp_in_nI av4 (by decide), nm_r (e' := upd va (av n) (nI (ac n))) (by rw [nI_clamp (by omega)]) (gy_nextv GE iv3 nxt rfl)⟩
        · refine br_f (by decide) (br_f (by decide) (br_f (by decide) (br_t rfl ?_)))
          rw [g6 n (by omega), g7 n (Or.inr (Or.inl c))]
          refine ⟨vp_in_nI av4 (by decide), gx_in iv3, vp_in_nI av4 (by decide), nm_r (e' := upd va (av n) (nI ((b + ac n) % 16))) (by dsimp only; rw [nI_clamp (by omega), hvb, nI_add, pk_andN (by omega) 4 (by decide)]) ?_⟩
          rw [cb] at nxt
          exact gy_nextv GE iv3 nxt rfl
        · have c4 := g4 n c
          refine br_f (by decide) (br_f (by decide) (br_f (by decide) (br_f (by decide) (br_t rfl ⟨gx_in iv3, ?_⟩))))
          rw [g6 n (by omega), g7 n (Or.inr (Or.inr c))]
          exact ⟨vp_in_nI c4 (by decide), vp_in_nI av4 (by decide), nm_r (e' := upd va (av n) (va (ac n))) (by dsimp only; rw [nI_clamp (by omega), nI_clamp (by omega)]) (gy_nextv GE iv3 nxt rfl)⟩
        · refine br_f (by decide) (br_f (by decide) (br_f (by decide) (br_f (by decide) (br_f (by decide) (br_t rfl ?_)))))
          rw [g6 n (by omega)]
          have e : nI tcn - nI tcn / 8 * 8 = nI (tcn % 8) := by
            rw [show (8 : Int32) = nI 8 from rfl, pk_rem (by omega) (by decide) (by decide)]
          dsimp only
          rw [e]
          exact nm_r (nI_1 _) ⟨by decide, vp_in_nI av4 (by decide), vp_in_nI (by omega) (by decide), nm_r (e' := upd lt (tcn % 8) (va (av n))) (by rw [nI_clamp (by omega), nI_clamp (by omega)]) (gy_nextv GE iv3 nxt rfl)⟩
        · refine br_f (by decide) (br_f (by decide) (br_f (by decide) (br_f (by decide) (br_f (by decide) (br_f (by decide) (br_t rfl ?_))))))
          rw [g6 n (by omega)]
          exact ⟨vp_in_nI av4 (by decide), nm_r (e' := upd va (av n) ((inp &&& 15).toInt32)) (by rw [nI_clamp (by omega)]) (nm_e (gy_nextv GE iv3 nxt rfl))⟩
  · rintro m i s hi rfl ih
    exact br_f (nI_ge (b := 4) hi (by decide)) ⟨vp_in_nI hi (by decide), nm_r (e' := upd (gs_zk a_variables i) i 0) (by rw [nI_clamp (by omega)]) (nm_r (nI_1 i) (ih _ rfl))⟩
end
end
section
/-! the relation, and what is owed -/
def gs_RB (R : Int32 × Int32 × Int32 × Int32 × (Nat → Int32) × (Nat → Int32)) : Prop := ∃ c, c ≤ 1000 ∧ R.2.1 = nI c
def i_Rel (_ : Nat) (u : SX) (v : SY) : Prop := ∃ ak av ac ek ev ex ey : Nat → Nat, gx_RX ak av ac ek ev ex ey u ∧ gy_RY ak av ac ek ev ex ey v ∧ gx_run u = gy_run v ∧ gs_RB (gx_run u)
theorem i_up {k : Nat} {u : SX} {v : SY} (h : i_Rel k u v) : i_Rel (k + 6) u v := h
theorem gs_cA_uniq {n k v c n' k' v' c' : Nat} {p0 p1 p2 p3 : Int32} (h : gs_cA n k v c p0 p1 p2 p3) (h' : gs_cA n' k' v' c' p0 p1 p2 p3) : n = n' ∧ k = k' ∧ v = v' ∧ c = c' := by
  obtain ⟨a1, a2, a3, a4, a5, a6, a7, a8, a9⟩ := h
  obtain ⟨b1, b2, b3, b4, b5, b6, b7, b8, b9⟩ := h'
  have e1 : n = n' := (nI_eq (by omega) (by omega)).mp (a3.symm.trans b3)
  have e2 : k = k' := (nI_eq (by omega) (by omega)).mp (a4.symm.trans b4)
  subst e1 e2
  refine ⟨rfl, rfl, ?_, ?_⟩
  · by_cases q : k = 0
    · rw [a6 q, b6 q]
    · have := a5 q
      have := b5 q
      exact (nI_eq (by omega) (by omega)).mp ((a5 q).2.symm.trans (b5 q).2)
  · by_cases q : k = 1 ∨ k = 2
    · have := a7 q
      have := b7 q
      exact (nI_eq (by omega) (by omega)).mp ((a7 q).2.symm.trans (b7 q).2)
    · by_cases q3 : k = 3
      · have := a8 q3
        have := b8 q3
        exact (nI_eq (by omega) (by omega)).mp ((a8 q3).2.symm.trans (b8 q3).2)
      · rw [a9 (by omega), b9 (by omega)]
theorem gs_cE_uniq {n k v x y n' k' v' x' y' : Nat} {p0 p1 p2 p3 p4 : Int32} (h : gs_cE n k v x y p0 p1 p2 p3 p4) (h' : gs_cE n' k' v' x' y' p0 p1 p2 p3 p4) : n = n' ∧ k = k' ∧ v = v' ∧ x = x' ∧ y = y' := by
  obtain ⟨a1, a2, a3, a4, a5, a6, a7, a8⟩ := h
  obtain ⟨b1, b2, b3, b4, b5, b6, b7, b8⟩ := h'
  have e1 : n = n' := (nI_eq (by omega) (by omega)).mp (a3.symm.trans b3)
  have e2 : k = k' := (nI_eq (by omega) (by omega)).mp (a4.symm.trans b4)
  subst e1 e2
  refine ⟨rfl, rfl, ?_, ?_, ?_⟩
  · by_cases q : k = 2
    · have := a7 q
      have := b7 q
      exact (nI_eq (by omega) (by omega)).mp ((a7 q).2.1.symm.trans (b7 q).2.1)
    · rw [(a8 q).1, (b8 q).1]
  · by_cases q : k = 0
    · rw [a6 q, b6 q]
    · have := a5 q
      have := b5 q
      exact (nI_eq (by omega) (by omega)).mp ((a5 q).2.symm.trans (b5 q).2)
  · by_cases q : k = 2
    · have := a7 q
      have := b7 q
      exact (nI_eq (by omega) (by omega)).mp ((a7 q).2.2.2.symm.trans (b7 q).2.2.2)
    · rw [(a8 q).2, (b8 q).2]
theorem i_vc0 : wpX_init (fun u => wpY_init (fun v => i_Rel 0 u v)) := by
  refine ⟨fun _ => 0, fun _ => 0, fun _ => 0, fun _ => 0, fun _ => 0, fun _ => 0, fun _ => 0, ⟨⟨fun _ => by dsimp only; omega, fun _ => by dsimp only; omega, fun _ => by dsimp only; omega, fun _ => rfl, fun _ => rfl, fun _ => rfl⟩, ⟨fun _ => by dsimp only; omega, fun _ => by dsimp only; omega, fun _ => by dsimp only; omega, fun _ _ => by dsimp only; omega, fun _ => by dsimp only; omega, fun _ => rfl, fun _ => rfl, fun _ => rfl, fun _ => rfl⟩, fun z => absurd z (by decide)⟩, ⟨⟨fun _ => by dsimp only; omega, fun _ => by dsimp only; omega, fun _ => by dsimp only; omega, fun _ => by dsimp only; omega, fun _ => rfl, fun _ _ => rfl, fun _ _ => rfl, fun _ _ => rfl⟩, ⟨fun _ => by dsimp only; omega, fun _ => by dsimp only; omega, fun _ => by dsimp only; omega, fun _ _ => by dsimp only; omega, fun _ => rfl, fun _ _ => rfl, fun _ _ => rfl⟩, fun z => absurd rfl z⟩, rfl, ⟨0, by omega, rfl⟩⟩
theorem gs_Qset_uniq {ek ex ey : Nat → Nat} {w : Int32} {n : Nat} {r r' : Int32} (h : gs_Qset ek ex ey w n r) (h' : gs_Qset ek ex ey w n r') : r' = r := by
  rcases h with ⟨a, b⟩ | ⟨a, b⟩ | ⟨a, b⟩ | ⟨a, b⟩ <;> rcases h' with ⟨c, d⟩ | ⟨c, d⟩ | ⟨c, d⟩ | ⟨c, d⟩
  · exact gs_Mk_uniq d b
  · exact absurd (a.symm.trans c) (by decide)
  · exact absurd (a.symm.trans c) (by decide)
  · exact absurd a c.1
  · exact absurd (a.symm.trans c) (by decide)
  · exact gs_Mk_uniq d b
  · exact absurd (a.symm.trans c) (by decide)
  · exact absurd a c.2.1
  · exact absurd (a.symm.trans c) (by decide)
  · exact absurd (a.symm.trans c) (by decide)
  · exact gs_Mk_uniq d b
  · exact absurd a c.2.2
  · exact absurd c a.1
  · exact absurd c a.2.1
  · exact absurd c a.2.2
  · rw [b, d]
theorem gs_Amg_uniq {ak av ek ex ey : Nat → Nat} {p r r' : Int32} (h : gs_Amg ak av ek ex ey p r) (h' : gs_Amg ak av ek ex ey p r') : r' = r := by
  rcases h with ⟨v, hv, e, b⟩ | ⟨a, b⟩ <;> rcases h' with ⟨v', hv', e', b'⟩ | ⟨a', b'⟩
  · have : v = v' := (nI_eq (by omega) (by omega)).mp (e.symm.trans e')
    subst this
    exact gs_Mk_uniq b' b
  · exact absurd e (a' v hv)
  · exact absurd e' (a v' hv')
  · rw [b, b']
theorem gs_Akn_uniq {ak av ac ek ev ex ey : Nat → Nat} {p q r r' : Int32} (h : gs_Akn ak av ac ek ev ex ey p q r) (h' : gs_Akn ak av ac ek ev ex ey p q r') : r' = r := by
  rcases h with ⟨n, v, hn, hv, e, f, b⟩ | ⟨a, b⟩ <;> rcases h' with ⟨n', v', hn', hv', e', f', b'⟩ | ⟨a', b'⟩
  · have h1 : n = n' := (nI_eq (by omega) (by omega)).mp (e.symm.trans e')
    have h2 : v = v' := (nI_eq (by omega) (by omega)).mp (f.symm.trans f')
    subst h1 h2
    rw [b, b']
  · rcases a' with a' | a'
    · exact absurd e (a' n hn)
    · exact absurd f (a' v hv)
  · rcases a with a | a
    · exact absurd e' (a n' hn')
    · exact absurd f' (a v' hv')
  · rw [b, b']
theorem gs_Aws_uniq {ek ev ex ey : Nat → Nat} {r r' : Int32} (h : gs_Aws ek ev ex ey r) (h' : gs_Aws ek ev ex ey r') : r' = r := by
  rcases h with ⟨a, b⟩ | ⟨a, b⟩ <;> rcases h' with ⟨a', b'⟩ | ⟨a', b'⟩
  · rw [b, b']
  · exact absurd a a'
  · exact absurd a' a
  · rw [b, b']
theorem gs_Awd_uniq {ek ev ex ey : Nat → Nat} {p r r' : Int32} (hl : (gs_cF ek ex ey ev).1.length ≤ 158) (h : gs_Awd ek ev ex ey p r) (h' : gs_Awd ek ev ex ey p r') : r' = r := by
  rcases h with ⟨a, j, hj, e, b⟩ | ⟨a, b⟩ <;> rcases h' with ⟨a', j', hj', e', b'⟩ | ⟨a', b'⟩
  · have : j = j' := (nI_eq (by omega) (by omega)).mp (e.symm.trans e')
    subst this
    rw [b, b']
  · rcases a' with a' | a'
    · exact absurd a a'
    · exact absurd e (a' j hj)
  · rcases a with a | a
    · exact absurd a' a
    · exact absurd e' (a j' hj')
  · rw [b, b']
theorem i_vc_number {k : Nat} {u : SX} {v : SY} (I : i_Rel k u v) (hk : k + 6 ≤ 3072) (v1 : Int32) : wpX_number (fun r u' => wpY_number (fun r' v' => r' = r ∧ i_Rel (k + 6) u' v') v v1) u v1 := by
  obtain ⟨ak, av, ac, ek, ev, ex, ey, RX, RY, RR, RB⟩ := I
  obtain ⟨x0, x1, x2, x3, x4, x5, x6, x7, x8, x9, x10, x11, x12, x13, x14, x15, x16, x17, x18, x19, x20, x21, x22, x23, x24, x25, x26, x27, x28, x29, x30, x31, x32, x33, x34⟩ := u
  obtain ⟨y0, y1, y2, y3, y4, y5, y6, y7, y8, y9, y10, y11, y12, y13, y14, y15, y16, y17, y18, y19, y20, y21, y22⟩ := v
  have hx := RX.1.2.1
  have hy := RX.1.2.2.1
  exact gx_m_number RX (fun r u' hr RX' ru => gy_m_number RY (fun r' v' hr' RY' rv => ⟨gs_Q_uniq hx hy (fun n _ r r' a b => b.trans a.symm) hr hr', ⟨ak, av, ac, ek, ev, ex, ey, RX', RY', ru.trans (RR.trans rv.symm), by rw [ru]; exact RB⟩⟩))
theorem i_vc_chief {k : Nat} {u : SX} {v : SY} (I : i_Rel k u v) (hk : k + 6 ≤ 3072) (v1 : Int32) : wpX_chief (fun r u' => wpY_chief (fun r' v' => r' = r ∧ i_Rel (k + 6) u' v') v v1) u v1 := by
  obtain ⟨ak, av, ac, ek, ev, ex, ey, RX, RY, RR, RB⟩ := I
  obtain ⟨x0, x1, x2, x3, x4, x5, x6, x7, x8, x9, x10, x11, x12, x13, x14, x15, x16, x17, x18, x19, x20, x21, x22, x23, x24, x25, x26, x27, x28, x29, x30, x31, x32, x33, x34⟩ := u
  obtain ⟨y0, y1, y2, y3, y4, y5, y6, y7, y8, y9, y10, y11, y12, y13, y14, y15, y16, y17, y18, y19, y20, y21, y22⟩ := v
  have hx := RX.1.2.1
  have hy := RX.1.2.2.1
  exact gx_m_chief RX (fun r u' hr RX' ru => gy_m_chief RY (fun r' v' hr' RY' rv => ⟨gs_Q_uniq hx hy (fun n _ r r' a b => gs_Fst_uniq b a (fun _ _ => Iff.rfl)) hr hr', ⟨ak, av, ac, ek, ev, ex, ey, RX', RY', ru.trans (RR.trans rv.symm), by rw [ru]; exact RB⟩⟩))
theorem i_vc_tail {k : Nat} {u : SX} {v : SY} (I : i_Rel k u v) (hk : k + 6 ≤ 3072) (v1 : Int32) : wpX_tail (fun r u' => wpY_tail (fun r' v' => r' = r ∧ i_Rel (k + 6) u' v') v v1) u v1 := by
  obtain ⟨ak, av, ac, ek, ev, ex, ey, RX, RY, RR, RB⟩ := I
  obtain ⟨x0, x1, x2, x3, x4, x5, x6, x7, x8, x9, x10, x11, x12, x13, x14, x15, x16, x17, x18, x19, x20, x21, x22, x23, x24, x25, x26, x27, x28, x29, x30, x31, x32, x33, x34⟩ := u
  obtain ⟨y0, y1, y2, y3, y4, y5, y6, y7, y8, y9, y10, y11, y12, y13, y14, y15, y16, y17, y18, y19, y20, y21, y22⟩ := v
  have hx := RX.1.2.1
  have hy := RX.1.2.2.1
  exact gx_m_tail RX (fun r u' hr RX' ru => gy_m_tail RY (fun r' v' hr' RY' rv => ⟨gs_Q_uniq hx hy (fun n _ r r' a b => gs_Fst_uniq b a (fun _ _ => Iff.rfl)) hr hr', ⟨ak, av, ac, ek, ev, ex, ey, RX', RY', ru.trans (RR.trans rv.symm), by rw [ru]; exact RB⟩⟩))
theorem i_vc_set {k : Nat} {u : SX} {v : SY} (I : i_Rel k u v) (hk : k + 6 ≤ 3072) (v1 : Int32) (v2 : Int32) : wpX_set (fun r u' => wpY_set (fun r' v' => r' = r ∧ i_Rel (k + 6) u' v') v v1 v2) u v1 v2 := by
  obtain ⟨ak, av, ac, ek, ev, ex, ey, RX, RY, RR, RB⟩ := I
  obtain ⟨x0, x1, x2, x3, x4, x5, x6, x7, x8, x9, x10, x11, x12, x13, x14, x15, x16, x17, x18, x19, x20, x21, x22, x23, x24, x25, x26, x27, x28, x29, x30, x31, x32, x33, x34⟩ := u
  obtain ⟨y0, y1, y2, y3, y4, y5, y6, y7, y8, y9, y10, y11, y12, y13, y14, y15, y16, y17, y18, y19, y20, y21, y22⟩ := v
  have hx := RX.1.2.1
  have hy := RX.1.2.2.1
  exact gx_m_set RX (fun r u' hr RX' ru => gy_m_set RY (fun r' v' hr' RY' rv => ⟨gs_Q_uniq (Q := gs_Qset ek ex ey v2) hx hy (fun n _ r r' a b => gs_Qset_uniq a b) hr hr', ⟨ak, av, ac, ek, ev, ex, ey, RX', RY', ru.trans (RR.trans rv.symm), by rw [ru]; exact RB⟩⟩))
theorem i_vc_depth {k : Nat} {u : SX} {v : SY} (I : i_Rel k u v) (hk : k + 6 ≤ 3072) (v1 : Int32) : wpX_depth (fun r u' => wpY_depth (fun r' v' => r' = r ∧ i_Rel (k + 6) u' v') v v1) u v1 := by
  obtain ⟨ak, av, ac, ek, ev, ex, ey, RX, RY, RR, RB⟩ := I
  obtain ⟨x0, x1, x2, x3, x4, x5, x6, x7, x8, x9, x10, x11, x12, x13, x14, x15, x16, x17, x18, x19, x20, x21, x22, x23, x24, x25, x26, x27, x28, x29, x30, x31, x32, x33, x34⟩ := u
  obtain ⟨y0, y1, y2, y3, y4, y5, y6, y7, y8, y9, y10, y11, y12, y13, y14, y15, y16, y17, y18, y19, y20, y21, y22⟩ := v
  have hx := RX.1.2.1
  have hy := RX.1.2.2.1
  exact gx_m_depth RX (fun r u' hr RX' ru => gy_m_depth RY (fun r' v' hr' RY' rv => ⟨gs_Q_uniq hx hy (fun n _ r r' a b => b.trans a.symm) hr hr', ⟨ak, av, ac, ek, ev, ex, ey, RX', RY', ru.trans (RR.trans rv.symm), by rw [ru]; exact RB⟩⟩))
theorem i_vc_head {k : Nat} {u : SX} {v : SY} (I : i_Rel k u v) (hk : k + 6 ≤ 3072) (v1 : Int32) : wpX_head (fun r u' => wpY_head (fun r' v' => r' = r ∧ i_Rel (k + 6) u' v') v v1) u v1 := by
  obtain ⟨ak, av, ac, ek, ev, ex, ey, RX, RY, RR, RB⟩ := I
  obtain ⟨x0, x1, x2, x3, x4, x5, x6, x7, x8, x9, x10, x11, x12, x13, x14, x15, x16, x17, x18, x19, x20, x21, x22, x23, x24, x25, x26, x27, x28, x29, x30, x31, x32, x33, x34⟩ := u
  obtain ⟨y0, y1, y2, y3, y4, y5, y6, y7, y8, y9, y10, y11, y12, y13, y14, y15, y16, y17, y18, y19, y20, y21, y22⟩ := v
  have hx := RX.1.2.1
  have hy := RX.1.2.2.1
  exact gx_m_head RX (fun r u' hr RX' ru => gy_m_head RY (fun r' v' hr' RY' rv => ⟨gs_Q_uniq hx hy (fun n _ r r' a b => b.trans a.symm) hr hr', ⟨ak, av, ac, ek, ev, ex, ey, RX', RY', ru.trans (RR.trans rv.symm), by rw [ru]; exact RB⟩⟩))
theorem i_vc_live {k : Nat} {u : SX} {v : SY} (I : i_Rel k u v) (hk : k + 6 ≤ 3072) (v1 : Int32) : wpX_live (fun r u' => wpY_live (fun r' v' => r' = r ∧ i_Rel (k + 6) u' v') v v1) u v1 := by
  obtain ⟨ak, av, ac, ek, ev, ex, ey, RX, RY, RR, RB⟩ := I
  obtain ⟨x0, x1, x2, x3, x4, x5, x6, x7, x8, x9, x10, x11, x12, x13, x14, x15, x16, x17, x18, x19, x20, x21, x22, x23, x24, x25, x26, x27, x28, x29, x30, x31, x32, x33, x34⟩ := u
  obtain ⟨y0, y1, y2, y3, y4, y5, y6, y7, y8, y9, y10, y11, y12, y13, y14, y15, y16, y17, y18, y19, y20, y21, y22⟩ := v
  have hx := RX.1.2.1
  have hy := RX.1.2.2.1
  exact gx_m_live RX (fun r u' hr RX' ru => gy_m_live RY (fun r' v' hr' RY' rv => ⟨gs_Q_uniq (Q := fun n r => gs_Mk r (fun v => gs_liv ak av ac ek ev ex ey v n)) hx hy (fun n _ r r' a b => gs_Mk_uniq b a) hr hr', ⟨ak, av, ac, ek, ev, ex, ey, RX', RY', ru.trans (RR.trans rv.symm), by rw [ru]; exact RB⟩⟩))
theorem i_vc_merges {k : Nat} {u : SX} {v : SY} (I : i_Rel k u v) (hk : k + 6 ≤ 3072) (v1 : Int32) : wpX_merges (fun r u' => wpY_merges (fun r' v' => r' = r ∧ i_Rel (k + 6) u' v') v v1) u v1 := by
  obtain ⟨ak, av, ac, ek, ev, ex, ey, RX, RY, RR, RB⟩ := I
  obtain ⟨x0, x1, x2, x3, x4, x5, x6, x7, x8, x9, x10, x11, x12, x13, x14, x15, x16, x17, x18, x19, x20, x21, x22, x23, x24, x25, x26, x27, x28, x29, x30, x31, x32, x33, x34⟩ := u
  obtain ⟨y0, y1, y2, y3, y4, y5, y6, y7, y8, y9, y10, y11, y12, y13, y14, y15, y16, y17, y18, y19, y20, y21, y22⟩ := v
  have hx := RX.1.2.1
  have hy := RX.1.2.2.1
  exact gx_m_merges RX (fun r u' hr RX' ru => gy_m_merges RY (fun r' v' hr' RY' rv => ⟨gs_Amg_uniq hr hr', ⟨ak, av, ac, ek, ev, ex, ey, RX', RY', ru.trans (RR.trans rv.symm), by rw [ru]; exact RB⟩⟩))
theorem i_vc_known {k : Nat} {u : SX} {v : SY} (I : i_Rel k u v) (hk : k + 6 ≤ 3072) (v1 : Int32) (v2 : Int32) : wpX_known (fun r u' => wpY_known (fun r' v' => r' = r ∧ i_Rel (k + 6) u' v') v v1 v2) u v1 v2 := by
  obtain ⟨ak, av, ac, ek, ev, ex, ey, RX, RY, RR, RB⟩ := I
  obtain ⟨x0, x1, x2, x3, x4, x5, x6, x7, x8, x9, x10, x11, x12, x13, x14, x15, x16, x17, x18, x19, x20, x21, x22, x23, x24, x25, x26, x27, x28, x29, x30, x31, x32, x33, x34⟩ := u
  obtain ⟨y0, y1, y2, y3, y4, y5, y6, y7, y8, y9, y10, y11, y12, y13, y14, y15, y16, y17, y18, y19, y20, y21, y22⟩ := v
  have hx := RX.1.2.1
  have hy := RX.1.2.2.1
  exact gx_m_known RX (fun r u' hr RX' ru => gy_m_known RY (fun r' v' hr' RY' rv => ⟨gs_Akn_uniq hr hr', ⟨ak, av, ac, ek, ev, ex, ey, RX', RY', ru.trans (RR.trans rv.symm), by rw [ru]; exact RB⟩⟩))
theorem i_vc_words {k : Nat} {u : SX} {v : SY} (I : i_Rel k u v) (hk : k + 6 ≤ 3072) : wpX_words (fun r u' => wpY_words (fun r' v' => r' = r ∧ i_Rel (k + 6) u' v') v) u := by
  obtain ⟨ak, av, ac, ek, ev, ex, ey, RX, RY, RR, RB⟩ := I
  obtain ⟨x0, x1, x2, x3, x4, x5, x6, x7, x8, x9, x10, x11, x12, x13, x14, x15, x16, x17, x18, x19, x20, x21, x22, x23, x24, x25, x26, x27, x28, x29, x30, x31, x32, x33, x34⟩ := u
  obtain ⟨y0, y1, y2, y3, y4, y5, y6, y7, y8, y9, y10, y11, y12, y13, y14, y15, y16, y17, y18, y19, y20, y21, y22⟩ := v
  have hx := RX.1.2.1
  have hy := RX.1.2.2.1
  exact gx_m_words RX (fun r u' hr RX' ru => gy_m_words RY (fun r' v' hr' RY' rv => ⟨gs_Aws_uniq hr hr', ⟨ak, av, ac, ek, ev, ex, ey, RX', RY', ru.trans (RR.trans rv.symm), by rw [ru]; exact RB⟩⟩))
theorem i_vc_word {k : Nat} {u : SX} {v : SY} (I : i_Rel k u v) (hk : k + 6 ≤ 3072) (v1 : Int32) : wpX_word (fun r u' => wpY_word (fun r' v' => r' = r ∧ i_Rel (k + 6) u' v') v v1) u v1 := by
  obtain ⟨ak, av, ac, ek, ev, ex, ey, RX, RY, RR, RB⟩ := I
  obtain ⟨x0, x1, x2, x3, x4, x5, x6, x7, x8, x9, x10, x11, x12, x13, x14, x15, x16, x17, x18, x19, x20, x21, x22, x23, x24, x25, x26, x27, x28, x29, x30, x31, x32, x33, x34⟩ := u
  obtain ⟨y0, y1, y2, y3, y4, y5, y6, y7, y8, y9, y10, y11, y12, y13, y14, y15, y16, y17, y18, y19, y20, y21, y22⟩ := v
  have hx := RX.1.2.1
  have hy := RX.1.2.2.1
  exact gx_m_word RX (fun r u' hr RX' ru => gy_m_word RY (fun r' v' hr' RY' rv => ⟨gs_Awd_uniq (gs_cF_len RX.1.1 hx hy RX.2.1.2.2.2.2.1) hr hr', ⟨ak, av, ac, ek, ev, ex, ey, RX', RY', ru.trans (RR.trans rv.symm), by rw [ru]; exact RB⟩⟩))
theorem i_vc_straight {k : Nat} {u : SX} {v : SY} (I : i_Rel k u v) (hk : k + 6 ≤ 3072) : wpX_straight (fun r u' => wpY_straight (fun r' v' => r' = r ∧ i_Rel (k + 6) u' v') v) u := by
  obtain ⟨ak, av, ac, ek, ev, ex, ey, RX, RY, RR, RB⟩ := I
  obtain ⟨x0, x1, x2, x3, x4, x5, x6, x7, x8, x9, x10, x11, x12, x13, x14, x15, x16, x17, x18, x19, x20, x21, x22, x23, x24, x25, x26, x27, x28, x29, x30, x31, x32, x33, x34⟩ := u
  obtain ⟨y0, y1, y2, y3, y4, y5, y6, y7, y8, y9, y10, y11, y12, y13, y14, y15, y16, y17, y18, y19, y20, y21, y22⟩ := v
  have hx := RX.1.2.1
  have hy := RX.1.2.2.1
  refine gx_m_straight RX (fun r u' hr RX' ru => gy_m_straight RY (fun r' f_fresh a_number a_before a_behind a_reached a_todo a_words hr' hf V => ⟨?_, ak, av, ac, ek, ev, ex, ey, RX', ⟨RY.1, RY.2.1, fun _ => V⟩, ru.trans (RR.trans rfl), by rw [ru]; exact RB⟩))
  rcases hr with ⟨a, b⟩ | ⟨a, b⟩ <;> rcases hr' with ⟨c, d⟩ | ⟨c, d⟩
  · rw [a, c]
  · exact absurd b d
  · exact absurd d b
  · rw [a, c]
theorem i_vc_act {k : Nat} {u : SX} {v : SY} (I : i_Rel k u v) (hk : k + 6 ≤ 3072) (v1 : Int32) (v2 : Int32) (v3 : Int32) (v4 : Int32) : wpX_act (fun r u' => wpY_act (fun r' v' => r' = r ∧ i_Rel (k + 6) u' v') v v1 v2 v3 v4) u v1 v2 v3 v4 := by
  obtain ⟨ak, av, ac, ek, ev, ex, ey, RX, RY, RR, RB⟩ := I
  obtain ⟨x0, x1, x2, x3, x4, x5, x6, x7, x8, x9, x10, x11, x12, x13, x14, x15, x16, x17, x18, x19, x20, x21, x22, x23, x24, x25, x26, x27, x28, x29, x30, x31, x32, x33, x34⟩ := u
  obtain ⟨y0, y1, y2, y3, y4, y5, y6, y7, y8, y9, y10, y11, y12, y13, y14, y15, y16, y17, y18, y19, y20, y21, y22⟩ := v
  have hx := RX.1.2.1
  have hy := RX.1.2.2.1
  refine gx_m_act RX (fun hno => gy_m_act RY (fun _ => ⟨rfl, ak, av, ac, ek, ev, ex, ey, RX, RY, RR, RB⟩) (fun n k v c h => absurd ⟨n, k, v, c, h⟩ hno)) (fun n k v c h u' RX' ru => gy_m_act RY (fun hno => absurd ⟨n, k, v, c, h⟩ hno) (fun n' k' v' c' h' v'' RY' rv => ⟨rfl, ?_⟩))
  obtain ⟨e1, e2, e3, e4⟩ := gs_cA_uniq h h'
  subst e1 e2 e3 e4
  exact ⟨_, _, _, ek, ev, ex, ey, RX', RY', ru.trans (RR.trans rv.symm), by rw [ru]; exact RB⟩
theorem i_vc_end {k : Nat} {u : SX} {v : SY} (I : i_Rel k u v) (hk : k + 6 ≤ 3072) (v1 : Int32) (v2 : Int32) (v3 : Int32) (v4 : Int32) (v5 : Int32) : wpX_end (fun r u' => wpY_end (fun r' v' => r' = r ∧ i_Rel (k + 6) u' v') v v1 v2 v3 v4 v5) u v1 v2 v3 v4 v5 := by
  obtain ⟨ak, av, ac, ek, ev, ex, ey, RX, RY, RR, RB⟩ := I
  obtain ⟨x0, x1, x2, x3, x4, x5, x6, x7, x8, x9, x10, x11, x12, x13, x14, x15, x16, x17, x18, x19, x20, x21, x22, x23, x24, x25, x26, x27, x28, x29, x30, x31, x32, x33, x34⟩ := u
  obtain ⟨y0, y1, y2, y3, y4, y5, y6, y7, y8, y9, y10, y11, y12, y13, y14, y15, y16, y17, y18, y19, y20, y21, y22⟩ := v
  have hx := RX.1.2.1
  have hy := RX.1.2.2.1
  refine gx_m_end RX (fun hno => gy_m_end RY (fun _ => ⟨rfl, ak, av, ac, ek, ev, ex, ey, RX, RY, RR, RB⟩) (fun n k v x y h => absurd ⟨n, k, v, x, y, h⟩ hno)) (fun n k v x y h u' RX' ru => gy_m_end RY (fun hno => absurd ⟨n, k, v, x, y, h⟩ hno) (fun n' k' v' x' y' h' v'' RY' rv => ⟨rfl, ?_⟩))
  obtain ⟨e1, e2, e3, e4, e5⟩ := gs_cE_uniq h h'
  subst e1 e2 e3 e4 e5
  exact ⟨ak, av, ac, _, _, _, _, RX', RY', ru.trans (RR.trans rv.symm), by rw [ru]; exact RB⟩
theorem i_vc_run {k : Nat} {u : SX} {v : SY} (I : i_Rel k u v) (hk : k + 6 ≤ 3072) (a0 : Int64) (v3 : Int32) : wpX_run (fun r u' => wpY_run (fun r' v' => r' = r ∧ i_Rel (k + 6) u' v') v a0 v3) u a0 v3 := by
  obtain ⟨ak, av, ac, ek, ev, ex, ey, RX, RY, RR, RB⟩ := I
  obtain ⟨x0, x1, x2, x3, x4, x5, x6, x7, x8, x9, x10, x11, x12, x13, x14, x15, x16, x17, x18, x19, x20, x21, x22, x23, x24, x25, x26, x27, x28, x29, x30, x31, x32, x33, x34⟩ := u
  obtain ⟨y0, y1, y2, y3, y4, y5, y6, y7, y8, y9, y10, y11, y12, y13, y14, y15, y16, y17, y18, y19, y20, y21, y22⟩ := v
  have hx := RX.1.2.1
  have hy := RX.1.2.2.1
  have e5 : x33 = y22 := congrArg (fun z => z.2.2.2.2.1) RR
  have e6 : x34 = y21 := congrArg (fun z => z.2.2.2.2.2) RR
  refine gx_m_run RX (fun hno => gy_m_run RY (fun _ => ⟨rfl, ak, av, ac, ek, ev, ex, ey, RX, RY, RR, RB⟩) (fun L i S u hL e => absurd e (hno L hL))) (fun L i S u' hL e hra RX' ru => gy_m_run RY (fun hno => absurd e (hno L hL)) (fun L' i' S' v' hL' e' hra' RY' rv => ?_))
  have eL : L = L' := (nI_eq (by omega) (by omega)).mp (e.symm.trans e')
  subst eL
  rw [e5, e6] at hra
  obtain ⟨q1, q2⟩ := gs_RA_uniq hra hra'
  subst q1 q2
  refine ⟨rfl, ak, av, ac, ek, ev, ex, ey, RX', RY', ru.trans rv.symm, ?_⟩
  rw [ru]
  have inv := gs_it_inv2 (gs_r1 ak av ac ek ev ex ey) gs_RI (fun i S h => gs_RI_s RX.2.1.2.1 RX.2.1.2.2.1 RX.2.1.2.2.2.1 hx hy h) (gs_r0 y22 y21 a0) ⟨gs_zk_VB _, Nat.le_refl 0, by show 0 < 16; omega⟩ i
  rw [← hra.1] at inv
  have := inv.2.1
  have := hra.2.1
  exact ⟨S.2.2.1, by omega, rfl⟩
theorem i_vc_ran {k : Nat} {u : SX} {v : SY} (I : i_Rel k u v) (hk : k + 6 ≤ 3072) (v1 : Int32) : wpX_ran (fun r => wpY_ran (fun r' => r' = r ∧ i_Rel (k + 6) u v) v v1) u v1 := by
  obtain ⟨ak, av, ac, ek, ev, ex, ey, RX, RY, RR, RB⟩ := I
  obtain ⟨x0, x1, x2, x3, x4, x5, x6, x7, x8, x9, x10, x11, x12, x13, x14, x15, x16, x17, x18, x19, x20, x21, x22, x23, x24, x25, x26, x27, x28, x29, x30, x31, x32, x33, x34⟩ := u
  obtain ⟨y0, y1, y2, y3, y4, y5, y6, y7, y8, y9, y10, y11, y12, y13, y14, y15, y16, y17, y18, y19, y20, y21, y22⟩ := v
  have hx := RX.1.2.1
  have hy := RX.1.2.2.1
  obtain ⟨c, hc, ec⟩ := RB
  have ec2 : y2 = nI c := (congrArg (fun z => z.2.1) RR).symm.trans ec
  refine gx_m_ran (gy_m_ran ⟨by rw [RR], ak, av, ac, ek, ev, ex, ey, RX, RY, RR, c, hc, ec⟩ ⟨c, hc, ec2⟩) ⟨c, hc, ec⟩
end
