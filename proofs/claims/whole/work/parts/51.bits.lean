/-! PURE: sets of bits, as numbers -/
theorem nI_or (a b : Nat) : nI a ||| nI b = nI (a ||| b) := by
  apply Int32.toBitVec_inj.mp
  show BitVec.ofNat 32 a ||| BitVec.ofNat 32 b = BitVec.ofNat 32 (a ||| b)
  rw [BitVec.ofNat_or]
theorem nI_and (a b : Nat) : nI a &&& nI b = nI (a &&& b) := by
  apply Int32.toBitVec_inj.mp
  show BitVec.ofNat 32 a &&& BitVec.ofNat 32 b = BitVec.ofNat 32 (a &&& b)
  rw [BitVec.ofNat_and]
theorem nI_xor (a b : Nat) : nI a ^^^ nI b = nI (a ^^^ b) := by
  apply Int32.toBitVec_inj.mp
  show BitVec.ofNat 32 a ^^^ BitVec.ofNat 32 b = BitVec.ofNat 32 (a ^^^ b)
  rw [BitVec.ofNat_xor]
theorem sh31 : ∀ n, n < 32 → nI n &&& 31 = nI n := by decide +kernel
theorem shsm : ∀ n, n < 32 → ((nI n).toBitVec.smod 32).toNat = n := by decide +kernel
theorem nI_shr {s i : Nat} (hs : s < 2 ^ 31) (hi : i < 32) : nI s >>> (nI i &&& 31) = nI (s / 2 ^ i) := by
  rw [sh31 i hi]
  exact pk_shrN hs (nI i) i (shsm i hi)
theorem nI_shl {s i : Nat} (hi : i < 32) (h : s * 2 ^ i < 2 ^ 32) : nI s <<< (nI i &&& 31) = nI (s * 2 ^ i) := by
  rw [sh31 i hi]
  exact pk_shlN (nI i) i (shsm i hi) h
theorem nI_bit {s i : Nat} (hs : s < 2 ^ 31) (hi : i < 32) : (nI s >>> (nI i &&& 31)) &&& 1 = nI (s.testBit i).toNat := by
  rw [nI_shr hs hi, pk_andN (Nat.lt_of_le_of_lt (Nat.div_le_self _ _) (by omega)) 1 (by decide)]
  congr 1
  rw [Nat.testBit_eq_decide_div_mod_eq]
  have := Nat.mod_two_eq_zero_or_one (s / 2 ^ i)
  rcases this with h | h <;> simp [h]
theorem nI_one {i : Nat} (hi : i < 31) : (1 : Int32) <<< (nI i &&& 31) = nI (2 ^ i) := by
  have h1 : 2 ^ i ≤ 2 ^ 30 := Nat.pow_le_pow_right (by decide) (by omega)
  have := nI_shl (s := 1) (i := i) (by omega) (by omega)
  rw [Nat.one_mul] at this
  exact this
/-- those of s that are not of t -/
def ndf (s t : Nat) : Nat := s ^^^ (s &&& t)
theorem ndf_bit (s t i : Nat) : (ndf s t).testBit i = (s.testBit i && !t.testBit i) := by
  unfold ndf
  rw [Nat.testBit_xor, Nat.testBit_and]
  cases s.testBit i <;> cases t.testBit i <;> rfl
theorem nI_ndf (s t : Nat) : nI s &&& (nI t ^^^ (-1)) = nI (ndf s t) := by
  apply Int32.toBitVec_inj.mp
  show BitVec.ofNat 32 s &&& (BitVec.ofNat 32 t ^^^ (-1 : Int32).toBitVec) = BitVec.ofNat 32 (ndf s t)
  unfold ndf
  rw [BitVec.ofNat_xor, BitVec.ofNat_and, show (-1 : Int32).toBitVec = BitVec.allOnes 32 from by decide]
  apply BitVec.eq_of_getLsbD_eq
  intro i hi
  rw [BitVec.getLsbD_and, BitVec.getLsbD_xor, BitVec.getLsbD_xor, BitVec.getLsbD_and, BitVec.getLsbD_allOnes]
  simp only [hi, decide_true]
  generalize (BitVec.ofNat 32 s).getLsbD i = x
  generalize (BitVec.ofNat 32 t).getLsbD i = y
  revert x y
  decide
theorem lt_two_pow_of_bits {x n : Nat} (h : ∀ i, n ≤ i → x.testBit i = false) : x < 2 ^ n := Nat.lt_pow_two_of_testBit x (fun i hi => h i hi)
theorem bit_big {x n i : Nat} (h : x < 2 ^ n) (hi : n ≤ i) : x.testBit i = false := Nat.testBit_lt_two_pow (Nat.lt_of_lt_of_le h (Nat.pow_le_pow_right (by decide) hi))
theorem or_lt {a b n : Nat} (ha : a < 2 ^ n) (hb : b < 2 ^ n) : a ||| b < 2 ^ n := Nat.or_lt_two_pow ha hb
theorem bit_pow (i j : Nat) : (2 ^ i).testBit j = decide (i = j) := Nat.testBit_two_pow
/-- how many -/
def popc (s : Nat) : Nat := (s.testBit 0).toNat + (s.testBit 1).toNat + (s.testBit 2).toNat + (s.testBit 3).toNat + (s.testBit 4).toNat + (s.testBit 5).toNat + (s.testBit 6).toNat + (s.testBit 7).toNat
theorem popc_le (s : Nat) : popc s ≤ 8 := by
  have h : ∀ b : Bool, b.toNat ≤ 1 := by decide
  have h0 := h (s.testBit 0); have h1 := h (s.testBit 1); have h2 := h (s.testBit 2); have h3 := h (s.testBit 3)
  have h4 := h (s.testBit 4); have h5 := h (s.testBit 5); have h6 := h (s.testBit 6); have h7 := h (s.testBit 7)
  unfold popc
  omega
theorem popc_n : ∀ s, s < 128 → popc s ≤ 7 := by decide +kernel
/-- the set of those below n that have a property -/
noncomputable def bitsP (P : Nat → Prop) : Nat → Nat
  | 0 => 0
  | n + 1 => bitsP P n ||| (@ite Nat (P n) (Classical.propDecidable _) (2 ^ n) 0)
theorem bitsP_lt (P : Nat → Prop) (n : Nat) : bitsP P n < 2 ^ n := by
  induction n with
  | zero => exact Nat.one_pos
  | succ n ih =>
    unfold bitsP
    have hp : 2 ^ n < 2 ^ (n + 1) := Nat.pow_lt_pow_right (by decide) (Nat.lt_succ_self _)
    refine or_lt (Nat.lt_trans ih hp) ?_
    split
    · exact hp
    · exact Nat.two_pow_pos _
theorem bitsP_bit (P : Nat → Prop) (n i : Nat) : (bitsP P n).testBit i = true ↔ i < n ∧ P i := by
  induction n with
  | zero => simp [bitsP]
  | succ n ih =>
    unfold bitsP
    rw [Nat.testBit_or, Bool.or_eq_true, ih]
    by_cases hP : P n
    · rw [if_pos hP, bit_pow, decide_eq_true_eq]
      constructor
      · rintro (⟨h1, h2⟩ | h)
        · exact ⟨by omega, h2⟩
        · subst h; exact ⟨by omega, hP⟩
      · rintro ⟨h1, h2⟩
        rcases Nat.lt_or_ge i n with q | q
        · exact Or.inl ⟨q, h2⟩
        · exact Or.inr (by omega)
    · rw [if_neg hP]
      constructor
      · rintro (⟨h1, h2⟩ | h)
        · exact ⟨by omega, h2⟩
        · simp at h
      · rintro ⟨h1, h2⟩
        refine Or.inl ⟨?_, h2⟩
        rcases Nat.lt_or_ge i n with q | q
        · exact q
        · have : i = n := by omega
          subst this; exact absurd h2 hP
theorem bits_ext {x y n : Nat} (hx : x < 2 ^ n) (hy : y < 2 ^ n) (h : ∀ i, i < n → (x.testBit i = true ↔ y.testBit i = true)) : x = y := by
  apply Nat.eq_of_testBit_eq
  intro i
  rcases Nat.lt_or_ge i n with q | q
  · have := h i q
    cases hx : x.testBit i <;> cases hy : y.testBit i <;> simp_all
  · rw [bit_big hx q, bit_big hy q]
theorem nI_bit1 {s i : Nat} (hs : s < 2 ^ 31) (hi : i < 32) : (nI s >>> (nI i &&& nI 31)) &&& nI 1 = nI (s.testBit i).toNat := nI_bit hs hi
theorem nI_one1 {i : Nat} (hi : i < 31) : nI 1 <<< (nI i &&& nI 31) = nI (2 ^ i) := nI_one hi
theorem nI_ndf1 (s t : Nat) : nI s &&& (nI t ^^^ (-nI 1)) = nI (ndf s t) := nI_ndf s t
theorem tb_toNat0 (x : Bool) : nI x.toNat = nI 0 ↔ x = false := by cases x <;> decide
theorem tb_toNat1 (x : Bool) : nI x.toNat = nI 1 ↔ x = true := by cases x <;> decide
theorem neg_eq {a b : Nat} (h0 : 0 < a) (ha : a < 2 ^ 31) (hb : b < 2 ^ 31) : (-nI a = nI b) = False := by
  apply eq_false
  intro h
  have h1 := congrArg Int32.toInt h
  rw [sb_negT ha, nI_toInt hb] at h1
  omega
theorem eq_neg {a b : Nat} (h0 : 0 < a) (ha : a < 2 ^ 31) (hb : b < 2 ^ 31) : (nI b = -nI a) = False := by
  apply eq_false
  intro h
  have h1 := congrArg Int32.toInt h
  rw [sb_negT ha, nI_toInt hb] at h1
  omega
theorem neg_lt {a b : Nat} (h0 : 0 < a) (ha : a < 2 ^ 31) (hb : b < 2 ^ 31) : (-nI a < nI b) = True := by
  apply eq_true
  rw [Int32.lt_iff_toInt_lt, sb_negT ha, nI_toInt hb]
  omega
theorem neg_le {a b : Nat} (h0 : 0 < a) (ha : a < 2 ^ 31) (hb : b < 2 ^ 31) : (-nI a ≤ nI b) = True := by
  apply eq_true
  rw [Int32.le_iff_toInt_le, sb_negT ha, nI_toInt hb]
  omega
theorem lt_neg {a b : Nat} (h0 : 0 < a) (ha : a < 2 ^ 31) (hb : b < 2 ^ 31) : (nI b < -nI a) = False := by
  apply eq_false
  rw [Int32.lt_iff_toInt_lt, sb_negT ha, nI_toInt hb]
  omega
theorem le_neg {a b : Nat} (h0 : 0 < a) (ha : a < 2 ^ 31) (hb : b < 2 ^ 31) : (nI b ≤ -nI a) = False := by
  apply eq_false
  rw [Int32.le_iff_toInt_le, sb_negT ha, nI_toInt hb]
  omega
