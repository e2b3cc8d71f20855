/-! PURE: boards, moments, what is told -/
abbrev Bd : Type := Nat × (Nat → Nat) × (Nat → Nat) × (Nat → Nat) × (Nat → Nat)
def bN (b : Bd) : Nat := b.1
def bK (b : Bd) (i : Nat) : Nat := b.2.1 i
def bL (b : Bd) (i : Nat) : Nat := b.2.2.1 i
def bC (b : Bd) (i : Nat) : Nat := b.2.2.2.1 i
def bD (b : Bd) (i : Nat) : Nat := b.2.2.2.2 i
abbrev Mt : Type := Nat × Nat × Nat × (Nat → Nat)
def mS (m : Mt) : Nat := m.1
def mP (m : Mt) : Nat := m.2.1
def mC (m : Mt) : Nat := m.2.2.1
def mH (m : Mt) (i : Nat) : Nat := m.2.2.2 i
def bdOk (b : Bd) : Prop := bN b ≤ 7 ∧ ∀ i, i < bN b → bK b i < 6 ∧ bL b i < 4 ∧ bC b i < 6 ∧ bD b i < 10
def mtOk (m : Mt) : Prop := mS m ≤ 100 ∧ mC m < 16 ∧ mP m < 128 ∧ ∀ i, mH m i ≤ 9
def condF (k d h sc : Nat) (pr : Bool) : Bool := decide (k = 3) || (pr && (if k = 2 then decide (sc % 2 = 0) else if k = 4 then decide (d ≤ h) else if k = 5 then decide (sc % 2 = 0 ∧ sc % (d + 1) = 0) else true))
def liveF (b : Bd) (m : Mt) (s i : Nat) : Bool := !(mC m).testBit (bL b i) && condF (bK b i) (bD b i) (mH m i) (mS m) (s.testBit i)
def LX (c : Nat) (b : Bd) (u : St) : Prop := gi u c 4 = nI (bN b) ∧ ∀ i, i < bN b → gi u (c + 1) i = nI (bK b i) ∧ gi u (c + 2) i = nI (bL b i) ∧ gi u (c + 3) i = nI (bC b i) ∧ gi u (c + 4) i = nI (bD b i)
def MX (c : Nat) (m : Mt) (u : St) : Prop := gi u c 1 = nI (mS m) ∧ gi u c 2 = nI (mP m) ∧ gi u c 3 = nI (mC m) ∧ ∀ i, i < 7 → gi u (c + 1) i = nI (mH m i)
set_option maxHeartbeats 1000000 in
theorem s_X0_conducts {lb mb : Nat} {b : Bd} {m : Mt} {u : St} {s i : Nat} {Q : Int32 → St → Prop} (hL : LX lb b u) (hM : MX mb m u) (hb : bdOk b) (hm : mtOk m) (hs : s < 128) (hi : i < bN b)
    (h : Q (nI (condF (bK b i) (bD b i) (mH m i) (mS m) (s.testBit i)).toNat) u) : wp_X0_conducts lb (nI i) mb (nI s) u Q := by
  have hn := hb.1
  obtain ⟨k1, k2, k3, k4⟩ := hb.2 i hi
  obtain ⟨e1, e2, e3, e4⟩ := hL.2 i hi
  have e5 := hM.2.2.2 i (by omega)
  have hsc := hm.1
  have hh := hm.2.2.2 i
  have hr1 := pk_rem (a := mS m) (d := 2) (by omega) (by omega) (by omega)
  obtain ⟨z, hz⟩ : ∃ z, z = mS m % (bD b i + 1) := ⟨_, rfl⟩
  have hzl : z ≤ mS m := by rw [hz]; exact Nat.mod_le _ _
  have hr2 : nI (mS m) - nI (mS m) / nI (bD b i + 1) * nI (bD b i + 1) = nI z := by rw [hz]; exact pk_rem (by omega) (by omega) (by omega)
  unfold wp_X0_conducts wp_X0_has wp_X0_conducts_J28 wp_X0_conducts_J88 wp_X4_holds wp_X1_heldFor
  simp (disch := omega) only [lit, hL.1, tNn, e1, e4, e5, hM.1, nI_leI, nI_ltI, nI_eq, nI_bit1, vp_in_nI, nI_add, hr1, hr2, tb_toNat0]
  have hk : bK b i = 0 ∨ bK b i = 1 ∨ bK b i = 2 ∨ bK b i = 3 ∨ bK b i = 4 ∨ bK b i = 5 := by omega
  unfold condF at h
  rw [← hz] at h
  have q1 : ¬ i < 0 := by omega
  have q2 : ¬ bN b ≤ i := by omega
  have q3 : ¬ 7 ≤ i := by omega
  rcases hk with hk | hk | hk | hk | hk | hk <;> cases hbit : s.testBit i <;> simp [hk, hbit, q1, q2, q3] at h ⊢ <;> by_cases h1 : mS m % 2 = 0 <;> by_cases h2 : bD b i ≤ mH m i <;> by_cases h3 : z = 0 <;> simp_all <;> omega
/-- a set by a yes or no -/
def maskF (f : Nat → Bool) : Nat → Nat
  | 0 => 0
  | n + 1 => maskF f n ||| (if f n then 2 ^ n else 0)
theorem maskF_lt (f : Nat → Bool) (n : Nat) : maskF f n < 2 ^ n := by
  induction n with
  | zero => exact Nat.one_pos
  | succ n ih =>
    unfold maskF
    have hp : 2 ^ n < 2 ^ (n + 1) := Nat.pow_lt_pow_right (by decide) (Nat.lt_succ_self _)
    refine or_lt (Nat.lt_trans ih hp) ?_
    split
    · exact hp
    · exact Nat.two_pow_pos _
theorem maskF_lt7 (f : Nat → Bool) {n : Nat} (h : n ≤ 7) : maskF f n < 128 := Nat.lt_of_lt_of_le (maskF_lt f n) (Nat.pow_le_pow_right (n := 2) (j := 7) (by decide) h)
theorem maskF_bit (f : Nat → Bool) (n i : Nat) : (maskF f n).testBit i = (decide (i < n) && f i) := by
  induction n with
  | zero => simp [maskF]
  | succ n ih =>
    unfold maskF
    rw [Nat.testBit_or, ih]
    by_cases e : i = n
    · subst e
      cases f i <;> simp
    · have e2 : (if f n = true then 2 ^ n else 0).testBit i = false := by
        split
        · rw [bit_pow]; simp; omega
        · simp
      rw [e2, Bool.or_false]
      congr 1
      simp only [decide_eq_decide]
      omega
theorem LX.same {P : Nat → Prop} {u v : St} {c : Nat} {b : Bd} (h : LX c b u) (s : Same P u v) (hp : ∀ j, j ≤ 4 → P (c + j)) : LX c b v :=
  ⟨(s.1 c 4 (hp 0 (by omega))).trans h.1, fun i hi => ⟨(s.1 _ i (hp 1 (by omega))).trans (h.2 i hi).1, (s.1 _ i (hp 2 (by omega))).trans (h.2 i hi).2.1, (s.1 _ i (hp 3 (by omega))).trans (h.2 i hi).2.2.1, (s.1 _ i (hp 4 (by omega))).trans (h.2 i hi).2.2.2⟩⟩
theorem MX.same {P : Nat → Prop} {u v : St} {c : Nat} {m : Mt} (h : MX c m u) (s : Same P u v) (hp : ∀ j, j ≤ 1 → P (c + j)) : MX c m v :=
  ⟨(s.1 c _ (hp 0 (by omega))).trans h.1, (s.1 c _ (hp 0 (by omega))).trans h.2.1, (s.1 c _ (hp 0 (by omega))).trans h.2.2.1, fun i hi => (s.1 _ i (hp 1 (by omega))).trans (h.2.2.2 i hi)⟩
def rdyF (b : Bd) (m : Mt) (i : Nat) : Bool := !(mC m).testBit (bL b i) && condF (bK b i) (bD b i) (mH m i) (mS m) true
def alwF (b : Bd) (m : Mt) (i : Nat) : Bool := !(mC m).testBit (bL b i) && condF (bK b i) (bD b i) (mH m i) (mS m) false
def oneF (b : Bd) (i : Nat) : Bool := decide (bK b i = 1 ∨ bK b i = 4)
/-- the wires, attached: k keys of them -/
def WRk (k : Nat) (b : Bd) (m : Mt) (u : St) : Prop := gi u 24 5 = nI (bN b) ∧ (∀ i, i < k → gi u 25 i = nI (bL b i) ∧ gi u 26 i = nI (2 ^ bC b i)) ∧ gi u 24 6 = nI (maskF (rdyF b m) k) ∧ gi u 24 7 = nI (maskF (alwF b m) k) ∧ gi u 24 8 = nI (maskF (oneF b) k)
def WR (b : Bd) (m : Mt) (u : St) : Prop := WRk (bN b) b m u
def notW (k : Nat) : Prop := k ≠ 24 ∧ k ≠ 25 ∧ k ≠ 26
theorem s_X4_isOf {k o : Nat} {u : St} {Q : Int32 → St → Prop} (hk : k < 6) (ho : o < 6) (h : Q (nI (decide (k = o ∨ (k = 4 ∧ o = 1) ∨ (k = 5 ∧ o = 2) ∨ ((k = 1 ∨ k = 2 ∨ k = 3) ∧ o = 0))).toNat) u) : wp_X4_isOf (nI k) (nI o) u Q := by
  unfold wp_X4_isOf wp_X4_within
  simp (disch := omega) only [lit, tNn, nI_leI, nI_ltI, nI_eq, vp_in_nI]
  have hk6 : k = 0 ∨ k = 1 ∨ k = 2 ∨ k = 3 ∨ k = 4 ∨ k = 5 := by omega
  have ho6 : o = 0 ∨ o = 1 ∨ o = 2 ∨ o = 3 ∨ o = 4 ∨ o = 5 := by omega
  rcases hk6 with rfl | rfl | rfl | rfl | rfl | rfl <;> rcases ho6 with rfl | rfl | rfl | rfl | rfl | rfl <;> simp (disch := omega) [sortT, lit, nI_eq, neg_eq] at h ⊢ <;> exact h
theorem s_X4_holds {s i : Nat} {u : St} {Q : Int32 → St → Prop} (hs : s < 2 ^ 31) (hi : i < 32) (h : Q (nI (s.testBit i).toNat) u) : wp_X4_holds (nI s) (nI i) u Q := by
  unfold wp_X4_holds
  simp (disch := omega) only [lit, nI_bit1, tb_toNat0]
  generalize s.testBit i = x at h ⊢
  cases x <;> simpa using h
