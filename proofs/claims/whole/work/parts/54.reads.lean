/-! PURE: where a current comes out; Wires.connect, columnsFrom -/
def closedF (b : Bd) (m : Mt) (s l0 : Nat) (LS CS : Nat → Prop) : Prop := LS l0 ∧ (∀ i, i < bN b → liveF b m s i = true → LS (bL b i) → CS (bC b i)) ∧ ∀ i, i < bN b → liveF b m s i = true → oneF b i = false → CS (bC b i) → LS (bL b i)
def readsP (b : Bd) (m : Mt) (s l0 c : Nat) : Prop := ∀ LS CS : Nat → Prop, closedF b m s l0 LS CS → CS c
noncomputable def readF (b : Bd) (m : Mt) (s l : Nat) : Nat := bitsP (readsP b m s l) 6
noncomputable def toldF (b : Bd) (m : Mt) (s : Nat) : Nat := bitsP (fun i => readsP b m s (bL b i) (bC b i)) (bN b)
theorem readF_lt (b : Bd) (m : Mt) (s l : Nat) : readF b m s l < 64 := bitsP_lt _ 6
theorem toldF_lt (b : Bd) (m : Mt) (s : Nat) : toldF b m s < 2 ^ bN b := bitsP_lt _ _
theorem two7 {n : Nat} (h : n ≤ 7) : 2 ^ n ≤ 128 := Nat.pow_le_pow_right (n := 2) (j := 7) (by decide) h
theorem toldF_lt7 {b : Bd} (hb : bdOk b) (m : Mt) (s : Nat) : toldF b m s < 128 := Nat.lt_of_lt_of_le (toldF_lt b m s) (two7 hb.1)
theorem read_char {b : Bd} {m : Mt} {s l0 L X : Nat} (hX : X < 64) (hs : ∀ LS CS : Nat → Prop, closedF b m s l0 LS CS → ∀ c, X.testBit c = true → CS c) (hc : closedF b m s l0 (fun l => L.testBit l = true) (fun c => X.testBit c = true)) : X = readF b m s l0 := by
  refine bits_ext (n := 6) hX (readF_lt b m s l0) (fun c hc6 => ?_)
  unfold readF
  rw [bitsP_bit]
  exact ⟨fun h => ⟨hc6, fun LS CS hcl => hs LS CS hcl c h⟩, fun h => h.2 _ _ hc⟩
theorem read_bit {b : Bd} {m : Mt} {s l c : Nat} (hc : c < 6) : (readF b m s l).testBit c = true ↔ readsP b m s l c := by
  unfold readF
  rw [bitsP_bit]
  exact ⟨fun h => h.2, fun h => ⟨hc, h⟩⟩
/-- of a line: the columns to which its first k keys let current through, and those from which they do -/
def forF (b : Bd) (m : Mt) (s l : Nat) : Nat → Nat
  | 0 => 0
  | k + 1 => forF b m s l k ||| (if liveF b m s k = true ∧ bL b k = l then 2 ^ bC b k else 0)
def bacF (b : Bd) (m : Mt) (s l : Nat) : Nat → Nat
  | 0 => 0
  | k + 1 => bacF b m s l k ||| (if liveF b m s k = true ∧ bL b k = l ∧ oneF b k = false then 2 ^ bC b k else 0)
theorem forF_s (b : Bd) (m : Mt) (s l k : Nat) : forF b m s l (k + 1) = forF b m s l k ||| (if liveF b m s k = true ∧ bL b k = l then 2 ^ bC b k else 0) := rfl
theorem bacF_s (b : Bd) (m : Mt) (s l k : Nat) : bacF b m s l (k + 1) = bacF b m s l k ||| (if liveF b m s k = true ∧ bL b k = l ∧ oneF b k = false then 2 ^ bC b k else 0) := rfl
theorem pow6 {c : Nat} (h : c < 6) : 2 ^ c < 64 := (Nat.pow_lt_pow_right (by decide : 1 < 2) h : 2 ^ c < 2 ^ 6)
theorem forF_lt {b : Bd} (hb : bdOk b) (m : Mt) (s l k : Nat) (hk : k ≤ bN b) : forF b m s l k < 64 := by
  induction k with
  | zero => exact (by decide : (0 : Nat) < 64)
  | succ k ih =>
    unfold forF
    refine or_lt (n := 6) (ih (by omega)) ?_
    split
    · exact pow6 (hb.2 k (by omega)).2.2.1
    · decide
theorem bacF_lt {b : Bd} (hb : bdOk b) (m : Mt) (s l k : Nat) (hk : k ≤ bN b) : bacF b m s l k < 64 := by
  induction k with
  | zero => exact (by decide : (0 : Nat) < 64)
  | succ k ih =>
    unfold bacF
    refine or_lt (n := 6) (ih (by omega)) ?_
    split
    · exact pow6 (hb.2 k (by omega)).2.2.1
    · decide
theorem forF_bit (b : Bd) (m : Mt) (s l k c : Nat) : (forF b m s l k).testBit c = true ↔ ∃ i, i < k ∧ liveF b m s i = true ∧ bL b i = l ∧ bC b i = c := by
  induction k with
  | zero => simp [forF]
  | succ k ih =>
    unfold forF
    rw [Nat.testBit_or, Bool.or_eq_true, ih]
    constructor
    · rintro (⟨i, h1, h2⟩ | h)
      · exact ⟨i, by omega, h2⟩
      · split at h
        · rename_i q
          rw [bit_pow, decide_eq_true_eq] at h
          exact ⟨k, by omega, q.1, q.2, h⟩
        · simp at h
    · rintro ⟨i, h1, h2, h3, h4⟩
      rcases Nat.lt_or_ge i k with q | q
      · exact Or.inl ⟨i, q, h2, h3, h4⟩
      · have : i = k := by omega
        subst this
        exact Or.inr (by rw [if_pos ⟨h2, h3⟩, bit_pow, decide_eq_true_eq]; exact h4)
theorem bacF_bit (b : Bd) (m : Mt) (s l k c : Nat) : (bacF b m s l k).testBit c = true ↔ ∃ i, i < k ∧ liveF b m s i = true ∧ bL b i = l ∧ oneF b i = false ∧ bC b i = c := by
  induction k with
  | zero => simp [bacF]
  | succ k ih =>
    unfold bacF
    rw [Nat.testBit_or, Bool.or_eq_true, ih]
    constructor
    · rintro (⟨i, h1, h2⟩ | h)
      · exact ⟨i, by omega, h2⟩
      · split at h
        · rename_i q
          rw [bit_pow, decide_eq_true_eq] at h
          exact ⟨k, by omega, q.1, q.2.1, q.2.2, h⟩
        · simp at h
    · rintro ⟨i, h1, h2, h3, h4, h5⟩
      rcases Nat.lt_or_ge i k with q | q
      · exact Or.inl ⟨i, q, h2, h3, h4, h5⟩
      · have : i = k := by omega
        subst this
        exact Or.inr (by rw [if_pos ⟨h2, h3, h4⟩, bit_pow, decide_eq_true_eq]; exact h5)
/-- the wires, connected for a set -/
def CNk (k : Nat) (b : Bd) (m : Mt) (s : Nat) (u : St) : Prop := ∀ l, l < 4 → gi u 27 l = nI (forF b m s l k) ∧ gi u 28 l = nI (bacF b m s l k)
def notC (k : Nat) : Prop := k ≠ 27 ∧ k ≠ 28
theorem notC27 : ¬ notC 27 := fun h => h.1 rfl
theorem notC28 : ¬ notC 28 := fun h => h.2 rfl
theorem WR.same {P : Nat → Prop} {u v : St} {b : Bd} {m : Mt} (h : WR b m u) (s : Same P u v) (h4 : P 24) (h5 : P 25) (h6 : P 26) : WR b m v :=
  ⟨(s.1 _ _ h4).trans h.1, fun i hi => ⟨(s.1 _ _ h5).trans (h.2.1 i hi).1, (s.1 _ _ h6).trans (h.2.1 i hi).2⟩, (s.1 _ _ h4).trans h.2.2.1, (s.1 _ _ h4).trans h.2.2.2.1, (s.1 _ _ h4).trans h.2.2.2.2⟩
theorem live_or (b : Bd) (m : Mt) (s i : Nat) : ((s.testBit i && rdyF b m i) || alwF b m i) = liveF b m s i := by
  unfold rdyF alwF liveF condF
  cases (mC m).testBit (bL b i) <;> cases s.testBit i <;> cases (decide (bK b i = 3)) <;> simp
theorem liveM_bit {b : Bd} {m : Mt} {s i : Nat} (hi : i < bN b) : (s &&& maskF (rdyF b m) (bN b) ||| maskF (alwF b m) (bN b)).testBit i = liveF b m s i := by
  rw [Nat.testBit_or, Nat.testBit_and, maskF_bit, maskF_bit, ← live_or]
  simp [hi]
theorem s_X3_connect {b : Bd} {m : Mt} {s : Nat} {u : St} {Q : St → Prop} (hb : bdOk b) (hs : s < 128) (hw : WR b m u) (h : ∀ u', CNk (bN b) b m s u' → Same notC u u' → Q u') : wp_X3_connect (nI s) u Q := by
  have hn := hb.1
  unfold wp_X3_connect
  rw [hw.2.2.1, hw.2.2.2.1, nI_and, nI_or]
  have hlt : s &&& maskF (rdyF b m) (bN b) ||| maskF (alwF b m) (bN b) < 128 := or_lt (n := 7) (Nat.lt_of_le_of_lt Nat.and_le_left hs) (maskF_lt7 _ hn)
  have hbit := fun i (hi : i < bN b) => liveM_bit (b := b) (m := m) (s := s) hi
  generalize s &&& maskF (rdyF b m) (bN b) ||| maskF (alwF b m) (bN b) = lv at hlt hbit ⊢
  simp only [wp_X3_connect_L14]
  refine lc2 4 (fun l a v => a = nI lv ∧ (∀ j, j < l → gi v 27 j = nI 0 ∧ gi v 28 j = nI 0) ∧ Same notC u v) ⟨rfl, fun j hj => absurd hj (by omega), Same.rfl'⟩ ?_ ?_
  · rintro K l a v hl ⟨rfl, hz, hS⟩ hK
    unfold wp_X3_connect_B14
    simp only [nxt, tNn (show l < 2 ^ 31 by omega)]
    have v4 : vp_in (nI l) 4 := vp_in_nI (by omega) (by omega)
    refine ⟨fun c => absurd c (nI_ge (a := l) (b := 4) hl (by decide)), fun _ => ⟨v4, v4, ?_⟩⟩
    rw [nI_1]
    refine hK _ _ ⟨rfl, fun j hj => ?_, (hS.si notC27).si notC28⟩
    rcases Nat.lt_or_ge j l with q | q
    · rw [gi_nk (by omega), gi_ni (by omega), gi_ni (by omega), gi_nk (by omega)]; exact hz j q
    · have : j = l := by omega
      subst this
      exact ⟨by rw [gi_nk (by omega), gi_same]; rfl, by rw [gi_same]; rfl⟩
  · rintro K a v ⟨rfl, hz, hS⟩
    unfold wp_X3_connect_B14
    refine ⟨fun _ => ?_, fun c => absurd (by decide) c⟩
    simp only [wp_X3_connect_L41]
    refine lc2 (bN b) (fun i a v => a = nI lv ∧ CNk i b m s v ∧ Same notC u v) ⟨rfl, fun l hl => hz l hl, hS⟩ ?_ ?_
    · rintro K i a v hi ⟨rfl, hc, hS⟩ hK
      have hwv := hw.same hS ⟨by omega, by omega⟩ ⟨by omega, by omega⟩ ⟨by omega, by omega⟩
      obtain ⟨k1, k2, k3, k4⟩ := hb.2 i hi
      obtain ⟨e25, e26⟩ := hwv.2.1 i hi
      have h127 := maskF_lt7 (oneF b) hn
      have hob : (maskF (oneF b) (bN b)).testBit i = oneF b i := by rw [maskF_bit]; simp [hi]
      unfold wp_X3_connect_B41
      simp only [tNn (show i < 2 ^ 31 by omega), e25, e26, hwv.1, tNn (show bL b i < 2 ^ 31 by omega), nxt, nI_1]
      have v7 : vp_in (nI i) 7 := vp_in_nI (by omega) (by omega)
      have v4 : vp_in (nI (bL b i)) 4 := vp_in_nI k2 (by decide)
      refine ⟨fun c => absurd c (nI_ge hi (by omega)), fun _ => ⟨fun c => absurd c (nI_ge (a := i) (b := 7) (by omega) (by decide)), fun _ => ⟨v7, ?_⟩⟩⟩
      rw [nI_bit (show lv < 2 ^ 31 by omega) (show i < 32 by omega), hbit i hi]
      cases e : liveF b m s i
      · refine ⟨fun _ => hK _ _ ⟨rfl, fun l hl => ?_, hS⟩, fun c => absurd rfl c⟩
        rw [forF_s, bacF_s, e]
        simp only [Bool.false_eq_true, false_and, if_false, Nat.or_zero]
        exact hc l hl
      · refine ⟨fun c => absurd c (by decide), fun _ => ⟨fun c => absurd c (nI_pos (by omega)), fun _ => ⟨fun c => absurd c (nI_ge k2 (by decide)), fun _ => ⟨v4, v7, v4, v4, ?_⟩⟩⟩⟩
        rw [(hc _ k2).1, nI_or]
        have f28 : ∀ x, gi (si v 27 (bL b i) x) 28 (bL b i) = nI (bacF b m s (bL b i) i) := fun x => by rw [gi_nk (by omega)]; exact (hc _ k2).2
        have f26 : ∀ x, gi (si v 27 (bL b i) x) 26 i = nI (2 ^ bC b i) := fun x => by rw [gi_nk (by omega)]; exact e26
        have f8 : ∀ x, gi (si v 27 (bL b i) x) 24 8 = nI (maskF (oneF b) (bN b)) := fun x => by rw [gi_nk (by omega)]; exact hwv.2.2.2.2
        rw [f8, f28, f26, nI_bit (show maskF (oneF b) (bN b) < 2 ^ 31 by omega) (show i < 32 by omega), hob]
        have fin : ∀ w : Nat, w = (if oneF b i = false then 2 ^ bC b i else 0) → wp_X3_connect_J127 (nI s) Q K (nI lv) (nI i) (nI w) (nI (bacF b m s (bL b i) i)) (nI (bL b i)) (si v 27 (bL b i) (nI (forF b m s (bL b i) i ||| 2 ^ bC b i))) := by
          intro w hw'
          unfold wp_X3_connect_J127
          simp only [nxt, tNn (show bL b i < 2 ^ 31 by omega), nI_or, nI_1]
          refine ⟨v4, hK _ _ ⟨rfl, fun l hl => ?_, (hS.si notC27).si notC28⟩⟩
          by_cases el : l = bL b i
          · subst el
            rw [gi_nk (by omega), gi_same, gi_same]
            rw [forF_s, bacF_s]
            simp only [e, hw', true_and, if_true, and_self]
          · rw [gi_nk (by omega), gi_ni el, gi_ni el, gi_nk (by omega)]
            rw [forF_s, bacF_s]
            have el2 : ¬ bL b i = l := fun q => el q.symm
            simp only [el2, false_and, and_false, if_false, Nat.or_zero]
            exact hc l hl
        cases e2 : oneF b i
        · rw [e2] at fin
          exact ⟨fun _ => ⟨v7, fin _ rfl⟩, fun c => absurd rfl c⟩
        · rw [e2] at fin
          exact ⟨fun c => absurd c (by decide), fun _ => fin 0 rfl⟩
    · rintro K a v ⟨rfl, hc, hS⟩
      have hwv := hw.same hS ⟨by omega, by omega⟩ ⟨by omega, by omega⟩ ⟨by omega, by omega⟩
      unfold wp_X3_connect_B41
      exact ⟨fun _ => h v hc hS, fun c => absurd (by rw [hwv.1]; exact Int32.le_refl _) c⟩
