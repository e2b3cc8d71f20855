/-! PURE: Wires.columnsFrom, toldOf -/
theorem lc5 {A B C D : Type} {F : (A → B → C → D → Int32 → St → Prop) → A → B → C → D → Int32 → St → Prop} {z : A → B → C → D → Int32 → St → Prop} (e : Nat) (J : Nat → A → B → C → D → St → Prop) {a : A} {b : B} {c : C} {d : D} {u : St} (h0 : J 0 a b c d u) (hs : ∀ (K : A → B → C → D → Int32 → St → Prop) (i : Nat) (a : A) (b : B) (c : C) (d : D) (u : St), i < e → J i a b c d u → (∀ a' b' c' d' u', J (i + 1) a' b' c' d' u' → K a' b' c' d' (nI (i + 1)) u') → F K a b c d (nI i) u) (hx : ∀ (K : A → B → C → D → Int32 → St → Prop) (a : A) (b : B) (c : C) (d : D) (u : St), J e a b c d u → F K a b c d (nI e) u) : ∃ n, lpN F z n a b c d 0 u := by
  have key : ∀ (n i : Nat) (a : A) (b : B) (c : C) (d : D) (u : St), e - i < n → i ≤ e → J i a b c d u → lpN F z n a b c d (nI i) u := by
    intro n
    induction n with
    | zero => intro i a b c d u h; exact absurd h (Nat.not_lt_zero _)
    | succ n ih =>
      intro i a b c d u hm hi hJ
      rcases Nat.lt_or_ge i e with q | q
      · exact hs _ i a b c d u q hJ (fun a' b' c' d' u' hJ' => ih (i + 1) a' b' c' d' u' (by omega) q hJ')
      · have e1 : i = e := by omega
        subst e1
        exact hx _ a b c d u hJ
  exact ⟨e + 1, key _ 0 a b c d u (by omega) (Nat.zero_le _) h0⟩
theorem nz_bit {x : Nat} (h : x ≠ 0) : ∃ i, x.testBit i = true := by
  refine Classical.byContradiction fun q => h (Nat.eq_of_testBit_eq fun i => ?_)
  cases e : x.testBit i
  · simp
  · exact absurd ⟨i, e⟩ q
theorem and_pow (x c : Nat) : x &&& 2 ^ c = if x.testBit c = true then 2 ^ c else 0 := by
  apply Nat.eq_of_testBit_eq
  intro i
  rw [Nat.testBit_and, bit_pow]
  by_cases e : c = i
  · subst e
    cases h : x.testBit c <;> simp
  · split <;> simp [e]
def Sub (a b : Nat) : Prop := ∀ i, a.testBit i = true → b.testBit i = true
theorem Sub.or {a b : Nat} (h : Sub a b) (c : Nat) : Sub a (b ||| c) := fun i hi => by rw [Nat.testBit_or, h i hi]; rfl
theorem Sub.rf (a : Nat) : Sub a a := fun _ h => h
theorem popc_sub0 : ∀ a, a < 64 → ∀ b, b < 64 → a &&& b = a → a ≠ b → popc a < popc b := by decide +kernel
theorem popc_sub {a b : Nat} (ha : a < 64) (hb : b < 64) (h : Sub a b) (hne : a ≠ b) : popc a < popc b := popc_sub0 a ha b hb (by
  apply Nat.eq_of_testBit_eq
  intro i
  rw [Nat.testBit_and]
  cases e : a.testBit i
  · rfl
  · rw [h i e]; rfl) hne
theorem popc_16 : ∀ a, a < 16 → popc a ≤ 4 := by decide +kernel
theorem popc_64 : ∀ a, a < 64 → popc a ≤ 6 := by decide +kernel
theorem popc_pos16 : ∀ a, a < 16 → a ≠ 0 → 1 ≤ popc a := by decide +kernel
/-- the columns to which the lines of a set lead at once -/
def colsF (f : Nat → Nat) (L : Nat) : Nat → Nat
  | 0 => 0
  | k + 1 => colsF f L k ||| (if L.testBit k = true then f k else 0)
theorem colsF_bit (f : Nat → Nat) (L k c : Nat) : (colsF f L k).testBit c = true ↔ ∃ j, j < k ∧ L.testBit j = true ∧ (f j).testBit c = true := by
  induction k with
  | zero => simp [colsF]
  | succ k ih =>
    show (colsF f L k ||| _).testBit c = true ↔ _
    rw [Nat.testBit_or, Bool.or_eq_true, ih]
    constructor
    · rintro (⟨i, h1, h2⟩ | h)
      · exact ⟨i, by omega, h2⟩
      · split at h
        · rename_i q
          exact ⟨k, by omega, q, h⟩
        · simp at h
    · rintro ⟨i, h1, h2, h3⟩
      rcases Nat.lt_or_ge i k with q | q
      · exact Or.inl ⟨i, q, h2, h3⟩
      · have : i = k := by omega
        subst this
        exact Or.inr (by rw [if_pos h2]; exact h3)
theorem colsF_lt {f : Nat → Nat} {k : Nat} (h : ∀ j, j < k → f j < 64) (L : Nat) : colsF f L k < 64 := by
  induction k with
  | zero => exact (by decide : (0 : Nat) < 64)
  | succ k ih =>
    refine or_lt (n := 6) (ih (fun j hj => h j (by omega))) ?_
    split
    · exact h k (by omega)
    · decide
theorem colsF_or {f : Nat → Nat} {L k j : Nat} (hj : j < k) (hf : ∀ j, j < k → f j < 64) : colsF f (L ||| 2 ^ j) k = colsF f L k ||| f j := by
  refine bits_ext (n := 6) (colsF_lt hf _) (or_lt (n := 6) (colsF_lt hf _) (hf j hj)) (fun c _ => ?_)
  rw [Nat.testBit_or, Bool.or_eq_true, colsF_bit, colsF_bit]
  constructor
  · rintro ⟨i, h1, h2, h3⟩
    rw [Nat.testBit_or, Bool.or_eq_true, bit_pow, decide_eq_true_eq] at h2
    rcases h2 with h2 | h2
    · exact Or.inl ⟨i, h1, h2, h3⟩
    · subst h2; exact Or.inr h3
  · rintro (⟨i, h1, h2, h3⟩ | h)
    · exact ⟨i, h1, by rw [Nat.testBit_or, h2]; rfl, h3⟩
    · exact ⟨j, hj, by rw [Nat.testBit_or, bit_pow]; simp, h⟩
set_option maxHeartbeats 1000000 in
theorem s_X3_columnsFrom {b : Bd} {m : Mt} {s l : Nat} {u : St} {Q : Int32 → St → Prop} (hb : bdOk b) (hl : l < 4) (hc : CNk (bN b) b m s u) (h : Q (nI (readF b m s l)) u) : wp_X3_columnsFrom (nI l) u Q := by
  have hf : ∀ j, j < 4 → forF b m s j (bN b) < 64 := fun j _ => forF_lt hb m s j _ (Nat.le_refl _)
  have hg : ∀ j, bacF b m s j (bN b) < 64 := fun j => bacF_lt hb m s j _ (Nat.le_refl _)
  generalize hfo : (fun j => forF b m s j (bN b)) = fo at *
  have efo : ∀ j, forF b m s j (bN b) = fo j := fun j => congrFun hfo j
  have hf : ∀ j, j < 4 → fo j < 64 := fun j hj => by rw [← efo]; exact hf j hj
  obtain ⟨Sound, hSound⟩ : ∃ S : Nat → Prop, S = fun L => ∀ LS CS : Nat → Prop, closedF b m s l LS CS → ∀ j, j < 4 → L.testBit j = true → LS j := ⟨_, rfl⟩
  obtain ⟨Clo, hClo⟩ : ∃ S : Nat → Prop, S = fun L => ∀ j, j < 4 → L.testBit j = true ∨ bacF b m s j (bN b) &&& colsF fo L 4 = 0 := ⟨_, rfl⟩
  have sndC : ∀ L, Sound L → ∀ LS CS : Nat → Prop, closedF b m s l LS CS → ∀ c, (colsF fo L 4).testBit c = true → CS c := by
    intro L hS LS CS hcl c hbit
    rw [hSound] at hS
    obtain ⟨j, h1, h2, h3⟩ := (colsF_bit fo L 4 c).mp hbit
    rw [← efo] at h3
    obtain ⟨i, i1, i2, i3, i4⟩ := (forF_bit b m s j (bN b) c).mp h3
    have := hcl.2.1 i i1 i2 (by rw [i3]; exact hS LS CS hcl j h1 h2)
    rw [i4] at this
    exact this
  have done : ∀ L, L.testBit l = true → Sound L → Clo L → Q (nI (colsF fo L 4)) u := by
    intro L hL hS hC
    rw [hClo] at hC
    rw [read_char (b := b) (m := m) (s := s) (l0 := l) (L := L) (colsF_lt hf L) (sndC L hS) ⟨hL, fun i i1 i2 i3 => ?_, fun i i1 i2 i3 i4 => ?_⟩]
    · exact h
    · exact (colsF_bit fo L 4 _).mpr ⟨bL b i, (hb.2 i i1).2.1, i3, by rw [← efo]; exact (forF_bit b m s _ _ _).mpr ⟨i, i1, i2, rfl, rfl⟩⟩
    · rcases hC (bL b i) (hb.2 i i1).2.1 with q | q
      · exact q
      · have h1 : (bacF b m s (bL b i) (bN b)).testBit (bC b i) = true := (bacF_bit b m s _ _ _).mpr ⟨i, i1, i2, rfl, i3, rfl⟩
        have h2 := congrArg (fun x => Nat.testBit x (bC b i)) q
        simp only [Nat.testBit_and, h1, Nat.zero_testBit, Bool.true_and] at h2
        have i4' : (colsF fo L 4).testBit (bC b i) = true := i4
        rw [i4'] at h2
        cases h2
  have add : ∀ L j, j < 4 → Sound L → bacF b m s j (bN b) &&& colsF fo L 4 ≠ 0 → Sound (L ||| 2 ^ j) := by
    intro L j hj hS hne
    have hS' := hS
    rw [hSound] at hS ⊢
    intro LS CS hcl k hk hbit
    rw [Nat.testBit_or, Bool.or_eq_true, bit_pow, decide_eq_true_eq] at hbit
    rcases hbit with q | q
    · exact hS LS CS hcl k hk q
    · subst q
      obtain ⟨c, hcb⟩ := nz_bit hne
      rw [Nat.testBit_and, Bool.and_eq_true] at hcb
      obtain ⟨i, i1, i2, i3, i4, i5⟩ := (bacF_bit b m s j (bN b) c).mp hcb.1
      have := hcl.2.2 i i1 i2 i4 (by rw [i5]; exact sndC L hS' LS CS hcl c hcb.2)
      rw [i3] at this
      exact this
  have hp : 2 ^ l < 16 := (Nat.pow_lt_pow_right (by decide : 1 < 2) hl : 2 ^ l < 2 ^ 4)
  unfold wp_X3_columnsFrom wp_X4_within
  have v4 : vp_in (nI l) 4 := vp_in_nI hl (by decide)
  refine ⟨fun c => absurd c (nI_pos (by omega)), fun _ => ⟨fun c => absurd c (nI_ge hl (by decide)), fun _ => ⟨fun _ => ⟨v4, ?_⟩, fun c => absurd c (by decide)⟩⟩⟩
  rw [nI_one (by omega), tNn (by omega), (hc l hl).1]
  simp only [wp_X3_columnsFrom_L27]
  refine lq4 (I := fun a b' c d v => v = u ∧ ∃ L B r, a = nI (colsF fo L 4) ∧ b' = nI L ∧ c = nI B ∧ d = nI r ∧ L < 16 ∧ L.testBit l = true ∧ B < 16 ∧ Sound L ∧ r ≤ 4 ∧ (L = B → Clo L) ∧ (L = B ∨ r + 1 ≤ popc L)) (μ := fun _ _ _ d _ => 4 - d.toNatClampNeg) ?_ ?_
  · rintro K a b' c d v ⟨rfl, L, B, r, rfl, rfl, rfl, rfl, hL, hLl, hB, hS, hr, hcl, hpop⟩ hK
    have hcl64 := colsF_lt hf L
    unfold wp_X3_columnsFrom_B27
    refine ⟨fun c => ?_, fun c1 => ⟨fun c => ?_, fun c2 => ⟨fun c => ?_, fun c3 => ?_⟩⟩⟩
    · have h4 : 4 ≤ r := (nI_leI (by decide) (by omega)).mp c
      have := popc_16 L hL
      exact done L hLl hS (hcl (by omega))
    · have h0 : colsF fo L 4 = 0 := (nI_eq (by omega) (by decide)).mp c
      refine done L hLl hS ?_
      rw [hClo]
      intro j _
      exact Or.inr (by rw [h0]; simp)
    · exact done L hLl hS (hcl ((nI_eq (by omega) (by omega)).mp c))
    · have hLB : L ≠ B := fun q => c3 (by rw [q])
      have hr4 : r < 4 := by
        rcases Nat.lt_or_ge r 4 with q | q
        · exact q
        · exact absurd (nI_le q (by omega)) c1
      simp only [wp_X3_columnsFrom_L49]
      refine lc5 4 (fun j a b' c d w => w = v ∧ ∃ L', a = nI (colsF fo L' 4) ∧ b' = nI L' ∧ c = nI L ∧ d = nI r ∧ L' < 16 ∧ Sound L' ∧ Sub L L' ∧ (L' = L → ∀ k, k < j → L'.testBit k = true ∨ bacF b m s k (bN b) &&& colsF fo L' 4 = 0)) ⟨rfl, L, rfl, rfl, rfl, rfl, hL, hS, Sub.rf L, fun _ k hk => absurd hk (by omega)⟩ ?_ ?_
      · rintro K2 j a b' c d w hj ⟨rfl, L', rfl, rfl, rfl, rfl, hL', hS', hsub, hc'⟩ hK2
        have v4 : vp_in (nI j) 4 := vp_in_nI hj (by decide)
        have hcl64 := colsF_lt hf L'
        have hg64 := hg j
        unfold wp_X3_columnsFrom_B49
        refine ⟨fun c => absurd c (nI_ge hj (by decide)), fun _ => ?_⟩
        rw [nI_bit (by omega) (by omega), tNn (by omega), (hc j hj).2, (hc j hj).1, nI_and, efo, nI_or, nI_one (by omega), nI_or, nI_1]
        cases e : L'.testBit j
        · refine ⟨fun c => absurd rfl c, fun _ => ⟨v4, fun c => ?_, fun c => ⟨v4, ?_⟩⟩⟩
          · have h0 : bacF b m s j (bN b) &&& colsF fo L' 4 = 0 := (nI_eq (Nat.lt_of_le_of_lt Nat.and_le_left (by omega)) (by decide)).mp c
            refine hK2 _ _ _ _ _ ⟨rfl, L', rfl, rfl, rfl, rfl, hL', hS', hsub, fun q k hk => ?_⟩
            rcases Nat.lt_or_ge k j with z | z
            · exact hc' q k z
            · have : k = j := by omega
              subst this
              exact Or.inr h0
          · have h0 : bacF b m s j (bN b) &&& colsF fo L' 4 ≠ 0 := fun q => c (by rw [q]; rfl)
            have hpj : 2 ^ j < 16 := (Nat.pow_lt_pow_right (by decide : 1 < 2) hj : 2 ^ j < 2 ^ 4)
            refine hK2 _ _ _ _ _ ⟨rfl, L' ||| 2 ^ j, by rw [colsF_or hj hf], rfl, rfl, rfl, or_lt (n := 4) hL' hpj, add L' j hj hS' h0, hsub.or _, fun q => ?_⟩
            have h1 : (L' ||| 2 ^ j).testBit j = true := by rw [Nat.testBit_or, bit_pow]; simp
            rw [q] at h1
            rw [hsub j h1] at e
            cases e
        · refine ⟨fun _ => ?_, fun c => absurd c (by decide)⟩
          refine hK2 _ _ _ _ _ ⟨rfl, L', rfl, rfl, rfl, rfl, hL', hS', hsub, fun q k hk => ?_⟩
          rcases Nat.lt_or_ge k j with z | z
          · exact hc' q k z
          · have : k = j := by omega
            subst this
            exact Or.inl e
      · rintro K2 a b' c d w ⟨rfl, L', rfl, rfl, rfl, rfl, hL', hS', hsub, hc'⟩
        unfold wp_X3_columnsFrom_B49
        refine ⟨fun _ => ?_, fun c => absurd (Int32.le_refl _) c⟩
        rw [nI_1]
        refine hK _ _ _ _ _ ⟨rfl, L', L, r + 1, rfl, rfl, rfl, rfl, hL', hsub l hLl, hL, hS', by omega, fun q => ?_, ?_⟩ ?_
        · rw [hClo]; exact hc' q
        · by_cases q : L' = L
          · exact Or.inl q
          · have := popc_sub (by omega) (by omega) hsub (fun z => q z.symm)
            right
            rcases hpop with z | z
            · exact absurd z hLB
            · omega
        · rw [tNn (by omega), tNn (by omega)]; omega
  · refine ⟨rfl, 2 ^ l, 0, 0, ?_, rfl, rfl, rfl, hp, by rw [bit_pow]; simp, by decide, ?_, by decide, fun q => ?_, ?_⟩
    · rw [efo]
      have : colsF fo (0 ||| 2 ^ l) 4 = colsF fo 0 4 ||| fo l := colsF_or hl hf
      rw [Nat.zero_or] at this
      rw [this]
      have e0 : colsF fo 0 4 = 0 := by simp [colsF]
      rw [e0, Nat.zero_or]
    · rw [hSound]
      intro LS CS hcl j _ hbit
      rw [bit_pow, decide_eq_true_eq] at hbit
      subst hbit
      exact hcl.1
    · exact absurd q (Nat.pos_iff_ne_zero.mp (Nat.two_pow_pos l))
    · exact Or.inr (popc_pos16 _ hp (Nat.pos_iff_ne_zero.mp (Nat.two_pow_pos l)))
