/-! PURE: chances -/
def wayF (p s : Nat) : Nat → Nat
  | 0 => 1
  | k + 1 => wayF p s k * (if s.testBit k = true then p else 12 - p)
theorem popk_le (s k : Nat) : popk s k ≤ k := by
  induction k with
  | zero => exact Nat.le_refl _
  | succ k ih =>
    have h : ∀ y : Bool, y.toNat ≤ 1 := by decide
    have := h (s.testBit k)
    show popk s k + (s.testBit k).toNat ≤ k + 1
    omega
theorem way_pow (p s k : Nat) : wayF p s k = p ^ popk s k * (12 - p) ^ (k - popk s k) := by
  induction k with
  | zero => rfl
  | succ k ih =>
    have hl := popk_le s k
    show wayF p s k * _ = p ^ (popk s k + (s.testBit k).toNat) * (12 - p) ^ (k + 1 - (popk s k + (s.testBit k).toNat))
    rw [ih]
    cases s.testBit k with
    | false =>
      show _ * (if false = true then p else 12 - p) = p ^ (popk s k + 0) * (12 - p) ^ (k + 1 - (popk s k + 0))
      rw [if_neg (by decide), Nat.add_zero, show k + 1 - popk s k = (k - popk s k) + 1 by omega, Nat.pow_succ, Nat.mul_assoc]
    | true =>
      show _ * (if true = true then p else 12 - p) = p ^ (popk s k + 1) * (12 - p) ^ (k + 1 - (popk s k + 1))
      rw [if_pos rfl, show k + 1 - (popk s k + 1) = k - popk s k by omega, Nat.pow_succ]
      rw [Nat.mul_assoc, Nat.mul_comm _ p, ← Nat.mul_assoc]
theorem popk_big {s n : Nat} (hs : s < 2 ^ n) (j : Nat) : popk s (n + j) = popk s n := by
  induction j with
  | zero => rfl
  | succ j ih =>
    show popk s (n + j) + (s.testBit (n + j)).toNat = _
    rw [ih, bit_big hs (by omega)]
    rfl
theorem popk_pop {s n : Nat} (hs : s < 2 ^ n) (hn : n ≤ 7) : popk s n = popc s := by
  have := popk_big hs (8 - n)
  rw [show n + (8 - n) = 8 by omega] at this
  rw [← this]
  simp [popk, popc]
theorem way_le {p : Nat} (hp : p ≤ 12) (s k : Nat) : wayF p s k ≤ 12 ^ k := by
  induction k with
  | zero => exact Nat.le_refl _
  | succ k ih =>
    show wayF p s k * _ ≤ 12 ^ (k + 1)
    rw [Nat.pow_succ]
    refine Nat.mul_le_mul ih ?_
    split <;> omega
theorem p127 {n : Nat} (hn : n ≤ 7) : 12 ^ n ≤ 35831808 := Nat.le_trans (Nat.pow_le_pow_right (by decide) hn) (by decide : 12 ^ 7 ≤ 35831808)
theorem s_power {p t : Nat} {u : St} {Q : Int64 → St → Prop} (ht : t ≤ 100) (h : Q (lN (p ^ t)) u) : wp_X4_power (lN p) (nI t) u Q := by
  unfold wp_X4_power
  simp only [wp_X4_power_L5]
  refine lc2 t (fun k x w => w = u ∧ x = lN (p ^ k)) ⟨rfl, rfl⟩ ?_ ?_
  · rintro K k x w hk ⟨rfl, rfl⟩ hK
    unfold wp_X4_power_B5
    rw [nI_1, lN_mul]
    exact ⟨fun c => absurd c (nI_ge hk (by omega)), fun _ => hK _ _ ⟨rfl, by rw [Nat.pow_succ]⟩⟩
  · rintro K x w ⟨rfl, rfl⟩
    unfold wp_X4_power_B5
    exact ⟨fun _ => h, fun c => absurd (Int32.le_refl _) c⟩
theorem s_weight {b : Bd} {s p : Nat} {u : St} {Q : Int64 → St → Prop} (hb : bdOk b) (hL : LX 10 b u) (hs : s < 2 ^ bN b) (hp : p ≤ 12) (h : Q (lN (wayF p s (bN b))) u) : wp_X4_weight (nI s) (nI p) u Q := by
  have hn := hb.1
  have h7 := two7 hn
  have e := popk_pop hs hn
  have l := popk_le s (bN b)
  unfold wp_X4_weight
  refine s_bitCount (by omega) ?_
  rw [nI_l (by omega)]
  refine s_power (by omega) ?_
  rw [hL.1, show (12 : Int32) - nI p = nI (12 - p) from sub_nI (c := 12) (by omega), nI_l (by omega), sub_nI (a := bN b - popc s) (b := popc s) (c := bN b) (by omega)]
  refine s_power (by omega) ?_
  rw [lN_mul, ← e, ← way_pow]
  exact h
theorem s_waysM {n s p : Nat} {u : St} {Q : Int64 → St → Prop} (hn : n ≤ 7) (hB : gi u 39 10 = nI n) (hs : s < 128) (hp : p ≤ 12) (h : Q (lN (wayF p s n)) u) : wp_X5_waysOf (nI s) (nI p) u Q := by
  unfold wp_X5_waysOf
  simp only [wp_X5_waysOf_L5]
  refine lc2 n (fun k x w => w = u ∧ x = lN (wayF p s k)) ⟨rfl, rfl⟩ ?_ ?_
  · rintro K k x w hk ⟨rfl, rfl⟩ hK
    unfold wp_X5_waysOf_B5 wp_X5_waysOf_J35
    rw [hB, nI_1, nI_l (by omega), show (12 : Int64) - lN p = lN (12 - p) from lN_sub (a := 12) hp, lN_mul, lN_mul]
    refine ⟨fun c => absurd c (nI_ge hk (by omega)), fun _ => s_X5_has (by omega) (by omega) ?_⟩
    cases eb : s.testBit k with
    | false => exact ⟨fun _ => hK _ _ ⟨rfl, by rw [wayF, if_neg (by rw [eb]; decide)]⟩, fun q => absurd rfl q⟩
    | true => exact ⟨fun q => absurd q (by decide), fun _ => hK _ _ ⟨rfl, by rw [wayF, if_pos eb]⟩⟩
  · rintro K x w ⟨rfl, rfl⟩
    unfold wp_X5_waysOf_B5
    rw [hB]
    exact ⟨fun _ => h, fun c => absurd (Int32.le_refl _) c⟩
theorem s_allM {n : Nat} {u : St} {Q : Int64 → St → Prop} (hn : n ≤ 7) (hB : gi u 39 10 = nI n) (h : Q (lN (12 ^ n)) u) : wp_X5_allWays u Q := by
  unfold wp_X5_allWays
  simp only [wp_X5_allWays_L4]
  refine lc2 n (fun k x w => w = u ∧ x = lN (12 ^ k)) ⟨rfl, rfl⟩ ?_ ?_
  · rintro K k x w hk ⟨rfl, rfl⟩ hK
    unfold wp_X5_allWays_B4
    rw [hB, nI_1, show (12 : Int64) = lN 12 from rfl, lN_mul]
    exact ⟨fun c => absurd c (nI_ge hk (by omega)), fun _ => hK _ _ ⟨rfl, by rw [Nat.pow_succ]⟩⟩
  · rintro K x w ⟨rfl, rfl⟩
    unfold wp_X5_allWays_B4
    rw [hB]
    exact ⟨fun _ => h, fun c => absurd (Int32.le_refl _) c⟩
/-! the fraction -/
theorem gcd_step (a b : Nat) : Nat.gcd b (a % b) = Nat.gcd a b := by
  rw [Nat.gcd_comm a b, Nat.gcd_rec b a, Nat.gcd_comm]
theorem lN0 {x : Nat} (hx : x < 2 ^ 63) : (lg_cmp (lN x) 0 = 0) ↔ x = 0 := by
  rw [lg_cmp_eq]
  exact pk_lEQ (b := 0) hx (by decide)
theorem half {a b : Nat} (h0 : 0 < b) (h : b < a) : b * (a % b) * 2 ≤ a * b := by
  have h1 := Nat.mod_lt a h0
  have h2 : a % b + b ≤ a := by
    have := Nat.div_add_mod a b
    have h3 : 1 ≤ a / b := (Nat.le_div_iff_mul_le h0).mpr (by omega)
    have h4 := Nat.mul_le_mul_left b h3
    omega
  have h5 : (a % b) * 2 ≤ a := by omega
  rw [Nat.mul_assoc, Nat.mul_comm a b]
  exact Nat.mul_le_mul_left b h5
theorem s_fracX {U L : Nat} {u : St} {Q : St → Prop} (hU : U < 2 ^ 40) (hL0 : 0 < L) (hL : L < 2 ^ 40) (h : Q (sl (sl u 0 13 (lN U / lN (Nat.gcd L U))) 0 14 (lN L / lN (Nat.gcd L U)))) : wp_X4_tellFraction (lN U) (lN L) u Q := by
  have g0 : 0 < Nat.gcd L U := Nat.gcd_pos_of_pos_left U hL0
  have fin : ∀ a, a = Nat.gcd L U → wp_X4_tellFraction_J45 (lN U) (lN L) Q (lN a) u := fun a ea => by
    have gl : Nat.gcd L U ≤ L := Nat.gcd_le_left U hL0
    have ne : ¬ lN a = 0 := fun q => by
      have := (pk_lEQ (a := a) (b := 0) (by omega) (by decide)).mp q
      omega
    subst ea
    unfold wp_X4_tellFraction_J45
    simp only [nxt]
    exact ⟨fun c => absurd ((lN0 (by omega)).mp c) (by omega), fun _ => ⟨ne, ne, h⟩⟩
  unfold wp_X4_tellFraction
  simp only [wp_X4_tellFraction_L9]
  refine lc3 200 (fun t x y w => w = u ∧ ∃ a b, x = lN a ∧ y = lN b ∧ a < 2 ^ 40 ∧ b < 2 ^ 40 ∧ Nat.gcd a b = Nat.gcd L U ∧ (t = 0 ∨ (b < a ∧ a * b * 2 ^ (t - 1) < 2 ^ 80))) ⟨rfl, L, U, rfl, rfl, hL, hU, rfl, Or.inl rfl⟩ ?_ ?_
  · rintro K t x y w ht ⟨rfl, a, b, rfl, rfl, ha, hb, hg, hm⟩ hK
    unfold wp_X4_tellFraction_B9
    rw [nI_1]
    refine ⟨fun c => absurd c (nI_ge (b := 200) ht (by decide)), fun _ => ⟨fun c => fin a ?_, fun c => ?_⟩⟩
    · have b0 := (lN0 (by omega)).mp c
      rw [← hg, b0, Nat.gcd_zero_right]
    · have b0 : 0 < b := Nat.pos_of_ne_zero (fun q => c ((lN0 (by omega)).mpr q))
      have ml := Nat.mod_lt a b0
      rw [pk_lRem (by omega) b0 (by omega)]
      refine ⟨fun q => absurd ((pk_lEQ (a := b) (b := 0) (by omega) (by decide)).mp q) (by omega), hK _ _ _ ⟨rfl, b, a % b, rfl, rfl, hb, by omega, by rw [gcd_step]; exact hg, Or.inr ⟨ml, ?_⟩⟩⟩
      rw [show t + 1 - 1 = t by omega]
      rcases hm with rfl | ⟨h1, h2⟩
      · rw [Nat.pow_zero, Nat.mul_one]
        exact Nat.lt_of_lt_of_le (Nat.mul_lt_mul'' hb (Nat.lt_trans ml hb)) (by decide)
      · by_cases t0 : t = 0
        · subst t0
          rw [Nat.pow_zero, Nat.mul_one]
          exact Nat.lt_of_lt_of_le (Nat.mul_lt_mul'' hb (Nat.lt_trans ml hb)) (by decide)
        · have hh := half b0 h1
          have e : b * (a % b) * 2 ^ t = b * (a % b) * 2 * 2 ^ (t - 1) := by
            rw [show t = (t - 1) + 1 by omega, Nat.pow_succ, Nat.mul_assoc (b * (a % b)) 2, Nat.mul_comm 2, show t - 1 + 1 - 1 = t - 1 by omega]
          rw [e]
          exact Nat.lt_of_le_of_lt (Nat.mul_le_mul_right _ hh) h2
  · rintro K x y w ⟨rfl, a, b, rfl, rfl, ha, hb, hg, hm⟩
    have b0 : b = 0 := by
      rcases hm with q | ⟨h1, h2⟩
      · exact absurd q (by decide)
      · refine Nat.eq_zero_of_not_pos (fun b0 => absurd h2 (Nat.not_lt.mpr ?_))
        have : 1 ≤ a * b := Nat.mul_pos (by omega) b0
        calc 2 ^ 80 ≤ 1 * 2 ^ (200 - 1) := by decide
          _ ≤ a * b * 2 ^ (200 - 1) := Nat.mul_le_mul_right _ this
    unfold wp_X4_tellFraction_B9
    exact ⟨fun _ => fin a (by rw [← hg, b0, Nat.gcd_zero_right]), fun c => absurd (Int32.le_refl _) c⟩
theorem lqw2 {A B : Type} {F : (A → B → St → Prop) → A → B → St → Prop} {z : A → B → St → Prop} (J : Nat → A → B → St → Prop) (hs : ∀ (K : A → B → St → Prop) (k : Nat) (a : A) (b : B) (u : St), J k a b u → (∀ k' a' b' u', k' < k → J k' a' b' u' → K a' b' u') → F K a b u) {k : Nat} {a : A} {b : B} {u : St} (h : J k a b u) : ∃ n, lpN F z n a b u := by
  have key : ∀ (n k : Nat) (a : A) (b : B) (u : St), k < n → J k a b u → lpN F z n a b u := by
    intro n
    induction n with
    | zero => intro k a b u h; exact absurd h (Nat.not_lt_zero _)
    | succ n ih => intro k a b u hk hJ; exact hs _ k a b u hJ (fun k' a' b' u' hk' hJ' => ih k' a' b' u' (by omega) hJ')
  exact ⟨k + 1, key _ k a b u (Nat.lt_succ_self _) h⟩
theorem s_fracM {U L : Nat} {u : St} {Q : Int32 → St → Prop} (hU : U < 2 ^ 40) (hL0 : 0 < L) (hL : L < 2 ^ 40) (h : Q 1 (sl (sl u 39 3 (lN U / lN (Nat.gcd L U))) 39 4 (lN L / lN (Nat.gcd L U)))) : wp_X5_fraction (lN U) (lN L) u Q := by
  have g0 : 0 < Nat.gcd L U := Nat.gcd_pos_of_pos_left U hL0
  unfold wp_X5_fraction
  simp only [wp_X5_fraction_L6]
  refine lqw2 (fun b x y w => w = u ∧ ∃ a, x = lN a ∧ y = lN b ∧ a < 2 ^ 40 ∧ b < 2 ^ 40 ∧ Nat.gcd a b = Nat.gcd L U) ?_ (k := L) ⟨rfl, U, rfl, rfl, hU, hL, Nat.gcd_comm U L⟩
  rintro K b x y w ⟨rfl, a, rfl, rfl, ha, hb, hg⟩ hK
  unfold wp_X5_fraction_B6
  refine ⟨fun c => ?_, fun c => ?_⟩
  · have b0 := (lN0 (by omega)).mp c
    have ea : a = Nat.gcd L U := by rw [← hg, b0, Nat.gcd_zero_right]
    have ne : ¬ lN a = 0 := fun q => absurd ((pk_lEQ (a := a) (b := 0) (by omega) (by decide)).mp q) (by omega)
    simp only [nxt]
    rw [ea] at ne ⊢
    exact ⟨ne, ne, h⟩
  · have b0 : 0 < b := Nat.pos_of_ne_zero (fun q => c ((lN0 (by omega)).mpr q))
    have ml := Nat.mod_lt a b0
    rw [pk_lRem (by omega) b0 (by omega)]
    exact ⟨fun q => absurd ((pk_lEQ (a := b) (b := 0) (by omega) (by decide)).mp q) (by omega), hK (a % b) _ _ _ ml ⟨rfl, b, rfl, rfl, hb, by omega, by rw [gcd_step]; exact hg⟩⟩
