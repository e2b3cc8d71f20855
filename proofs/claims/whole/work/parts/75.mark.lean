/-! PURE: mark -/
theorem lcs2 {A : Type} {F : (A → Int32 → St → Prop) → A → Int32 → St → Prop} {z : A → Int32 → St → Prop} (s e : Nat) (J : Nat → A → St → Prop) {a : A} {u : St} (h0 : J 0 a u) (hs : ∀ (K : A → Int32 → St → Prop) (i : Nat) (a : A) (u : St), i < e → J i a u → (∀ a' u', J (i + 1) a' u' → K a' (nI (s + i + 1)) u') → F K a (nI (s + i)) u) (hx : ∀ (K : A → Int32 → St → Prop) (a : A) (u : St), J e a u → F K a (nI (s + e)) u) : ∃ n, lpN F z n a (nI s) u := by
  have key : ∀ (n i : Nat) (a : A) (u : St), e - i < n → i ≤ e → J i a u → lpN F z n a (nI (s + i)) u := by
    intro n
    induction n with
    | zero => intro i a u h; exact absurd h (Nat.not_lt_zero _)
    | succ n ih =>
      intro i a u hm hi hJ
      rcases Nat.lt_or_ge i e with q | q
      · exact hs _ i a u q hJ (fun a' u' hJ' => ih (i + 1) a' u' (by omega) q hJ')
      · have e1 : i = e := by omega
        subst e1
        exact hx _ a u hJ
  exact ⟨e + 1, key _ 0 a u (by omega) (Nat.zero_le _) h0⟩
def passK : Nat → Mt → Mt
  | 0, m => m
  | k + 1, m => passF (passK k m)
theorem passK_ok {n t k : Nat} {m : Mt} (h : mOk n t m) : mOk n (t + k) (passK k m) := by
  induction k with
  | zero => exact h
  | succ k ih => exact passF_ok ih
theorem passK_S (k : Nat) (m : Mt) : mS (passK k m) = mS m + k := by
  induction k with
  | zero => rfl
  | succ k ih => show mS (passK k m) + 1 = _; rw [ih]; rfl
theorem passK_P (k : Nat) (m : Mt) : mP (passK k m) = mP m := by
  induction k with
  | zero => rfl
  | succ k ih => exact ih
theorem Now.mk {b : Bd} {m : Mt} {nd k : Nat} {u : St} (h : Now b m nd u) (hk : k ≤ 60) : mtOk (passK k m) := mOk_mt (passK_ok h.2.2.2.1) h.1.1 (by omega)
theorem s_copyM {m : Mt} {u : St} {Q : St → Prop} (hM : MX 20 m u) (h : ∀ v, MX 22 m v → Same (momO 22) u v → Q v) : wp_X1_copyFrom 22 20 u Q := by
  unfold wp_X1_copyFrom
  simp only [nxt, wp_X1_copyFrom_L26]
  rw [gi_nk (show (20 : Nat) ≠ 22 by decide), gi_nk (show (20 : Nat) ≠ 22 by decide), gi_nk (show (20 : Nat) ≠ 22 by decide)]
  refine lc1 7 (fun k w => Same (momO 22) u w ∧ gi w 22 1 = nI (mS m) ∧ gi w 22 2 = nI (mP m) ∧ gi w 22 3 = nI (mC m) ∧ ∀ i, i < k → gi w 23 i = nI (mH m i)) ⟨((Same.rfl'.si (by unfold momO; omega)).si (by unfold momO; omega)).si (by unfold momO; omega), ?_, ?_, ?_, fun i hi => absurd hi (by omega)⟩ ?_ ?_
  · rw [gi_ni (by decide), gi_ni (by decide), gi_same]; exact hM.1
  · rw [gi_ni (by decide), gi_same]; exact hM.2.1
  · rw [gi_same]; exact hM.2.2.1
  · rintro K k w hk ⟨hs, h1, h2, h3, hr⟩ hK
    have v7 : vp_in (nI k) 7 := vp_in_nI (by omega) (by omega)
    unfold wp_X1_copyFrom_B26
    simp only [nxt]
    rw [tNn (by omega), nI_1]
    refine ⟨fun c => absurd c (nI_ge (b := 7) hk (by decide)), fun _ => ⟨v7, v7, hK _ ⟨hs.si (by unfold momO; omega), by rw [gi_nk (by decide)]; exact h1, by rw [gi_nk (by decide)]; exact h2, by rw [gi_nk (by decide)]; exact h3, fun i hi => ?_⟩⟩⟩
    by_cases e : i = k
    · subst e
      rw [gi_same, hs.1 _ _ (by unfold momO; omega)]
      exact hM.2.2.2 i hk
    · rw [gi_ni e]; exact hr i (by omega)
  · rintro K w ⟨hs, h1, h2, h3, hr⟩
    unfold wp_X1_copyFrom_B26
    exact ⟨fun _ => h w ⟨h1, h2, h3, hr⟩ hs, fun c => absurd (Int32.le_refl _) c⟩
theorem sx_M {u v : St} (h : Same (momO 22) u v) : SX u v := h.weak (fun k hk => by unfold momO; omega)
theorem cond_h {k d h sc : Nat} {p : Bool} (hk : k = 2 ∨ k = 5) : condF k d h sc p = condF k d 0 sc p := by
  rcases hk with rfl | rfl <;> rfl
theorem s_plain {b : Bd} {m : Mt} {nd i : Nat} {u : St} {Q : Int32 → St → Prop} (hN : Now b m nd u) (hi : i < bN b) (h : ∀ v, SX u v → Q (nI (popc (toldF (trnF b i 0) m (mP m)))) v) : wp_X4_toldWerePlain (nI i) u Q := by
  have tok := trn_ok (i := i) hN.1 (show 0 < 6 by decide)
  have tl := toldF_lt7 tok m (mP m)
  unfold wp_X4_toldWerePlain
  refine s_copyL hN.1 hN.lx (fun w1 hl1 hs1 => s_turn (k := 0) hN.1 hl1 hi (fun w2 hl2 hs2 => ?_))
  have hs3 := (sx_L hs1).trans (sx_L hs2)
  refine s_X3_attach (Or.inr rfl) (Or.inl rfl) hl2 (hN.sx hs3).mx tok hN.mt (fun v hw hs => ?_)
  rw [((hN.sx hs3).sx (sx_W hs)).mx.2.1]
  exact s_X3_toldOf tok hN.mt.2.2.1 hw (fun w' ht => s_bitCount (by omega) (h _ ((hs3.trans (sx_W hs)).trans (sx_T ht))))
def scnF (k d t : Nat) : Nat := sumN (fun s => (condF k d 0 (t + s) true).toNat) 0 8
theorem s_scans {b : Bd} {m : Mt} {nd i k : Nat} {u : St} {Q : Int32 → St → Prop} (hN : Now b m nd u) (hi : i < bN b) (hk : k = 2 ∨ k = 5) (h : ∀ v, SX u v → Q (nI (scnF k (bD b i) (mS m))) v) : wp_X4_scansConducting (nI i) (nI k) u Q := by
  have hn := hN.1.1
  have tok := trn_ok (i := i) hN.1 (show k < 6 by omega)
  unfold wp_X4_scansConducting
  refine s_copyL hN.1 hN.lx (fun w1 hl1 hs1 => s_turn (k := k) hN.1 hl1 hi (fun w2 hl2 hs2 => ?_))
  have hs3 := (sx_L hs1).trans (sx_L hs2)
  refine s_copyM (hN.sx hs3).mx (fun w3 hm3 hs4 => ?_)
  have hl3 : LX 15 (trnF b i k) w3 := hl2.same hs4 (fun j hj => by unfold momO; omega)
  simp only [wp_X4_scansConducting_L36]
  refine lc2 8 (fun j x w => x = nI (sumN (fun s => (condF k (bD b i) 0 (mS m + s) true).toNat) 0 j) ∧ SX u w ∧ LX 15 (trnF b i k) w ∧ MX 22 (passK j m) w) ⟨rfl, hs3.trans (sx_M hs4), hl3, hm3⟩ ?_ ?_
  · rintro K j x w hj ⟨rfl, hx, hl, hm⟩ hK
    have e2 := sumN_s (fun s => (condF k (bD b i) 0 (mS m + s) true).toNat) 0 j
    rw [Nat.zero_add] at e2
    have mk := hN.mk (k := j) (by omega)
    have p2 : 2 ^ i ≤ 2 ^ 6 := Nat.pow_le_pow_right (by decide) (by omega)
    unfold wp_X4_scansConducting_B36 wp_X4_scansConducting_J64
    rw [nI_1, nI_1, nI_one (by omega)]
    refine ⟨fun c => absurd c (nI_ge (b := 8) hj (by decide)), fun _ => s_X0_conducts (b := trnF b i k) hl hm tok mk (by omega) hi ?_⟩
    have ec : condF (bK (trnF b i k) i) (bD (trnF b i k) i) (mH (passK j m) i) (mS (passK j m)) ((2 ^ i).testBit i) = condF k (bD b i) 0 (mS m + j) true := by
      rw [passK_S, bit_pow, decide_eq_true rfl, show bK (trnF b i k) i = k from if_pos rfl, cond_h hk]; rfl
    rw [ec]
    have fin : ∀ y, y = nI (sumN (fun s => (condF k (bD b i) 0 (mS m + s) true).toNat) 0 (j + 1)) → wp_X1_passScan 22 w (fun u7 => K y (nI (j + 1)) u7) := fun y hy => s_passScan (Or.inr rfl) mk hm (fun v hm2 hs5 => hK _ _ ⟨hy, hx.trans (sx_M hs5), hl.same hs5 (fun j hj => by unfold momO; omega), hm2⟩)
    cases ev : condF k (bD b i) 0 (mS m + j) true with
    | false =>
      refine ⟨fun _ => fin _ ?_, fun q => absurd rfl q⟩
      rw [e2, ev]; rfl
    | true =>
      refine ⟨fun q => absurd q (by decide), fun _ => fin _ ?_⟩
      rw [e2, ev]; rfl
  · rintro K x w ⟨rfl, hx, hl, hm⟩
    unfold wp_X4_scansConducting_B36
    exact ⟨fun _ => h w hx, fun c => absurd (Int32.le_refl _) c⟩
theorem add_sub3 (a x y : Int32) : (a + x) - y = a + (x - y) := by rw [Int32.sub_eq_add_neg, Int32.sub_eq_add_neg, Int32.add_assoc]
/-- the reference, for kinds that are told by how many are told -/
theorem s_plainM {b : Bd} {m : Mt} {nd i : Nat} {p : Int32} {u : St} {Q : Int32 → St → Prop} (hN : Now b m nd u) (hi : i < bN b) (h1 : p = 1 → ∀ v, SM u v → Q (10 + nI (popc (toldF (trnF b i 0) m (mP m))) - nI (popc (toldF b m (mP m)))) v) (h3 : ¬ p = 1 → ∀ v, SM u v → Q (10 + nI (popc (toldF b m (mP m))) - nI (popc (toldF (trnF b i 0) m (mP m)))) v) : wp_X5_mark_J75 (nI i) p Q u := by
  have hn := hN.1.1
  have tok := trn_ok (i := i) hN.1 (show 0 < 6 by decide)
  have tl := toldF_lt7 tok m (mP m)
  have tl0 := toldF_lt7 hN.1 m (mP m)
  unfold wp_X5_mark_J75
  refine hN.toldM (fun v hv hT => s_bitsOf (by omega) ⟨vp_in_nI (by omega) (by decide), ?_⟩)
  simp only [nxt]
  rw [tNn (by omega)]
  refine s_X5_toldBy tok hN.mt hN.mt.2.2.1 (hT.turn (i := i) (k := 0)) (fun w ht => s_bitsOf (by omega) ?_)
  have hs : SM u w := (hv.wr (k := 54) (by omega)).trans (ht.weak (fun k hk => by omega))
  rw [← add_sub3, ← add_sub3]
  exact ⟨fun c => h3 c w hs, fun c => h1 c w hs⟩
theorem sumN_sub {f g : Nat → Nat} (h : ∀ s, g s ≤ f s) (a j : Nat) : sumN (fun s => f s - g s) a j + sumN g a j = sumN f a j := by
  induction j generalizing a with
  | zero => rfl
  | succ j ih =>
    have h1 := ih (a + 1)
    have h2 := h a
    show (f a - g a + sumN (fun s => f s - g s) (a + 1) j) + (g a + sumN g (a + 1) j) = f a + sumN f (a + 1) j
    omega
theorem sub_nI {a b c : Nat} (h : a + b = c) : nI c - nI b = nI a := by
  rw [← h, ← nI_add, Int32.add_sub_cancel]
theorem cond25 (d sc : Nat) : (condF 5 d 0 sc true).toNat ≤ (condF 2 d 0 sc true).toNat := by
  unfold condF
  by_cases h : sc % 2 = 0 <;> by_cases h2 : sc % (d + 1) = 0 <;> simp [h, h2]
theorem s_scansM {b : Bd} {m : Mt} {nd i o : Nat} {u : St} {Q : Int32 → St → Prop} (hN : Now b m nd u) (hi : i < bN b) (ho : (o = 2 ∧ (bK b i = 2 ∨ bK b i = 5)) ∨ (o = 5 ∧ bK b i = 5)) (h : Q (if o = 2 then nI (scnF (bK b i) (bD b i) (mS m)) else nI (scnF 2 (bD b i) (mS m)) - nI (scnF 5 (bD b i) (mS m))) u) : wp_X5_now 1 u (fun r u1 => ∃ n, wp_X5_mark_L158 (nI i) (nI o) Q n 0 r u1) := by
  have hn := hN.1.1
  have hsc := hN.2.2.2.1.1
  obtain ⟨k1, k2, k3, k4⟩ := hN.1.2 i hi
  obtain ⟨e1, e2, e3, e4⟩ := hN.bm.2 i hi
  have v14 : vp_in (nI i) 14 := vp_in_nI (by omega) (by decide)
  refine hN.nowM (j := 1) (by decide) ?_
  simp only [wp_X5_mark_L158]
  let g : Nat → Nat := fun s => if o = 2 then (condF (bK b i) (bD b i) 0 (mS m + s) true).toNat else (condF 2 (bD b i) 0 (mS m + s) true).toNat - (condF 5 (bD b i) 0 (mS m + s) true).toNat
  refine lcs2 (mS m) 8 (fun j x w => w = u ∧ x = nI (sumN g 0 j)) ⟨rfl, rfl⟩ ?_ ?_
  · rintro K j x w hj ⟨rfl, rfl⟩ hK
    have es := sumN_s g 0 j
    rw [Nat.zero_add] at es
    unfold wp_X5_mark_B158 wp_X5_mark_J230 wp_X5_mark_J231
    refine hN.nowM (j := 1) (by decide) ?_
    rw [show nI (mtv m 1) + (8 : Int32) = nI (mS m + 8) from nI_add _ 8, tNn (by omega), e1, e4, nI_1]
    refine ⟨fun c => absurd c (nI_ge (by omega) (by omega)), fun _ => ⟨v14, v14, s_X5_doesBy k1 k4 (Nat.zero_le _) (by omega) (by omega) ?_⟩⟩
    have fin : ∀ x y, x + y = sumN g 0 (j + 1) → K (nI x + nI y) (nI (mS m + j + 1)) w := fun x y hy => hK _ _ ⟨rfl, by rw [← hy, nI_add]⟩
    rcases ho with ⟨rfl, hk⟩ | ⟨rfl, hk⟩
    · have eg : g j = (condF (bK b i) (bD b i) 0 (mS m + j) true).toNat := if_pos rfl
      refine ⟨fun q => absurd rfl q, fun _ => ?_⟩
      rw [eg] at es
      cases ev : condF (bK b i) (bD b i) 0 (mS m + j) true with
      | false => exact ⟨fun _ => fin _ 0 (by rw [es, ev]; rfl), fun q => absurd rfl q⟩
      | true => exact ⟨fun q => absurd q (by decide), fun _ => fin _ 1 (by rw [es, ev]; rfl)⟩
    · have eg : g j = (condF 2 (bD b i) 0 (mS m + j) true).toNat - (condF 5 (bD b i) 0 (mS m + j) true).toNat := if_neg (by decide)
      rw [eg] at es
      rw [hk]
      refine ⟨fun _ => s_X5_doesBy (k := 2) (d := 0) (by decide) (by decide) (Nat.zero_le _) (by omega) (by decide) ?_, fun q => absurd q (by decide)⟩
      have e20 : condF 2 0 0 (mS m + j) true = condF 2 (bD b i) 0 (mS m + j) true := rfl
      rw [e20]
      cases ev : condF 2 (bD b i) 0 (mS m + j) true with
      | false => exact ⟨fun _ => fin _ 0 (by rw [es, ev]; show _ = _ + (0 - _); omega), fun q => absurd rfl q⟩
      | true =>
        refine ⟨fun q => absurd q (by decide), fun _ => ?_⟩
        cases ev5 : condF 5 (bD b i) 0 (mS m + j) true with
        | false => exact ⟨fun q => absurd rfl q, fun _ => fin _ 1 (by rw [es, ev, ev5]; rfl)⟩
        | true => exact ⟨fun _ => fin _ 0 (by rw [es, ev, ev5]; rfl), fun q => absurd q (by decide)⟩
  · rintro K x w ⟨rfl, rfl⟩
    unfold wp_X5_mark_B158
    refine hN.nowM (j := 1) (by decide) ?_
    rw [show nI (mtv m 1) + (8 : Int32) = nI (mS m + 8) from nI_add _ 8]
    refine ⟨fun _ => ?_, fun c => absurd (Int32.le_refl _) c⟩
    rcases ho with ⟨rfl, hk⟩ | ⟨rfl, hk⟩
    · rw [if_pos rfl] at h
      exact h
    · rw [if_neg (by decide)] at h
      have := sumN_sub (f := fun s => (condF 2 (bD b i) 0 (mS m + s) true).toNat) (g := fun s => (condF 5 (bD b i) 0 (mS m + s) true).toNat) (fun s => cond25 _ _) 0 8
      rw [sub_nI (a := sumN g 0 8) (b := scnF 5 (bD b i) (mS m)) (c := scnF 2 (bD b i) (mS m)) this] at h
      exact h
