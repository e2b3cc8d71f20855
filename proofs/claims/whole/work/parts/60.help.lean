/-! PURE: small helpers of both sides -/
theorem w_bad {p0 p1 : Int32} {u : St} {Q : Int32 → St → Prop} (hb : p0 < 0 ∨ p1 ≤ p0) (h : Q 0 u) : wp_X4_within p0 p1 u Q := by
  unfold wp_X4_within
  exact ⟨fun _ => h, fun c => ⟨fun _ => h, fun c2 => absurd hb (fun q => q.elim c c2)⟩⟩
theorem w_ok {j P : Nat} {u : St} {Q : Int32 → St → Prop} (hj : j < P) (hP : P < 2 ^ 31) (h : Q 1 u) : wp_X4_within (nI j) (nI P) u Q := by
  unfold wp_X4_within
  exact ⟨fun c => absurd c (nI_pos (by omega)), fun _ => ⟨fun c => absurd c (nI_ge hj hP), fun _ => h⟩⟩
theorem in_bad {p0 p2 : Int32} {P : Nat} {u : St} {Q : Int32 → St → Prop} (hP0 : 0 < P) (hP : P < 2 ^ 31) (e : p2 = nI (P - 1)) (hb : p0 < 0 ∨ nI P ≤ p0) (h : Q 0 u) : wp_X5_in p0 0 p2 u Q := by
  subst e
  unfold wp_X5_in
  refine ⟨fun _ => h, fun c => ⟨fun _ => h, fun c2 => absurd hb (fun q => q.elim c (fun z => ?_))⟩⟩
  apply c2
  rw [Int32.lt_iff_toInt_lt, nI_toInt (by omega)]
  rw [Int32.le_iff_toInt_le, nI_toInt (by omega)] at z
  omega
theorem in_ok {j P : Nat} {p2 : Int32} {u : St} {Q : Int32 → St → Prop} (hj : j < P) (hP : P < 2 ^ 31) (e : p2 = nI (P - 1)) (h : Q 1 u) : wp_X5_in (nI j) 0 p2 u Q := by
  subst e
  unfold wp_X5_in
  exact ⟨fun c => absurd c (nI_pos (by omega)), fun _ => ⟨fun c => absurd ((nI_ltI (by omega) (by omega)).mp c) (by omega), fun _ => h⟩⟩
theorem in_zero {p0 : Int32} {u : St} {Q : Int32 → St → Prop} (h : Q 0 u) : wp_X5_in p0 0 (-1) u Q := by
  unfold wp_X5_in
  refine ⟨fun _ => h, fun c => ⟨fun _ => h, fun c2 => absurd ?_ c2⟩⟩
  rw [Int32.lt_iff_toInt_lt] at c ⊢
  have : (-1 : Int32).toInt = -1 := by decide
  have h0 : (0 : Int32).toInt = 0 := by decide
  omega
theorem nar0 : narrow .boolean (.int 0) = .int 0 := rfl
theorem nar1 : narrow .boolean (.int 1) = .int 1 := rfl
theorem row_bad {p0 : Int32} {u : St} {Q : Int32 → St → Prop} (hb : p0 < 0 ∨ nI 6 ≤ p0) (h : Q 0 u) : wp_X5_isRow p0 u Q := by
  unfold wp_X5_isRow
  exact in_bad (P := 6) (by decide) (by decide) rfl hb ⟨nar0, h⟩
theorem row_ok {j : Nat} {u : St} {Q : Int32 → St → Prop} (hj : j < 6) (h : Q 1 u) : wp_X5_isRow (nI j) u Q := by
  unfold wp_X5_isRow
  exact in_ok (P := 6) hj (by decide) rfl ⟨nar1, h⟩
theorem text_bad {p0 : Int32} {u : St} {Q : Int32 → St → Prop} (hb : p0 < 0 ∨ nI 4 ≤ p0) (h : Q 0 u) : wp_X5_isText p0 u Q := by
  unfold wp_X5_isText
  exact in_bad (P := 4) (by decide) (by decide) rfl hb ⟨nar0, h⟩
theorem text_ok {j : Nat} {u : St} {Q : Int32 → St → Prop} (hj : j < 4) (h : Q 1 u) : wp_X5_isText (nI j) u Q := by
  unfold wp_X5_isText
  exact in_ok (P := 4) hj (by decide) rfl ⟨nar1, h⟩
theorem line_bad {p0 : Int32} {u : St} {Q : Int32 → St → Prop} (hb : p0 < 0 ∨ nI 4 ≤ p0) (h : Q 0 u) : wp_X5_isLine p0 u Q := by
  unfold wp_X5_isLine
  exact in_bad (P := 4) (by decide) (by decide) rfl hb ⟨nar0, h⟩
theorem line_ok {j : Nat} {u : St} {Q : Int32 → St → Prop} (hj : j < 4) (h : Q 1 u) : wp_X5_isLine (nI j) u Q := by
  unfold wp_X5_isLine
  exact in_ok (P := 4) hj (by decide) rfl ⟨nar1, h⟩
/-! shelves -/
/-- a shelf of P rows of w places at most -/
def Sh (b P w : Nat) (u : St) : Prop := gi u b 0 = nI P ∧ gi u b 1 = nI w ∧ P ≤ shS b ∧ P * w ≤ shC b ∧ 0 < P ∧ P ≤ 6 ∧ w ≤ 60
theorem Sh1 {u : St} (h : iC u) : Sh 1 6 40 u := ⟨h.1, h.2.1, by decide, by decide, by decide, by decide, by decide⟩
theorem Sh4 {u : St} (h : iC u) : Sh 4 4 60 u := ⟨h.2.2.1, h.2.2.2.1, by decide, by decide, by decide, by decide, by decide⟩
theorem Sh7 {u : St} (h : iC u) : Sh 7 4 40 u := ⟨h.2.2.2.2.1, h.2.2.2.2.2, by decide, by decide, by decide, by decide, by decide⟩
theorem Sh.keep {b P w : Nat} {u v : St} (h : Sh b P w u) (h0 : gi v b 0 = gi u b 0) (h1 : gi v b 1 = gi u b 1) : Sh b P w v := ⟨h0.trans h.1, h1.trans h.2.1, h.2.2⟩
theorem shS_le (b : Nat) : shS b ≤ 6 := by unfold shS; split <;> decide
theorem shC_le (b : Nat) : shC b ≤ 240 := by unfold shC; split <;> decide
theorem size_ok {b P w j : Nat} {u : St} {Q : Int32 → St → Prop} (hs : Sh b P w u) (hj : j < P) (h : Q (gi u (b + 1) j) u) : wp_X2_size b (nI j) u Q := by
  obtain ⟨h0, h1, h2, h3, h4, h5, h6⟩ := hs
  have b1 := shS_le b
  have b2 := shC_le b
  unfold wp_X2_size
  rw [h0]
  refine w_ok hj (by omega) ⟨fun c => absurd c (by decide), fun _ => ⟨vp_in_nI (by omega) (by omega), ?_⟩⟩
  rw [tNn (by omega)]
  exact h
theorem size_bad {b P w : Nat} {p : Int32} {u : St} {Q : Int32 → St → Prop} (hs : Sh b P w u) (hb : p < 0 ∨ nI P ≤ p) (h : Q (-1) u) : wp_X2_size b p u Q := by
  unfold wp_X2_size
  rw [hs.1]
  exact w_bad hb ⟨fun _ => h, fun c => absurd rfl c⟩
theorem nI_ne_m1 {n : Nat} (h : n < 2 ^ 31) : ¬ nI n = (-1 : Int32) := by
  intro e
  have := congrArg Int32.toInt e
  rw [nI_toInt h] at this
  have h1 : (-1 : Int32).toInt = -1 := by decide
  omega
theorem has_no {b P w j : Nat} {u : St} {Q : Int32 → St → Prop} (hs : Sh b P w u) (hj : j < P) (hm : gi u (b + 1) j = -1) (h : Q 0 u) : wp_X2_has b (nI j) u Q := by
  unfold wp_X2_has
  exact size_ok hs hj ⟨fun _ => h, fun c => absurd hm c⟩
theorem has_yes {b P w j n : Nat} {u : St} {Q : Int32 → St → Prop} (hs : Sh b P w u) (hj : j < P) (hn : n ≤ w) (hm : gi u (b + 1) j = nI n) (h : Q 1 u) : wp_X2_has b (nI j) u Q := by
  have := hs.2.2.2.2.2.2
  unfold wp_X2_has
  exact size_ok hs hj ⟨fun c => absurd (hm.symm.trans c) (nI_ne_m1 (by omega)), fun _ => h⟩
theorem get_ok {b P w j n i : Nat} {u : St} {Q : Int32 → St → Prop} (hs : Sh b P w u) (hj : j < P) (hn : n ≤ w) (hm : gi u (b + 1) j = nI n) (hi : i < n) (h : Q (gi u (b + 2) (w * j + i)) u) : wp_X2_get b (nI j) (nI i) u Q := by
  obtain ⟨h0, h1, h2, h3, h4, h5, h6⟩ := id hs
  have b1 := shS_le b
  have b2 := shC_le b
  unfold wp_X2_get
  refine size_ok hs hj ?_
  rw [hm]
  refine w_ok hi (by omega) ⟨fun c => absurd c (by decide), fun _ => ?_⟩
  rw [h1, pk_mul, nI_add]
  have hjw : j * w + w ≤ P * w := by
    have := Nat.mul_le_mul_right w (show j + 1 ≤ P by omega)
    rw [Nat.add_mul] at this
    omega
  have hPw : P * w ≤ 6 * 60 := Nat.mul_le_mul h5 h6
  refine ⟨vp_in_nI (by omega) (by omega), ?_⟩
  rw [tNn (by omega), Nat.mul_comm j w]
  exact h
theorem set_ok {b P w j n i : Nat} {x : Int32} {u : St} {Q : St → Prop} (hs : Sh b P w u) (hj : j < P) (hn : n ≤ w) (hm : gi u (b + 1) j = nI n) (hi : i < n) (h : Q (si u (b + 2) (w * j + i) x)) : wp_X2_set b (nI j) (nI i) x u Q := by
  obtain ⟨h0, h1, h2, h3, h4, h5, h6⟩ := id hs
  have b1 := shS_le b
  have b2 := shC_le b
  unfold wp_X2_set
  refine size_ok hs hj ?_
  rw [hm]
  refine w_ok hi (by omega) ⟨fun c => absurd c (by decide), fun _ => ?_⟩
  rw [h1, pk_mul, nI_add]
  have hjw : j * w + w ≤ P * w := by
    have := Nat.mul_le_mul_right w (show j + 1 ≤ P by omega)
    rw [Nat.add_mul] at this
    omega
  have hPw : P * w ≤ 6 * 60 := Nat.mul_le_mul h5 h6
  refine ⟨vp_in_nI (by omega) (by omega), ?_⟩
  rw [tNn (by omega), Nat.mul_comm j w]
  exact h
/-- one place and one stretch may have changed -/
def Chg (k1 i1 k2 lo hi : Nat) (u v : St) : Prop := (∀ k i, ¬ (k = k1 ∧ i = i1) → ¬ (k = k2 ∧ lo ≤ i ∧ i < hi) → gi v k i = gi u k i) ∧ ∀ k i, gl v k i = gl u k i
theorem make_ok {b P w j n : Nat} {x : Int32} {u : St} {Q : St → Prop} (hs : Sh b P w u) (hj : j < P) (hn : n ≤ w) (h : ∀ v, Chg (b + 1) j (b + 2) (w * j) (w * j + n) u v → gi v (b + 1) j = nI n → (∀ i, i < n → gi v (b + 2) (w * j + i) = x) → Q v) : wp_X2_make b (nI j) (nI n) x u Q := by
  obtain ⟨h0, h1, h2, h3, h4, h5, h6⟩ := id hs
  have b1 := shS_le b
  have b2 := shC_le b
  unfold wp_X2_make
  rw [h0]
  refine w_ok hj (by omega) ⟨fun c => absurd c (by decide), fun _ => ⟨fun c => absurd c (nI_pos (by omega)), fun _ => ⟨fun c => ?_, fun _ => ⟨vp_in_nI (by omega) (by omega), ?_⟩⟩⟩⟩
  · rw [h1] at c
    exact absurd ((nI_ltI (by omega) (by omega)).mp c) (by omega)
  · simp only [nxt, wp_X2_make_L33]
    rw [tNn (by omega)]
    have hjw : j * w + w ≤ P * w := by
      have := Nat.mul_le_mul_right w (show j + 1 ≤ P by omega)
      rw [Nat.add_mul] at this
      omega
    have hPw : P * w ≤ 6 * 60 := Nat.mul_le_mul h5 h6
    have hwj : j * w = w * j := Nat.mul_comm j w
    refine lc1 n (fun i v => Chg (b + 1) j (b + 2) (w * j) (w * j + i) u v ∧ gi v (b + 1) j = nI n ∧ ∀ k, k < i → gi v (b + 2) (w * j + k) = x) ⟨⟨fun k i a1 _ => ?_, fun k i => gl_si⟩, gi_same, fun k hk => absurd hk (by omega)⟩ ?_ ?_
    · rw [gi_if, if_neg a1]
    · rintro K i v hi ⟨hc, hz, hx⟩ hK
      have e1 : gi v b 1 = nI w := (hc.1 b 1 (by omega) (by omega)).trans h1
      unfold wp_X2_make_B33
      simp only [nxt]
      rw [e1, pk_mul, nI_add, tNn (by omega), nI_1]
      refine ⟨fun c => absurd c (nI_ge hi (by omega)), fun _ => ⟨vp_in_nI (by omega) (by omega), hK _ ⟨⟨fun k q a1 a2 => ?_, fun k q => gl_si.trans (hc.2 k q)⟩, ?_, fun k hk => ?_⟩⟩⟩
      · rw [gi_if, if_neg (by omega)]
        exact hc.1 k q a1 (by omega)
      · rw [gi_nk (by omega)]; exact hz
      · rw [gi_if]
        by_cases e : k = i
        · subst e
          rw [if_pos (by omega)]
        · rw [if_neg (by omega)]
          exact hx k (by omega)
    · rintro K v ⟨hc, hz, hx⟩
      unfold wp_X2_make_B33
      exact ⟨fun _ => h v hc hz hx, fun c => absurd (Int32.le_refl _) c⟩
/-! findings -/
def fX (f : Nat) (u : St) : St := si (si u 0 11 (nI f)) 38 f (gi (si u 0 11 (nI f)) 38 f + 1)
def fM (f : Nat) (u : St) : St := si (si u 39 0 (nI f)) 40 f (gi (si u 39 0 (nI f)) 40 f + 1)
theorem found_ok {f : Nat} {u : St} {Q : Int32 → St → Prop} (hf : f < 6) (h : Q (-3) (fX f u)) : wp_X4_found (nI f) u Q := by
  unfold wp_X4_found
  simp only [nxt]
  refine w_ok (P := 6) hf (by decide) ⟨fun c => absurd c (by decide), fun _ => ⟨vp_in_nI hf (by decide), vp_in_nI hf (by decide), ?_⟩⟩
  rw [tNn (by omega)]
  exact h
theorem find_ok {f : Nat} {u : St} {Q : Int32 → St → Prop} (hf : f < 6) (h : Q (-3) (fM f u)) : wp_X5_find (nI f) u Q := by
  unfold wp_X5_find
  simp only [nxt]
  refine ⟨vp_in_nI hf (by decide), vp_in_nI hf (by decide), ?_⟩
  rw [tNn (by omega)]
  exact h
theorem core.frm2 {u v : St} (h : core u) (s : Same (fun k => pers k ∧ k ≠ 38 ∧ k ≠ 40) u v) (h10 : gi v 39 10 = gi u 39 10) (h16 : gi v 39 16 = gi u 39 16) (hF : iF v) : core v := by
  obtain ⟨c1, c2, c3, ⟨c4, c5⟩, b, c6, ⟨ds, nd, c7⟩, c8⟩ := h
  have p : ∀ k, (1 ≤ k ∧ k ≤ 14) ∨ k = 20 ∨ k = 21 ∨ (41 ≤ k ∧ k ≤ 44) ∨ (46 ≤ k ∧ k ≤ 52) → pers k ∧ k ≠ 38 ∧ k ≠ 40 := fun k h => ⟨by unfold pers; omega, by omega, by omega⟩
  refine ⟨c1.same s (p _ (by omega)) (p _ (by omega)) (p _ (by omega)), c2.same s (p _ (by omega)) (p _ (by omega)) (p _ (by omega)) (p _ (by omega)), c3.same s (p _ (by omega)) (p _ (by omega)) (p _ (by omega)) (p _ (by omega)), hF, b, c6.same s h10 ⟨p _ (by omega), p _ (by omega), p _ (by omega), p _ (by omega)⟩ (fun j hj => p _ (by omega)), ⟨ds, nd, c7.same s h16 ⟨p _ (by omega), p _ (by omega), p _ (by omega), p _ (by omega), p _ (by omega)⟩⟩, c8.same s ⟨p _ (by omega), p _ (by omega), p _ (by omega), p _ (by omega)⟩⟩
theorem inv_found {f : Nat} {u : St} (hf : f < 6) (h : Inv u) : Inv (fM f (fX f u)) := by
  obtain ⟨hc, h1, h2, h3⟩ := h
  have hF := hc.2.2.2.1
  have rd : ∀ k i, k ≠ 38 → k ≠ 40 → ¬ (k = 0 ∧ i = 11) → ¬ (k = 39 ∧ i = 0) → gi (fM f (fX f u)) k i = gi u k i := by
    intro k i a1 a2 a3 a4
    unfold fM fX
    rw [gi_if, if_neg (by omega), gi_if, if_neg (by omega), gi_if, if_neg (by omega), gi_if, if_neg (by omega)]
  refine ⟨hc.frm2 ⟨fun k i hk => rd k i hk.2.1 hk.2.2 (by have := hk.1; unfold pers at this; omega) (by have := hk.1; unfold pers at this; omega), fun k i _ => rfl⟩ (rd _ _ (by decide) (by decide) (by decide) (by decide)) (rd _ _ (by decide) (by decide) (by decide) (by decide)) ⟨?_, fun q hq => ?_⟩, ?_, h2, h3⟩
  · unfold fM fX
    rw [gi_nk (by decide), gi_same, gi_nk (by decide), gi_nk (by decide), gi_nk (by decide), gi_same]
  · unfold fM fX
    by_cases e : q = f
    · subst e
      rw [gi_same, gi_nk (by decide), gi_nk (by decide), gi_nk (by decide), gi_nk (show (38 : Nat) ≠ 40 by decide), gi_nk (show (38 : Nat) ≠ 39 by decide), gi_same, gi_nk (by decide), hF.2 q hq]
    · rw [gi_ni e, gi_nk (by decide), gi_nk (by decide), gi_nk (by decide), gi_nk (show (38 : Nat) ≠ 40 by decide), gi_nk (show (38 : Nat) ≠ 39 by decide), gi_ni e, gi_nk (by decide)]
      exact hF.2 q hq
  · rw [rd _ _ (by decide) (by decide) (by decide) (by decide), rd _ _ (by decide) (by decide) (by decide) (by decide)]
    exact h1
/-! only rows, or texts, and the answer -/
theorem Inv.rows {u v : St} (h : Inv u) (s : Same (fun k => k ≠ 2 ∧ k ≠ 3 ∧ k ≠ 41 ∧ k ≠ 42 ∧ k ≠ 0 ∧ k ≠ 39) u v) (f : gi v 0 11 = gi u 0 11 ∧ gi v 39 0 = gi u 39 0 ∧ gi v 39 10 = gi u 39 10 ∧ gi v 39 16 = gi u 39 16) (ha : gi v 39 2 = gi v 0 12) (h3 : gl v 39 3 = gl v 0 13) (h4 : gl v 39 4 = gl v 0 14) (hR : ShR 2 3 41 42 40 6 v) : Inv v := by
  obtain ⟨⟨c1, c2, c3, ⟨c4, c5⟩, b, c6, ⟨ds, nd, c7⟩, c8⟩, -⟩ := h
  have p : ∀ k, k ≠ 2 → k ≠ 3 → k ≠ 41 → k ≠ 42 → k ≠ 0 → k ≠ 39 → (k ≠ 2 ∧ k ≠ 3 ∧ k ≠ 41 ∧ k ≠ 42 ∧ k ≠ 0 ∧ k ≠ 39) := fun k a b c d e f => ⟨a, b, c, d, e, f⟩
  exact ⟨⟨c1.same s (by decide) (by decide) (by decide), hR, c3.same s (by decide) (by decide) (by decide) (by decide), ⟨f.2.1.trans (c4.trans f.1.symm), fun i hi => (s.1 _ _ (by decide)).trans ((c5 i hi).trans (s.1 _ _ (by decide)).symm)⟩, b, c6.same s f.2.2.1 (by decide) (fun j hj => p _ (by omega) (by omega) (by omega) (by omega) (by omega) (by omega)), ⟨ds, nd, c7.same s f.2.2.2 (by decide)⟩, c8.same s (by decide)⟩, ha, h3, h4⟩
theorem Inv.texts {u v : St} (h : Inv u) (s : Same (fun k => k ≠ 5 ∧ k ≠ 6 ∧ k ≠ 43 ∧ k ≠ 44) u v) (hR : ShR 5 6 43 44 60 4 v) : Inv v := by
  obtain ⟨⟨c1, c2, c3, ⟨c4, c5⟩, b, c6, ⟨ds, nd, c7⟩, c8⟩, h2, h3, h4⟩ := h
  have p : ∀ k, k ≠ 5 → k ≠ 6 → k ≠ 43 → k ≠ 44 → (k ≠ 5 ∧ k ≠ 6 ∧ k ≠ 43 ∧ k ≠ 44) := fun k a b c d => ⟨a, b, c, d⟩
  refine ⟨⟨c1.same s (by decide) (by decide) (by decide), c2.same s (by decide) (by decide) (by decide) (by decide), hR, ⟨(s.1 _ _ (by decide)).trans (c4.trans (s.1 _ _ (by decide)).symm), fun i hi => (s.1 _ _ (by decide)).trans ((c5 i hi).trans (s.1 _ _ (by decide)).symm)⟩, b, c6.same s (s.1 _ _ (by decide)) (by decide) (fun j hj => p _ (by omega) (by omega) (by omega) (by omega)), ⟨ds, nd, c7.same s (s.1 _ _ (by decide)) (by decide)⟩, c8.same s (by decide)⟩, ?_, ?_, ?_⟩
  · rw [s.1 _ _ (by decide), s.1 _ _ (by decide)]; exact h2
  · rw [s.2 _ _ (by decide), s.2 _ _ (by decide)]; exact h3
  · rw [s.2 _ _ (by decide), s.2 _ _ (by decide)]; exact h4
