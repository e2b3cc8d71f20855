/-! PURE: board -/
theorem s_copyB {b : Bd} {u : St} {Q : St → Prop} (hb : bdOk b) (hL : LX 15 b u) (h : ∀ v, LX 10 b v → Same (nLay 10) u v → Q v) : wp_X0_copyFrom 10 15 u Q := by
  have hn := hb.1
  unfold wp_X0_copyFrom
  simp only [nxt, wp_X0_copyFrom_L10]
  refine lc1 7 (fun k w => Same (nLay 10) u w ∧ gi w 10 4 = nI (bN b) ∧ ∀ i, i < k → gi w 11 i = gi u 16 i ∧ gi w 12 i = gi u 17 i ∧ gi w 13 i = gi u 18 i ∧ gi w 14 i = gi u 19 i) ⟨Same.si Same.rfl' (by unfold nLay; omega), by rw [gi_same]; exact hL.1, fun i hi => absurd hi (by omega)⟩ ?_ ?_
  · rintro K k w hk ⟨hs, h4, hr⟩ hK
    have v7 : vp_in (nI k) 7 := vp_in_nI (by omega) (by omega)
    unfold wp_X0_copyFrom_B10
    simp only [nxt]
    rw [tNn (by omega), nI_1]
    refine ⟨fun c => absurd c (nI_ge (b := 7) hk (by decide)), fun _ => ⟨v7, v7, v7, v7, v7, v7, v7, v7, hK _ ⟨(((hs.si (by unfold nLay; omega)).si (by unfold nLay; omega)).si (by unfold nLay; omega)).si (by unfold nLay; omega), ?_, fun i hi => ?_⟩⟩⟩
    · rw [gi_nk (by decide), gi_nk (by decide), gi_nk (by decide), gi_nk (by decide)]; exact h4
    · have o : ∀ q, q = 16 ∨ q = 17 ∨ q = 18 ∨ q = 19 → gi w q k = gi u q k := fun q hq => hs.1 q k (by unfold nLay; omega)
      by_cases e : i = k
      · subst e
        refine ⟨?_, ?_, ?_, ?_⟩
        · rw [gi_nk (by decide), gi_nk (by decide), gi_nk (by decide), gi_same]; exact o _ (by omega)
        · rw [gi_nk (by decide), gi_nk (by decide), gi_same, gi_nk (by decide)]; exact o _ (by omega)
        · rw [gi_nk (by decide), gi_same, gi_nk (by decide), gi_nk (by decide)]; exact o _ (by omega)
        · rw [gi_same, gi_nk (by decide), gi_nk (by decide), gi_nk (by decide)]; exact o _ (by omega)
      · rw [gi_ni e, gi_ni e, gi_ni e, gi_ni e, gi_ni e, gi_ni e, gi_ni e, gi_ni e, gi_ni e, gi_ni e, gi_ni e, gi_ni e, gi_ni e, gi_ni e, gi_ni e, gi_ni e]
        exact hr i (by omega)
  · rintro K w ⟨hs, h4, hr⟩
    unfold wp_X0_copyFrom_B10
    refine ⟨fun _ => h w ⟨h4, fun i hi => ?_⟩ hs, fun c => absurd (Int32.le_refl _) c⟩
    obtain ⟨r1, r2, r3, r4⟩ := hr i (by omega)
    obtain ⟨l1, l2, l3, l4⟩ := hL.2 i hi
    exact ⟨r1.trans l1, r2.trans l2, r3.trans l3, r4.trans l4⟩
theorem mtv0 (j : Nat) : mtv mt0 j = 0 := by
  unfold mtv
  split
  · rfl
  · split
    · rfl
    · split
      · rfl
      · rfl
/-- a new board -/
theorem inv_board {u z : St} {b : Bd} (h : Inv u) (hb : bdOk b) (hD : bdD b) (h2 : 2 ≤ bN b) (rd : ∀ k i, k ≠ 8 → ¬ (10 ≤ k ∧ k ≤ 21) → ¬ (46 ≤ k ∧ k ≤ 50) → k ≠ 52 → ¬ (k = 39 ∧ i = 10) → ¬ (k = 39 ∧ i = 16) → gi z k i = gi u k i) (rl : ∀ k i, k ≠ 8 → ¬ (10 ≤ k ∧ k ≤ 21) → gl z k i = gl u k i)
    (z1 : gi z 8 3 = nI 0) (z2 : ∀ i, i < 3 → gi z 8 i = -1) (z3 : LX 10 b z) (z4 : MX 20 mt0 z) (z5 : BM b z) (z6 : gi z 39 16 = nI 0) (z7 : ∀ j, j < 10 → gi z 50 j = nI 0) (z8 : ∀ i, i < 3 → gi z 52 i = -1) : Inv z := by
  obtain ⟨⟨c1, c2, c3, ⟨c4, c5⟩, -⟩, a1, a2, a3⟩ := h
  have s : Same (fun k => k ≠ 8 ∧ ¬ (10 ≤ k ∧ k ≤ 21) ∧ ¬ (46 ≤ k ∧ k ≤ 50) ∧ k ≠ 52 ∧ k ≠ 39) u z := ⟨fun k i hk => rd k i hk.1 hk.2.1 hk.2.2.1 hk.2.2.2.1 (by omega) (by omega), fun k i hk => rl k i hk.1 hk.2.1⟩
  have q : ∀ i, i ≠ 10 → i ≠ 16 → gi z 39 i = gi u 39 i := fun i x y => rd _ _ (by omega) (by omega) (by omega) (by omega) (by omega) (by omega)
  refine ⟨⟨c1.same s (by omega) (by omega) (by omega), c2.same s (by omega) (by omega) (by omega) (by omega), c3.same s (by omega) (by omega) (by omega) (by omega), ⟨?_, fun f hf => ?_⟩, b, ⟨hb, hD, Or.inr h2, z3, z5⟩, ⟨fun _ => 0, 0, by decide, z1, z6, fun i hi => absurd hi (Nat.not_lt_zero _), fun d hd j hj => ?_, z4⟩, fun k hk => Or.inl ⟨z2 k hk, z8 k hk⟩⟩, ?_, ?_, ?_⟩
  · rw [q _ (by decide) (by decide), s.1 0 _ (by omega)]; exact c4
  · rw [s.1 40 _ (by omega), s.1 38 _ (by omega)]; exact c5 f hf
  · have e : d = 0 := by omega
    subst e
    rw [show mtR (fun _ => 0) 0 = mt0 from rfl, mtv0, show 10 * 0 + j = j by omega]
    exact z7 j hj
  · rw [q _ (by decide) (by decide), s.1 0 _ (by omega)]; exact a1
  · rw [rl _ _ (by omega) (by omega), rl _ _ (by omega) (by omega)]; exact a2
  · rw [rl _ _ (by omega) (by omega), rl _ _ (by omega) (by omega)]; exact a3
/-- what the class does with a board that was read -/
theorem s_takeX {b : Bd} {p : Int32} {u : St} {Q : Int32 → St → Prop} (hC : iC u) (hb : bdOk b) (hL : LX 15 b u) (h : ∀ z, (∀ k i, k ≠ 8 → ¬ (10 ≤ k ∧ k ≤ 14) → k ≠ 20 → k ≠ 21 → gi z k i = gi u k i) → (∀ k i, k ≠ 8 → ¬ (10 ≤ k ∧ k ≤ 14) → k ≠ 20 → k ≠ 21 → gl z k i = gl u k i) → gi z 8 3 = nI 0 → (∀ i, i < 3 → gi z 8 i = -1) → LX 10 b z → MX 20 mt0 z → Q (nI (bN b)) z) : wp_X0_copyFrom 10 15 u (fun u5 => wp_X1_reset 20 u5 (fun u6 => ∃ n, wp_X4_board_L56 p Q n 0 u6)) := by
  refine s_copyB hb hL (fun v2 hL2 s2 => s_reset (Or.inl rfl) (fun v3 hM3 s3 => ?_))
  have rd3 : ∀ k i, ¬ (10 ≤ k ∧ k ≤ 14) → k ≠ 20 → k ≠ 21 → gi v3 k i = gi u k i := fun k i a1 a2 a3 => (s3.1 k i ⟨a2, a3⟩).trans (s2.1 k i (by unfold nLay; omega))
  have rl3 : ∀ k i, ¬ (10 ≤ k ∧ k ≤ 14) → k ≠ 20 → k ≠ 21 → gl v3 k i = gl u k i := fun k i a1 a2 a3 => (s3.2 k i ⟨a2, a3⟩).trans (s2.2 k i (by unfold nLay; omega))
  have hL3 : LX 10 b v3 := hL2.same s3 (fun j hj => ⟨by omega, by omega⟩)
  have sC : ∀ {w : St}, Same (fun q => q ≠ 8) v3 w → iC w := fun {w} s => by
    have e : ∀ k i, k = 1 ∨ k = 4 ∨ k = 7 → gi w k i = gi u k i := fun k i hk => (s.1 k i (by omega)).trans (rd3 k i (by omega) (by omega) (by omega))
    obtain ⟨q1, q2, q3, q4, q5, q6⟩ := hC
    exact ⟨(e _ _ (by omega)).trans q1, (e _ _ (by omega)).trans q2, (e _ _ (by omega)).trans q3, (e _ _ (by omega)).trans q4, (e _ _ (by omega)).trans q5, (e _ _ (by omega)).trans q6⟩
  simp only [wp_X4_board_L56]
  refine lc1 3 (fun k w => Same (fun q => q ≠ 8) v3 w ∧ ∀ i, i < k → gi w 8 i = -1) ⟨Same.rfl', fun i hi => absurd hi (Nat.not_lt_zero _)⟩ ?_ ?_
  · rintro K k w hk ⟨s, hr⟩ hK
    have hCw := sC s
    unfold wp_X4_board_B56
    refine ⟨fun c => absurd c (nI_ge (b := 3) hk (by decide)), fun _ => ?_⟩
    unfold wp_X2_remove
    rw [hCw.2.2.2.2.1]
    refine w_ok (P := 4) (by omega) (by decide) ⟨fun q => absurd q (by decide), fun _ => ⟨vp_in_nI (show k < 4 by omega) (by decide), ?_⟩⟩
    simp only [nxt]
    rw [tNn (by omega), nI_1]
    refine hK _ ⟨s.si (fun q => q rfl), fun i hi => ?_⟩
    by_cases e : i = k
    · subst e; exact gi_same
    · rw [gi_ni e]; exact hr i (by omega)
  · rintro K w ⟨s, hr⟩
    have hCw := sC s
    unfold wp_X4_board_B56
    refine ⟨fun _ => make_ok (j := 3) (n := 0) (Sh7 hCw) (by decide) (by decide) (fun z hc hz hx => ?_), fun c => absurd (Int32.le_refl _) c⟩
    have rz : ∀ k i, ¬ (k = 8 ∧ i = 3) → gi z k i = gi w k i := fun k i a1 => hc.1 k i (by omega) (by omega)
    have hLz : LX 10 b z := (hL3.same s (fun j hj => by omega)).same (P := fun q => q ≠ 8) ⟨fun k i hk => rz k i (by omega), fun k i _ => hc.2 k i⟩ (fun j hj => by omega)
    rw [hLz.1]
    refine h z (fun k i a1 a2 a3 a4 => ?_) (fun k i a1 a2 a3 a4 => ?_) hz (fun i hi => ?_) hLz ((hM3.same s (fun j hj => by omega)).same (P := fun q => q ≠ 8) ⟨fun k i hk => rz k i (by omega), fun k i _ => hc.2 k i⟩ (fun j hj => by omega))
    · rw [rz k i (by omega), s.1 k i a1, rd3 k i a2 a3 a4]
    · rw [hc.2, s.2 k i a1, rl3 k i a2 a3 a4]
    · rw [rz 8 i (by omega)]; exact hr i hi
/-- what the reference does with a board that was read -/
theorem s_takeM {b : Bd} {p : Int32} {u : St} {Q : Int32 → St → Prop} (hb : bN b ≤ 7) (hd : DM b u) (h : ∀ z, (∀ k i, ¬ (46 ≤ k ∧ k ≤ 50) → k ≠ 52 → ¬ (k = 39 ∧ i = 10) → ¬ (k = 39 ∧ i = 16) → gi z k i = gi u k i) → (∀ k i, gl z k i = gl u k i) → BM b z → gi z 39 16 = nI 0 → (∀ j, j < 10 → gi z 50 j = nI 0) → (∀ i, i < 3 → gi z 52 i = -1) → Q (nI (bN b)) z) : nxt (si u 39 10 (nI (bN b))) (fun u7 => ∃ n, wp_X5_board_L46 p Q n 0 u7) := by
  simp only [nxt, wp_X5_board_L46]
  refine lc1 (bN b) (fun k w => gi w 39 10 = nI (bN b) ∧ DM b w ∧ (∀ i, i < k → gi w 46 i = nI (bK b i) ∧ gi w 47 i = nI (bL b i) ∧ gi w 48 i = nI (bC b i) ∧ gi w 49 i = nI (bD b i)) ∧ (∀ q i, ¬ (46 ≤ q ∧ q ≤ 49) → ¬ (q = 39 ∧ i = 10) → gi w q i = gi u q i) ∧ ∀ q i, gl w q i = gl u q i) ⟨gi_same, fun i hi => by rw [gi_nk (by decide), gi_nk (by decide), gi_nk (by decide), gi_nk (by decide)]; exact hd i hi, fun i hi => absurd hi (Nat.not_lt_zero _), fun q i _ a => by rw [gi_if, if_neg a], fun q i => gl_si⟩ ?_ ?_
  · rintro K k w hk ⟨e10, hDM, hr, ho, hl⟩ hK
    have v14 : vp_in (nI (7 + k)) 14 := vp_in_nI (by omega) (by decide)
    have v14b : vp_in (nI k) 14 := vp_in_nI (by omega) (by decide)
    obtain ⟨m1, m2, m3, m4⟩ := hDM k hk
    unfold wp_X5_board_B46
    simp only [nxt]
    rw [nI_1, show (7 : Int32) + nI k = nI (7 + k) from nI_add 7 k, tNn (n := 7 + k) (by omega), tNn (n := k) (by omega), e10, gi_nk (show (47 : Nat) ≠ 46 by decide), m1, m2, gi_nk (show (48 : Nat) ≠ 47 by decide), gi_nk (show (48 : Nat) ≠ 46 by decide), m3, gi_nk (show (49 : Nat) ≠ 48 by decide), gi_nk (show (49 : Nat) ≠ 47 by decide), gi_nk (show (49 : Nat) ≠ 46 by decide), m4]
    refine ⟨fun c => absurd c (nI_ge hk (by omega)), fun _ => ⟨v14, v14b, v14, v14b, v14, v14b, v14, v14b, hK _ ⟨?_, fun i hi => ?_, fun i hi => ?_, fun q i a1 a2 => ?_, fun q i => ?_⟩⟩⟩
    · rw [gi_nk (by decide), gi_nk (by decide), gi_nk (by decide), gi_nk (by decide)]; exact e10
    · have e : 7 + i ≠ k := by omega
      simp only [gi_ni e]
      exact hDM i hi
    · by_cases e : i = k
      · subst e
        refine ⟨?_, ?_, ?_, gi_same⟩
        · rw [gi_nk (by decide), gi_nk (by decide), gi_nk (by decide), gi_same]
        · rw [gi_nk (by decide), gi_nk (by decide), gi_same]
        · rw [gi_nk (by decide), gi_same]
      · simp only [gi_ni e]
        exact hr i (by omega)
    · rw [gi_nk (by omega), gi_nk (by omega), gi_nk (by omega), gi_nk (by omega)]; exact ho q i a1 a2
    · rw [gl_si, gl_si, gl_si, gl_si]; exact hl q i
  · rintro K w ⟨e10, hDM, hr, ho, hl⟩
    unfold wp_X5_board_B46
    refine ⟨fun _ => ?_, fun c => absurd (by rw [e10]; exact Int32.le_refl _) c⟩
    simp only [nxt, wp_X5_board_L127]
    refine lc1 10 (fun k x => gi x 39 16 = nI 0 ∧ (∀ j, j < k → gi x 50 j = nI 0) ∧ (∀ q i, q ≠ 50 → ¬ (q = 39 ∧ i = 16) → gi x q i = gi w q i) ∧ ∀ q i, gl x q i = gl w q i) ⟨gi_same, fun i hi => absurd hi (Nat.not_lt_zero _), fun q i _ a => by rw [gi_if, if_neg a], fun q i => gl_si⟩ ?_ ?_
    · rintro K2 k x hk ⟨x1, x2, x3, x4⟩ hK2
      unfold wp_X5_board_B127
      simp only [nxt]
      rw [nI_1, tNn (by omega)]
      refine ⟨fun c => absurd c (nI_ge (b := 10) hk (by decide)), fun _ => ⟨vp_in_nI (by omega) (by decide), hK2 _ ⟨by rw [gi_nk (by decide)]; exact x1, fun j hj => ?_, fun q i a1 a2 => by rw [gi_nk a1]; exact x3 q i a1 a2, fun q i => gl_si.trans (x4 q i)⟩⟩⟩
      by_cases e : j = k
      · subst e; rw [gi_same]; rfl
      · rw [gi_ni e]; exact x2 j (by omega)
    · rintro K2 x ⟨x1, x2, x3, x4⟩
      unfold wp_X5_board_B127
      refine ⟨fun _ => ?_, fun c => absurd (Int32.le_refl _) c⟩
      simp only [wp_X5_board_L148]
      refine lc1 3 (fun k y => (∀ i, i < k → gi y 52 i = -1) ∧ (∀ q i, q ≠ 52 → gi y q i = gi x q i) ∧ ∀ q i, gl y q i = gl x q i) ⟨fun i hi => absurd hi (Nat.not_lt_zero _), fun _ _ _ => rfl, fun _ _ => rfl⟩ ?_ ?_
      · rintro K3 k y hk ⟨y1, y2, y3⟩ hK3
        unfold wp_X5_board_B148
        simp only [nxt]
        rw [nI_1, tNn (by omega)]
        refine ⟨fun c => absurd c (nI_ge (b := 3) hk (by decide)), fun _ => ⟨vp_in_nI (by omega) (by decide), hK3 _ ⟨fun i hi => ?_, fun q i a => by rw [gi_nk a]; exact y2 q i a, fun q i => gl_si.trans (y3 q i)⟩⟩⟩
        by_cases e : i = k
        · subst e; exact gi_same
        · rw [gi_ni e]; exact y1 i (by omega)
      · rintro K3 y ⟨y1, y2, y3⟩
        unfold wp_X5_board_B148
        refine ⟨fun _ => ?_, fun c => absurd (Int32.le_refl _) c⟩
        have e39 : gi y 39 10 = nI (bN b) := by rw [y2 _ _ (by decide), x3 _ _ (by decide) (by decide)]; exact e10
        rw [e39]
        refine h y (fun k i a1 a2 a3 a4 => ?_) (fun k i => ?_) ⟨e39, fun i hi => ?_⟩ ?_ (fun j hj => ?_) y1
        · rw [y2 _ _ a2, x3 _ _ (by omega) a4, ho _ _ (by omega) a3]
        · rw [y3, x4, hl]
        · have f : ∀ q, 46 ≤ q ∧ q ≤ 49 → gi y q i = gi w q i := fun q hq => by rw [y2 _ _ (by omega), x3 _ _ (by omega) (by omega)]
          rw [f 46 (by decide), f 47 (by decide), f 48 (by decide), f 49 (by decide)]
          exact hr i hi
        · rw [y2 _ _ (by decide)]; exact x1
        · rw [y2 _ _ (by decide)]; exact x2 j hj
theorem p_board {a : Int32} {u : St} (h : Inv u) {K1 : Int32 → St → Prop} (hK : ∀ r u1, Nx (wp_X5_board a u1) r → K1 r u1) : wp_X4_board a u K1 := by
  have hC := h.1.1
  have hR := h.1.2.2.1
  unfold wp_X4_board
  refine refS (Or.inr (Or.inl rfl)) (Sh4 hC) hR.x (fun c => ⟨fun q => absurd q (by decide), fun _ => hK _ _ (fun K2 h2 => ?_)⟩) (fun j hj e1 e2 => ⟨fun q => absurd q (by decide), fun _ => hK _ _ (fun K2 h2 => ?_)⟩) (fun j n hj e1 hn e2 => ⟨fun _ => ?_, fun q => absurd rfl q⟩)
  · unfold wp_X5_board
    exact text_bad c ⟨fun q => absurd rfl q, fun _ => h2 u h⟩
  · subst e1
    have em := hR.m1 (by decide) hj e2
    unfold wp_X5_board
    refine text_ok hj ⟨fun _ => ⟨vp_in_nI hj (by decide), ?_⟩, fun q => absurd q (by decide)⟩
    rw [tNn (by omega), show gi (fX 1 u) 43 j = gi u 43 j by unfold fX; rw [gi_nk (by decide), gi_nk (by decide)], em]
    exact ⟨fun q => absurd q (by decide), fun _ => find_ok (f := 1) (by decide) (h2 _ (inv_found (by decide) h))⟩
  · subst e1
    obtain ⟨em, ec⟩ := hR.mn (by decide) hj hn e2
    have hT : TX 5 6 j n (fun i => gi u 6 (60 * j + i)) u := ⟨hj, hn, e2, fun i _ => rfl⟩
    have hM : ∀ v, (∀ k i, k = 43 ∨ k = 44 → gi v k i = gi u k i) → TX 43 44 j n (fun i => gi u 6 (60 * j + i)) v := fun v s => ⟨hj, hn, (s _ _ (by omega)).trans em, fun i hi => (s _ _ (by omega)).trans (ec i hi)⟩
    refine s_readX hC hT (fun p v e s => ?_) (fun b v e hb hD h2b hL s => ?_)
    · have hp := rd_le hn 7 bd0 _ (sk_le (Nat.zero_le _)).2 p e
      refine ⟨fun q => absurd q (nI_ne_m9 (by omega)), fun _ => hK _ _ (fun K2 h2 => ?_)⟩
      have hMv := hM v (fun k i hk => s.1 _ _ (by unfold nLay; omega))
      unfold wp_X5_board
      refine text_ok hj ⟨fun _ => ⟨vp_in_nI hj (by decide), ?_⟩, fun q => absurd q (by decide)⟩
      rw [tNn (by omega), hMv.2.2.1]
      refine ⟨fun _ => s_readM hMv (fun p' w e' d => ?_) (fun b' w e' hb' hDM d => ?_), fun q => absurd (nI_pos' (by omega)) q⟩
      · rw [e] at e'
        cases e'
        exact ⟨fun q => absurd ((nI_ltI (b := 100) (by omega) (by decide)).mp q) (by omega), fun _ => h2 w ((h.sx (sx_L s)).draft d)⟩
      · rw [e] at e'
        cases e'
    · have hb7 := hb.1
      have hCv : iC v := hC.same s (by unfold nLay; omega) (by unfold nLay; omega) (by unfold nLay; omega)
      refine ⟨fun _ => s_takeX hCv hb hL (fun z r1 r2 r3 r4 r5 r6 => hK _ _ (fun K2 h2 => ?_)), fun q => absurd rfl q⟩
      have rz : ∀ k i, k ≠ 8 → ¬ (10 ≤ k ∧ k ≤ 21) → gi z k i = gi u k i := fun k i a1 a2 => (r1 k i a1 (by omega) (by omega) (by omega)).trans (s.1 k i (by unfold nLay; omega))
      have rzl : ∀ k i, k ≠ 8 → ¬ (10 ≤ k ∧ k ≤ 21) → gl z k i = gl u k i := fun k i a1 a2 => (r2 k i a1 (by omega) (by omega) (by omega)).trans (s.2 k i (by unfold nLay; omega))
      have hMz := hM z (fun k i hk => rz k i (by omega) (by omega))
      unfold wp_X5_board
      refine text_ok hj ⟨fun _ => ⟨vp_in_nI hj (by decide), ?_⟩, fun q => absurd q (by decide)⟩
      rw [tNn (by omega), hMz.2.2.1]
      refine ⟨fun _ => s_readM hMz (fun p' w e' d => ?_) (fun b' w e' hb' hDM d => ?_), fun q => absurd (nI_pos' (by omega)) q⟩
      · rw [e] at e'
        cases e'
      · rw [e] at e'
        cases e'
        refine ⟨fun _ => s_takeM hb7 hDM (fun y t1 t2 t3 t4 t5 t6 => h2 y ?_), fun q => absurd ((nI_ltI (b := 100) (by omega) (by decide)).mpr (by omega)) q⟩
        have ry : ∀ k i, ¬ (46 ≤ k ∧ k ≤ 50) → k ≠ 52 → k ≠ 39 → gi y k i = gi z k i := fun k i a1 a2 a3 => (t1 k i a1 a2 (by omega) (by omega)).trans (d.1 k i (by omega))
        have sy : Same (fun k => ¬ (46 ≤ k ∧ k ≤ 50) ∧ k ≠ 52 ∧ k ≠ 39) z y := ⟨fun k i hk => ry k i hk.1 hk.2.1 hk.2.2, fun k i _ => (t2 k i).trans (d.2 k i)⟩
        refine inv_board h hb hD h2b (fun k i a1 a2 a3 a4 a5 a6 => ?_) (fun k i a1 a2 => ?_) ?_ (fun i hi => ?_) (r5.same sy (fun j hj => by omega)) (r6.same sy (fun j hj => by omega)) t3 t4 t5 t6
        · rw [t1 k i a3 a4 a5 a6, d.1 k i (by omega), rz k i a1 a2]
        · rw [t2, d.2, rzl k i a1 a2]
        · rw [ry _ _ (by omega) (by omega) (by omega)]; exact r3
        · rw [ry _ _ (by omega) (by omega) (by omega)]; exact r4 i hi
