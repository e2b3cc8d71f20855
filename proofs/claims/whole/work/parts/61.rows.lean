/-! PURE: the pairs of rows and texts -/
/-- the reference, begun here, answers r too, and all holds behind it -/
def Nx (WM : (Int32 → St → Prop) → Prop) (r : Int32) : Prop := ∀ K2 : Int32 → St → Prop, (∀ u2, Inv u2 → K2 r u2) → WM K2
def NxL (WM : (Int64 → St → Prop) → Prop) (r : Int64) : Prop := ∀ K2 : Int64 → St → Prop, (∀ u2, Inv u2 → K2 r u2) → WM K2
theorem lt0_le {b : Int32} {k : Nat} (hk : k < 2 ^ 31) (h : b < 0) : b ≤ nI k := by
  rw [Int32.lt_iff_toInt_lt] at h
  rw [Int32.le_iff_toInt_le, nI_toInt hk]
  have h0 : (0 : Int32).toInt = 0 := by decide
  omega
theorem lt0_nge {b : Int32} (h : b < 0) : ¬ 0 ≤ b := Int32.not_le.mpr h
theorem ge_nle {b : Int32} {k : Nat} (hk : k + 1 < 2 ^ 31) (h : nI (k + 1) ≤ b) : ¬ b ≤ nI k := by
  rw [Int32.le_iff_toInt_le, nI_toInt hk] at h
  rw [Int32.le_iff_toInt_le, nI_toInt (by omega)]
  omega
theorem ge_nlt0 {b : Int32} {k : Nat} (hk : k < 2 ^ 31) (h : nI k ≤ b) : ¬ b < 0 := by
  rw [Int32.le_iff_toInt_le, nI_toInt hk] at h
  rw [Int32.lt_iff_toInt_lt]
  have h0 : (0 : Int32).toInt = 0 := by decide
  omega
theorem ge_ge0 {b : Int32} {k : Nat} (hk : k < 2 ^ 31) (h : nI k ≤ b) : 0 ≤ b := Int32.not_lt.mp (ge_nlt0 hk h)
theorem m1_lt0 : (-1 : Int32) < 0 := by decide
theorem refS {b P w : Nat} {p : Int32} {u : St} {Q : Int32 → St → Prop} (hb : isShf b) (hs : Sh b P w u) (hz : ∀ j, j < P → gi u (b + 1) j = -1 ∨ ∃ n, n ≤ w ∧ gi u (b + 1) j = nI n)
    (bad : (p < 0 ∨ nI P ≤ p) → Q (-1) u) (miss : ∀ j, j < P → p = nI j → gi u (b + 1) j = -1 → Q (-3) (fX 1 u)) (ok : ∀ j n, j < P → p = nI j → n ≤ w → gi u (b + 1) j = nI n → Q 0 u) : wp_X4_refuseShelfPlace b p u Q := by
  have h5 := hs.2.2.2.2.2.1
  unfold wp_X4_refuseShelfPlace
  rw [hs.1]
  rcases pk_ix p (n := P) (by omega) with c | c | ⟨j, hj, rfl⟩
  · exact w_bad (Or.inl c) ⟨fun q => absurd rfl q, fun _ => bad (Or.inl c)⟩
  · exact w_bad (Or.inr c) ⟨fun q => absurd rfl q, fun _ => bad (Or.inr c)⟩
  · refine w_ok hj (by omega) ⟨fun _ => ?_, fun q => absurd q (by decide)⟩
    rcases hz j hj with e | ⟨n, hn, e⟩
    · exact has_no hs hj e ⟨fun _ => found_ok (f := 1) (by decide) (miss j hj rfl e), fun q => absurd rfl q⟩
    · exact has_yes hs hj hn e ⟨fun q => absurd q (by decide), fun _ => ok j n hj rfl hn e⟩
theorem refP {b P w : Nat} {p i : Int32} {u : St} {Q : Int32 → St → Prop} (hb : isShf b) (hs : Sh b P w u) (hz : ∀ j, j < P → gi u (b + 1) j = -1 ∨ ∃ n, n ≤ w ∧ gi u (b + 1) j = nI n)
    (bad : (p < 0 ∨ nI P ≤ p) → Q (-1) u) (miss : ∀ j, j < P → p = nI j → gi u (b + 1) j = -1 → Q (-3) (fX 1 u)) (bey : ∀ j n, j < P → p = nI j → n ≤ w → gi u (b + 1) j = nI n → (i < 0 ∨ nI n ≤ i) → Q (-3) (fX 2 u)) (ok : ∀ j n k, j < P → p = nI j → n ≤ w → gi u (b + 1) j = nI n → k < n → i = nI k → Q 0 u) : wp_X4_refusePlace b p i u Q := by
  have h6 := hs.2.2.2.2.2.2
  unfold wp_X4_refusePlace
  refine refS hb hs hz (fun c => ⟨fun q => absurd q (by decide), fun _ => bad c⟩) (fun j hj e1 e2 => ⟨fun q => absurd q (by decide), fun _ => miss j hj e1 e2⟩) (fun j n hj e1 hn e2 => ⟨fun _ => ?_, fun q => absurd rfl q⟩)
  subst e1
  refine size_ok hs hj ?_
  rw [e2]
  rcases pk_ix i (n := n) (by omega) with c | c | ⟨k, hk, rfl⟩
  · exact w_bad (Or.inl c) ⟨fun _ => found_ok (f := 2) (by decide) (bey j n hj rfl hn e2 (Or.inl c)), fun q => absurd rfl q⟩
  · exact w_bad (Or.inr c) ⟨fun _ => found_ok (f := 2) (by decide) (bey j n hj rfl hn e2 (Or.inr c)), fun q => absurd rfl q⟩
  · exact w_ok hk (by omega) ⟨fun q => absurd q (by decide), fun _ => ok j n k hj rfl hn e2 hk rfl⟩
theorem ShR.x {xs xc ms mc w P : Nat} {u : St} (h : ShR xs xc ms mc w P u) : ∀ j, j < P → gi u xs j = -1 ∨ ∃ n, n ≤ w ∧ gi u xs j = nI n := fun j hj => by
  rcases h j hj with ⟨q1, q2⟩ | ⟨n, q1, q2, -⟩
  · exact Or.inl q1
  · exact Or.inr ⟨n, q1, q2⟩
theorem ShR.m1 {xs xc ms mc w P j : Nat} {u : St} (h : ShR xs xc ms mc w P u) (hw : w < 2 ^ 31) (hj : j < P) (e : gi u xs j = -1) : gi u ms j = -1 := by
  rcases h j hj with ⟨q1, q2⟩ | ⟨n, q1, q2, -⟩
  · exact q2
  · exact absurd (q2.symm.trans e) (nI_ne_m1 (by omega))
theorem ShR.mn {xs xc ms mc w P j n : Nat} {u : St} (h : ShR xs xc ms mc w P u) (hw : w < 2 ^ 31) (hj : j < P) (hn : n ≤ w) (e : gi u xs j = nI n) : gi u ms j = nI n ∧ ∀ i, i < n → gi u mc (w * j + i) = gi u xc (w * j + i) := by
  rcases h j hj with ⟨q1, q2⟩ | ⟨n', q1, q2, q3, q4⟩
  · exact absurd (e.symm.trans q1) (nI_ne_m1 (by omega))
  · have : n' = n := (nI_eq (by omega) (by omega)).mp (q2.symm.trans e)
    subst this
    exact ⟨q3, q4⟩
/-- a row has become another -/
theorem ShR.upd {xs xc ms mc w P j n : Nat} {u v : St} (h : ShR xs xc ms mc w P u) (hn : n ≤ w) (ex : gi v xs j = nI n) (em : gi v ms j = nI n) (ec : ∀ i, i < n → gi v mc (w * j + i) = gi v xc (w * j + i)) (hs : ∀ r, r < P → r ≠ j → gi v xs r = gi u xs r ∧ gi v ms r = gi u ms r ∧ ∀ i, i < w → gi v xc (w * r + i) = gi u xc (w * r + i) ∧ gi v mc (w * r + i) = gi u mc (w * r + i)) : ShR xs xc ms mc w P v := fun r hr => by
  by_cases e : r = j
  · subst e
    exact Or.inr ⟨n, hn, ex, em, ec⟩
  · obtain ⟨s1, s2, s3⟩ := hs r hr e
    rcases h r hr with ⟨q1, q2⟩ | ⟨m, q1, q2, q3, q4⟩
    · exact Or.inl ⟨s1.trans q1, s2.trans q2⟩
    · exact Or.inr ⟨m, q1, s1.trans q2, s2.trans q3, fun i hi => (s3 i (by omega)).2.trans ((q4 i hi).trans (s3 i (by omega)).1.symm)⟩
theorem apart {w j r i lo : Nat} (hi : i < w) (hne : r ≠ j) (hlo : lo ≤ w) : ¬ (w * j ≤ w * r + i ∧ w * r + i < w * j + lo) := by
  rintro ⟨h1, h2⟩
  rcases Nat.lt_or_gt_of_ne hne with q | q
  · have := Nat.mul_le_mul_left w (show r + 1 ≤ j by omega)
    rw [Nat.mul_add] at this
    omega
  · have := Nat.mul_le_mul_left w (show j + 1 ≤ r by omega)
    rw [Nat.mul_add] at this
    omega
theorem p_row {a b : Int32} {u : St} (h : Inv u) {K1 : Int32 → St → Prop} (hK : ∀ r u1, Nx (wp_X5_row a b u1) r → K1 r u1) : wp_X4_row a b u K1 := by
  have hC := h.1.1
  have hR := h.1.2.1
  unfold wp_X4_row
  rcases pk_ix a (n := 6) (by decide) with c | c | ⟨j, hj, rfl⟩
  · refine w_bad (Or.inl c) ⟨fun _ => hK _ _ (fun K2 h2 => ?_), fun q => absurd rfl q⟩
    unfold wp_X5_row
    exact row_bad (Or.inl c) ⟨fun _ => h2 u h, fun q => absurd rfl q⟩
  · refine w_bad (Or.inr c) ⟨fun _ => hK _ _ (fun K2 h2 => ?_), fun q => absurd rfl q⟩
    unfold wp_X5_row
    exact row_bad (Or.inr c) ⟨fun _ => h2 u h, fun q => absurd rfl q⟩
  · refine w_ok (P := 6) hj (by decide) ⟨fun q => absurd q (by decide), fun _ => ?_⟩
    rcases pk_ix b (n := 41) (by decide) with c | c | ⟨n, hn, rfl⟩
    · refine ⟨fun _ => ⟨fun q => absurd q (lt0_nge c), fun _ => found_ok (f := 5) (by decide) (hK _ _ (fun K2 h2 => ?_))⟩, fun q => absurd (lt0_le (by decide) c) q⟩
      unfold wp_X5_row
      exact row_ok hj ⟨fun q => absurd q (by decide), fun _ => ⟨fun _ => ⟨fun q => absurd q (lt0_nge c), fun _ => find_ok (f := 5) (by decide) (h2 _ (inv_found (by decide) h))⟩, fun q => absurd (lt0_le (by decide) c) q⟩⟩
    · refine ⟨fun q => absurd q (ge_nle (by decide) c), fun _ => hK _ _ (fun K2 h2 => ?_)⟩
      unfold wp_X5_row
      exact row_ok hj ⟨fun q => absurd q (by decide), fun _ => ⟨fun q => absurd q (ge_nle (by decide) c), fun _ => h2 u h⟩⟩
    · refine ⟨fun _ => ⟨fun _ => make_ok (Sh1 hC) hj (by omega) (fun v hc hz hx => hK _ _ (fun K2 h2 => ?_)), fun q => absurd (nI_pos' (by omega)) q⟩, fun q => absurd (nI_le (b := 40) (by omega) (by decide)) q⟩
      unfold wp_X5_row
      refine row_ok hj ⟨fun q => absurd q (by decide), fun _ => ⟨fun _ => ⟨fun _ => ⟨vp_in_nI hj (by decide), ?_⟩, fun q => absurd (nI_pos' (by omega)) q⟩, fun q => absurd (nI_le (b := 40) (by omega) (by decide)) q⟩⟩
      simp only [nxt, wp_X5_row_L34]
      rw [tNn (by omega)]
      refine lc1 40 (fun i w => Chg 41 j 42 (40 * j) (40 * j + i) v w ∧ gi w 41 j = nI n ∧ ∀ k, k < i → gi w 42 (40 * j + k) = 0) ⟨⟨fun k i a1 _ => by rw [gi_if, if_neg a1], fun k i => gl_si⟩, gi_same, fun k hk => absurd hk (by omega)⟩ ?_ ?_
      · rintro K i w hi ⟨hc', hz', hx'⟩ hK'
        unfold wp_X5_row_B34
        simp only [nxt]
        rw [show (40 : Int32) = nI 40 from rfl, pk_mul, nI_add, tNn (by omega), nI_1]
        refine ⟨fun c => absurd c (nI_ge hi (by decide)), fun _ => ⟨vp_in_nI (by omega) (by decide), hK' _ ⟨⟨fun k q a1 a2 => ?_, fun k q => gl_si.trans (hc'.2 k q)⟩, ?_, fun k hk => ?_⟩⟩⟩
        · rw [gi_if, if_neg (by omega)]
          exact hc'.1 k q a1 (by omega)
        · rw [gi_nk (by omega)]; exact hz'
        · rw [gi_if]
          by_cases e : k = i
          · subst e
            rw [if_pos (by omega)]
          · rw [if_neg (by omega)]
            exact hx' k (by omega)
      · rintro K w ⟨hc', hz', hx'⟩
        unfold wp_X5_row_B34
        refine ⟨fun _ => h2 w ?_, fun c => absurd (Int32.le_refl _) c⟩
        have rd : ∀ k i, k ≠ 2 → k ≠ 3 → k ≠ 41 → k ≠ 42 → gi w k i = gi u k i := fun k i a1 a2 a3 a4 => (hc'.1 k i (by omega) (by omega)).trans (hc.1 k i (by omega) (by omega))
        have rl : ∀ k i, gl w k i = gl u k i := fun k i => (hc'.2 k i).trans (hc.2 k i)
        refine h.rows ⟨fun k i hk => rd k i hk.1 hk.2.1 hk.2.2.1 hk.2.2.2.1, fun k i _ => rl k i⟩ ⟨rd _ _ (by decide) (by decide) (by decide) (by decide), rd _ _ (by decide) (by decide) (by decide) (by decide), rd _ _ (by decide) (by decide) (by decide) (by decide), rd _ _ (by decide) (by decide) (by decide) (by decide)⟩ ?_ ?_ ?_ ?_
        · rw [rd _ _ (by decide) (by decide) (by decide) (by decide), rd _ _ (by decide) (by decide) (by decide) (by decide)]; exact h.2.1
        · rw [rl, rl]; exact h.2.2.1
        · rw [rl, rl]; exact h.2.2.2
        · refine hR.upd (j := j) (n := n) (by omega) ?_ hz' (fun i hi => ?_) (fun r hr hne => ⟨?_, ?_, fun i hi => ⟨?_, ?_⟩⟩)
          · rw [hc'.1 _ _ (by omega) (by omega)]; exact hz
          · rw [hx' i (by omega), hc'.1 _ _ (by omega) (by omega)]; exact (hx i hi).symm
          · rw [hc'.1 _ _ (by omega) (by omega), hc.1 _ _ (by omega) (by omega)]
          · rw [hc'.1 _ _ (by omega) (by omega), hc.1 _ _ (by omega) (by omega)]
          · have := apart (w := 40) (lo := n) hi hne (by omega)
            rw [hc'.1 _ _ (by omega) (by omega), hc.1 _ _ (by omega) (by omega)]
          · have := apart (w := 40) (lo := 40) hi hne (by omega)
            rw [hc'.1 _ _ (by omega) (by omega), hc.1 _ _ (by omega) (by omega)]
theorem p_tear {a : Int32} {u : St} (h : Inv u) {K1 : Int32 → St → Prop} (hK : ∀ r u1, Nx (wp_X5_tear a u1) r → K1 r u1) : wp_X4_tear a u K1 := by
  have hC := h.1.1
  have hR := h.1.2.1
  unfold wp_X4_tear
  refine refS (Or.inl rfl) (Sh1 hC) hR.x (fun c => ⟨fun q => absurd q (by decide), fun _ => hK _ _ (fun K2 h2 => ?_)⟩) (fun j hj e1 e2 => ⟨fun q => absurd q (by decide), fun _ => hK _ _ (fun K2 h2 => ?_)⟩) (fun j n hj e1 hn e2 => ⟨fun _ => ?_, fun q => absurd rfl q⟩)
  · unfold wp_X5_tear
    exact row_bad c ⟨fun q => absurd rfl q, fun _ => h2 u h⟩
  · subst e1
    have em := hR.m1 (by decide) hj e2
    unfold wp_X5_tear
    refine row_ok hj ⟨fun _ => ⟨vp_in_nI hj (by decide), ?_⟩, fun q => absurd q (by decide)⟩
    rw [tNn (by omega), show gi (fX 1 u) 41 j = gi u 41 j by unfold fX; rw [gi_nk (by decide), gi_nk (by decide)], em]
    exact ⟨fun q => absurd q (by decide), fun _ => find_ok (f := 1) (by decide) (h2 _ (inv_found (by decide) h))⟩
  · subst e1
    obtain ⟨em, -⟩ := hR.mn (by decide) hj hn e2
    unfold wp_X2_remove
    rw [hC.1]
    refine w_ok hj (by decide) ⟨fun q => absurd q (by decide), fun _ => ⟨vp_in_nI hj (by decide), ?_⟩⟩
    simp only [nxt]
    rw [tNn (by omega)]
    refine hK _ _ (fun K2 h2 => ?_)
    unfold wp_X5_tear
    refine row_ok hj ⟨fun _ => ⟨vp_in_nI hj (by decide), ?_⟩, fun q => absurd q (by decide)⟩
    rw [tNn (by omega), gi_nk (show (41 : Nat) ≠ 1 + 1 by decide), em]
    refine ⟨fun _ => ⟨vp_in_nI hj (by decide), ?_⟩, fun q => absurd (nI_pos' (by omega)) q⟩
    simp only [nxt]
    refine h2 _ ?_
    have rd : ∀ k i, k ≠ 2 → k ≠ 41 → gi (si (si u (1 + 1) j (-1)) 41 j (-1)) k i = gi u k i := fun k i a1 a2 => by rw [gi_nk a2, gi_nk a1]
    refine h.rows ⟨fun k i hk => rd k i hk.1 hk.2.2.1, fun k i _ => rfl⟩ ⟨rd _ _ (by decide) (by decide), rd _ _ (by decide) (by decide), rd _ _ (by decide) (by decide), rd _ _ (by decide) (by decide)⟩ ?_ h.2.2.1 h.2.2.2 ?_
    · rw [rd _ _ (by decide) (by decide), rd _ _ (by decide) (by decide)]; exact h.2.1
    · intro r hr
      by_cases e : r = j
      · subst e
        exact Or.inl ⟨by rw [gi_nk (by decide)]; exact gi_same, gi_same⟩
      · have e2' : ∀ k, gi (si (si u (1 + 1) j (-1)) 41 j (-1)) k r = gi u k r := fun k => by rw [gi_ni e, gi_ni e]
        rcases hR r hr with ⟨q1, q2⟩ | ⟨m, q1, q2, q3, q4⟩
        · exact Or.inl ⟨(e2' _).trans q1, (e2' _).trans q2⟩
        · exact Or.inr ⟨m, q1, (e2' _).trans q2, (e2' _).trans q3, fun i hi => by rw [rd _ _ (by decide) (by decide), rd _ _ (by decide) (by decide)]; exact q4 i hi⟩
