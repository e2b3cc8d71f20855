/-! PURE: lay, at, text, put -/
theorem in_bad0 {p : Int32} {n : Nat} {x : Int32} {u : St} {Q : Int32 → St → Prop} (hn : n < 2 ^ 31) (ex : x = nI n) (hb : p < 0 ∨ nI n ≤ p) (h : Q 0 u) : wp_X5_in p 0 (x - 1) u Q := by
  subst ex
  rcases Nat.eq_zero_or_pos n with e | e
  · subst e
    exact in_zero h
  · refine in_bad e hn ?_ hb h
    rw [show (1 : Int32) = nI 1 from rfl, pk_sub e]
theorem in_ok0 {k n : Nat} {x : Int32} {u : St} {Q : Int32 → St → Prop} (hk : k < n) (hn : n < 2 ^ 31) (ex : x = nI n) (h : Q 1 u) : wp_X5_in (nI k) 0 (x - 1) u Q := by
  subst ex
  refine in_ok hk hn ?_ h
  rw [show (1 : Int32) = nI 1 from rfl, pk_sub (by omega)]
theorem fX_m (f : Nat) (u : St) {k : Nat} (i : Nat) (h0 : k ≠ 0) (h8 : k ≠ 38) : gi (fX f u) k i = gi u k i := by unfold fX; rw [gi_nk h8, gi_nk h0]
theorem p_at {a b : Int32} {u : St} (h : Inv u) {K1 : Int32 → St → Prop} (hK : ∀ r u1, Nx (wp_X5_at a b u1) r → K1 r u1) : wp_X4_at a b u K1 := by
  have hC := h.1.1
  have hR := h.1.2.1
  unfold wp_X4_at
  refine refP (Or.inl rfl) (Sh1 hC) hR.x (fun c => ⟨fun q => absurd q (by decide), fun _ => hK _ _ (fun K2 h2 => ?_)⟩) (fun j hj e1 e2 => ⟨fun q => absurd q (by decide), fun _ => hK _ _ (fun K2 h2 => ?_)⟩) (fun j n hj e1 hn e2 hb => ⟨fun q => absurd q (by decide), fun _ => hK _ _ (fun K2 h2 => ?_)⟩) (fun j n k hj e1 hn e2 hk e3 => ⟨fun _ => ?_, fun q => absurd rfl q⟩)
  · unfold wp_X5_at
    exact row_bad c ⟨fun q => absurd rfl q, fun _ => h2 u h⟩
  · subst e1
    unfold wp_X5_at
    refine row_ok hj ⟨fun _ => ⟨vp_in_nI hj (by decide), ?_⟩, fun q => absurd q (by decide)⟩
    rw [tNn (by omega), fX_m 1 u j (by decide) (by decide), hR.m1 (by decide) hj e2]
    exact ⟨fun q => absurd q (by decide), fun _ => find_ok (f := 1) (by decide) (h2 _ (inv_found (by decide) h))⟩
  · subst e1
    unfold wp_X5_at
    refine row_ok hj ⟨fun _ => ⟨vp_in_nI hj (by decide), ?_⟩, fun q => absurd q (by decide)⟩
    rw [tNn (by omega), fX_m 2 u j (by decide) (by decide), (hR.mn (by decide) hj hn e2).1]
    exact ⟨fun _ => ⟨vp_in_nI hj (by decide), in_bad0 (by omega) rfl hb ⟨fun _ => find_ok (f := 2) (by decide) (h2 _ (inv_found (by decide) h)), fun q => absurd rfl q⟩⟩, fun q => absurd (nI_pos' (by omega)) q⟩
  · subst e1; subst e3
    obtain ⟨em, ec⟩ := hR.mn (by decide) hj hn e2
    refine get_ok (Sh1 hC) hj hn e2 hk ?_
    simp only [nxt]
    refine hK _ _ (fun K2 h2 => ?_)
    unfold wp_X5_at
    refine row_ok hj ⟨fun _ => ⟨vp_in_nI hj (by decide), ?_⟩, fun q => absurd q (by decide)⟩
    rw [tNn (by omega), gi_nk (show (41 : Nat) ≠ 0 by decide), em]
    refine ⟨fun _ => ⟨vp_in_nI hj (by decide), in_ok0 hk (by omega) rfl ⟨fun q => absurd q (by decide), fun _ => ?_⟩⟩, fun q => absurd (nI_pos' (by omega)) q⟩
    rw [show (40 : Int32) = nI 40 from rfl, pk_mul, nI_add, tNn (by omega), gi_nk (show (42 : Nat) ≠ 0 by decide), ec k hk]
    refine ⟨vp_in_nI (by omega) (by decide), ?_⟩
    unfold wp_X5_tellAsked
    simp only [nxt]
    refine h2 _ ⟨h.1.frm ((Frm.rfl'.wr (by unfold pers; omega) (fun _ => by decide) (fun q => absurd q (by decide))).wr (by unfold pers; omega) (fun q => absurd q (by decide)) (fun _ => by decide)), ?_, h.2.2.1, h.2.2.2⟩
    rw [gi_same, gi_nk (by decide), gi_same]
theorem p_lay {a b c : Int32} {u : St} (h : Inv u) {K1 : Int32 → St → Prop} (hK : ∀ r u1, Nx (wp_X5_lay a b c u1) r → K1 r u1) : wp_X4_lay a b c u K1 := by
  have hC := h.1.1
  have hR := h.1.2.1
  unfold wp_X4_lay
  refine refP (Or.inl rfl) (Sh1 hC) hR.x (fun c => ⟨fun q => absurd q (by decide), fun _ => hK _ _ (fun K2 h2 => ?_)⟩) (fun j hj e1 e2 => ⟨fun q => absurd q (by decide), fun _ => hK _ _ (fun K2 h2 => ?_)⟩) (fun j n hj e1 hn e2 hb => ⟨fun q => absurd q (by decide), fun _ => hK _ _ (fun K2 h2 => ?_)⟩) (fun j n k hj e1 hn e2 hk e3 => ⟨fun _ => ?_, fun q => absurd rfl q⟩)
  · unfold wp_X5_lay
    exact row_bad c ⟨fun q => absurd rfl q, fun _ => h2 u h⟩
  · subst e1
    unfold wp_X5_lay
    refine row_ok hj ⟨fun _ => ⟨vp_in_nI hj (by decide), ?_⟩, fun q => absurd q (by decide)⟩
    rw [tNn (by omega), fX_m 1 u j (by decide) (by decide), hR.m1 (by decide) hj e2]
    exact ⟨fun q => absurd q (by decide), fun _ => find_ok (f := 1) (by decide) (h2 _ (inv_found (by decide) h))⟩
  · subst e1
    unfold wp_X5_lay
    refine row_ok hj ⟨fun _ => ⟨vp_in_nI hj (by decide), ?_⟩, fun q => absurd q (by decide)⟩
    rw [tNn (by omega), fX_m 2 u j (by decide) (by decide), (hR.mn (by decide) hj hn e2).1]
    exact ⟨fun _ => ⟨vp_in_nI hj (by decide), in_bad0 (by omega) rfl hb ⟨fun q => absurd rfl q, fun _ => find_ok (f := 2) (by decide) (h2 _ (inv_found (by decide) h))⟩⟩, fun q => absurd (nI_pos' (by omega)) q⟩
  · subst e1; subst e3
    obtain ⟨em, ec⟩ := hR.mn (by decide) hj hn e2
    refine get_ok (Sh1 hC) hj hn e2 hk ?_
    simp only [nxt]
    refine set_ok (n := n) ((Sh1 hC).keep (gi_nk (by decide)) (gi_nk (by decide))) hj hn (by rw [gi_nk (by decide)]; exact e2) hk ?_
    refine hK _ _ (fun K2 h2 => ?_)
    unfold wp_X5_lay
    refine row_ok hj ⟨fun _ => ⟨vp_in_nI hj (by decide), ?_⟩, fun q => absurd q (by decide)⟩
    rw [tNn (by omega), gi_nk (show (41 : Nat) ≠ 1 + 2 by decide), gi_nk (show (41 : Nat) ≠ 0 by decide), em]
    refine ⟨fun _ => ⟨vp_in_nI hj (by decide), in_ok0 hk (by omega) rfl ⟨fun _ => ?_, fun q => absurd q (by decide)⟩⟩, fun q => absurd (nI_pos' (by omega)) q⟩
    rw [show (40 : Int32) = nI 40 from rfl, pk_mul, nI_add, tNn (by omega), gi_nk (show (42 : Nat) ≠ 1 + 2 by decide), gi_nk (show (42 : Nat) ≠ 0 by decide), ec k hk]
    refine ⟨vp_in_nI (by omega) (by decide), vp_in_nI (by omega) (by decide), ?_⟩
    unfold wp_X5_tellAsked
    simp only [nxt]
    refine h2 _ ?_
    have rd : ∀ q i, q ≠ 3 → q ≠ 42 → ¬ (q = 0 ∧ i = 12) → ¬ (q = 39 ∧ i = 2) → gi (si (si (si (si u 0 12 (gi u (1 + 2) (40 * j + k))) (1 + 2) (40 * j + k) c) 42 (40 * j + k) c) 39 2 (gi u (1 + 2) (40 * j + k))) q i = gi u q i := fun q i a1 a2 a3 a4 => by rw [gi_if, if_neg a4, gi_nk a2, gi_nk a1, gi_if, if_neg a3]
    refine h.rows ⟨fun q i hq => rd q i hq.2.1 hq.2.2.2.1 (by omega) (by omega), fun q i _ => rfl⟩ ⟨rd _ _ (by decide) (by decide) (by decide) (by decide), rd _ _ (by decide) (by decide) (by decide) (by decide), rd _ _ (by decide) (by decide) (by decide) (by decide), rd _ _ (by decide) (by decide) (by decide) (by decide)⟩ ?_ h.2.2.1 h.2.2.2 ?_
    · rw [gi_same, gi_nk (by decide), gi_nk (by decide), gi_nk (by decide), gi_same]
    · refine hR.upd (j := j) (n := n) hn ?_ ?_ (fun i hi => ?_) (fun r hr hne => ⟨?_, ?_, fun i hi => ⟨?_, ?_⟩⟩)
      · rw [rd _ _ (by decide) (by decide) (by omega) (by omega)]; exact e2
      · rw [rd _ _ (by decide) (by decide) (by omega) (by omega)]; exact em
      · rw [gi_nk (by decide), gi_nk (show (3 : Nat) ≠ 39 by decide), gi_nk (show (3 : Nat) ≠ 42 by decide)]
        by_cases e : i = k
        · subst e
          rw [gi_same, gi_same]
        · rw [gi_ni (by omega), gi_nk (by decide), gi_nk (by decide), gi_ni (by omega), gi_nk (show (3 : Nat) ≠ 0 by decide)]
          exact ec i hi
      · rw [rd _ _ (by decide) (by decide) (by omega) (by omega)]
      · rw [rd _ _ (by decide) (by decide) (by omega) (by omega)]
      · have := apart (w := 40) (lo := 40) hi hne (by omega)
        rw [gi_nk (by decide), gi_nk (by decide), gi_ni (by omega), gi_nk (by decide)]
      · have := apart (w := 40) (lo := 40) hi hne (by omega)
        rw [gi_nk (by decide), gi_ni (by omega), gi_nk (by decide), gi_nk (by decide)]
theorem p_text {a b : Int32} {u : St} (h : Inv u) {K1 : Int32 → St → Prop} (hK : ∀ r u1, Nx (wp_X5_text a b u1) r → K1 r u1) : wp_X4_text a b u K1 := by
  have hC := h.1.1
  have hR := h.1.2.2.1
  unfold wp_X4_text
  rcases pk_ix a (n := 4) (by decide) with c | c | ⟨j, hj, rfl⟩
  · refine w_bad (Or.inl c) ⟨fun _ => hK _ _ (fun K2 h2 => ?_), fun q => absurd rfl q⟩
    unfold wp_X5_text
    exact text_bad (Or.inl c) ⟨fun _ => h2 u h, fun q => absurd rfl q⟩
  · refine w_bad (Or.inr c) ⟨fun _ => hK _ _ (fun K2 h2 => ?_), fun q => absurd rfl q⟩
    unfold wp_X5_text
    exact text_bad (Or.inr c) ⟨fun _ => h2 u h, fun q => absurd rfl q⟩
  · refine w_ok (P := 4) hj (by decide) ⟨fun q => absurd q (by decide), fun _ => ?_⟩
    rcases pk_ix b (n := 61) (by decide) with c | c | ⟨n, hn, rfl⟩
    · refine ⟨fun _ => ⟨fun q => absurd q (lt0_nge c), fun _ => found_ok (f := 5) (by decide) (hK _ _ (fun K2 h2 => ?_))⟩, fun q => absurd (lt0_le (by decide) c) q⟩
      unfold wp_X5_text
      exact text_ok hj ⟨fun q => absurd q (by decide), fun _ => ⟨fun _ => ⟨fun q => absurd q (lt0_nge c), fun _ => find_ok (f := 5) (by decide) (h2 _ (inv_found (by decide) h))⟩, fun q => absurd (lt0_le (by decide) c) q⟩⟩
    · refine ⟨fun q => absurd q (ge_nle (by decide) c), fun _ => hK _ _ (fun K2 h2 => ?_)⟩
      unfold wp_X5_text
      exact text_ok hj ⟨fun q => absurd q (by decide), fun _ => ⟨fun q => absurd q (ge_nle (by decide) c), fun _ => h2 u h⟩⟩
    · refine ⟨fun _ => ⟨fun _ => make_ok (Sh4 hC) hj (by omega) (fun v hc hz hx => hK _ _ (fun K2 h2 => ?_)), fun q => absurd (nI_pos' (by omega)) q⟩, fun q => absurd (nI_le (b := 60) (by omega) (by decide)) q⟩
      unfold wp_X5_text
      refine text_ok hj ⟨fun q => absurd q (by decide), fun _ => ⟨fun _ => ⟨fun _ => ⟨vp_in_nI hj (by decide), ?_⟩, fun q => absurd (nI_pos' (by omega)) q⟩, fun q => absurd (nI_le (b := 60) (by omega) (by decide)) q⟩⟩
      simp only [nxt, wp_X5_text_L34]
      rw [tNn (by omega)]
      refine lc1 60 (fun i w => Chg 43 j 44 (60 * j) (60 * j + i) v w ∧ gi w 43 j = nI n ∧ ∀ k, k < i → gi w 44 (60 * j + k) = 32) ⟨⟨fun k i a1 _ => by rw [gi_if, if_neg a1], fun k i => gl_si⟩, gi_same, fun k hk => absurd hk (by omega)⟩ ?_ ?_
      · rintro K i w hi ⟨hc', hz', hx'⟩ hK'
        unfold wp_X5_text_B34
        simp only [nxt]
        rw [show (60 : Int32) = nI 60 from rfl, pk_mul, nI_add, tNn (by omega), nI_1, show vp_nar .byte 32 = 32 from rfl]
        refine ⟨fun c => absurd c (nI_ge hi (by decide)), fun _ => ⟨vp_in_nI (by omega) (by decide), hK' _ ⟨⟨fun k q a1 a2 => ?_, fun k q => gl_si.trans (hc'.2 k q)⟩, ?_, fun k hk => ?_⟩⟩⟩
        · rw [gi_if, if_neg (by omega)]
          exact hc'.1 k q a1 (by omega)
        · rw [gi_nk (by omega)]; exact hz'
        · rw [gi_if]
          by_cases e : k = i
          · subst e
            rw [if_pos (by omega)]
          · rw [if_neg (by omega)]
            exact hx' k (by omega)
      · rintro K w ⟨hc', hz', hx'⟩
        unfold wp_X5_text_B34
        refine ⟨fun _ => h2 w ?_, fun c => absurd (Int32.le_refl _) c⟩
        have rd : ∀ k i, k ≠ 5 → k ≠ 6 → k ≠ 43 → k ≠ 44 → gi w k i = gi u k i := fun k i a1 a2 a3 a4 => (hc'.1 k i (by omega) (by omega)).trans (hc.1 k i (by omega) (by omega))
        have rl : ∀ k i, gl w k i = gl u k i := fun k i => (hc'.2 k i).trans (hc.2 k i)
        refine h.texts ⟨fun k i hk => rd k i hk.1 hk.2.1 hk.2.2.1 hk.2.2.2, fun k i _ => rl k i⟩ ?_
        refine hR.upd (j := j) (n := n) (by omega) ?_ hz' (fun i hi => ?_) (fun r hr hne => ⟨?_, ?_, fun i hi => ⟨?_, ?_⟩⟩)
        · rw [hc'.1 _ _ (by omega) (by omega)]; exact hz
        · rw [hx' i (by omega), hc'.1 _ _ (by omega) (by omega)]; exact (hx i hi).symm
        · rw [hc'.1 _ _ (by omega) (by omega), hc.1 _ _ (by omega) (by omega)]
        · rw [hc'.1 _ _ (by omega) (by omega), hc.1 _ _ (by omega) (by omega)]
        · have := apart (w := 60) (lo := n) hi hne (by omega)
          rw [hc'.1 _ _ (by omega) (by omega), hc.1 _ _ (by omega) (by omega)]
        · have := apart (w := 60) (lo := 60) hi hne (by omega)
          rw [hc'.1 _ _ (by omega) (by omega), hc.1 _ _ (by omega) (by omega)]
theorem p_put {a b c : Int32} {u : St} (h : Inv u) {K1 : Int32 → St → Prop} (hK : ∀ r u1, Nx (wp_X5_put a b c u1) r → K1 r u1) : wp_X4_put a b c u K1 := by
  have hC := h.1.1
  have hR := h.1.2.2.1
  unfold wp_X4_put
  refine refP (Or.inr (Or.inl rfl)) (Sh4 hC) hR.x (fun c => ⟨fun q => absurd q (by decide), fun _ => hK _ _ (fun K2 h2 => ?_)⟩) (fun j hj e1 e2 => ⟨fun q => absurd q (by decide), fun _ => hK _ _ (fun K2 h2 => ?_)⟩) (fun j n hj e1 hn e2 hb => ⟨fun q => absurd q (by decide), fun _ => hK _ _ (fun K2 h2 => ?_)⟩) (fun j n k hj e1 hn e2 hk e3 => ⟨fun _ => ?_, fun q => absurd rfl q⟩)
  · unfold wp_X5_put
    exact text_bad c ⟨fun q => absurd rfl q, fun _ => h2 u h⟩
  · subst e1
    unfold wp_X5_put
    refine text_ok hj ⟨fun _ => ⟨vp_in_nI hj (by decide), ?_⟩, fun q => absurd q (by decide)⟩
    rw [tNn (by omega), fX_m 1 u j (by decide) (by decide), hR.m1 (by decide) hj e2]
    exact ⟨fun q => absurd q (by decide), fun _ => find_ok (f := 1) (by decide) (h2 _ (inv_found (by decide) h))⟩
  · subst e1
    unfold wp_X5_put
    refine text_ok hj ⟨fun _ => ⟨vp_in_nI hj (by decide), ?_⟩, fun q => absurd q (by decide)⟩
    rw [tNn (by omega), fX_m 2 u j (by decide) (by decide), (hR.mn (by decide) hj hn e2).1]
    exact ⟨fun _ => ⟨vp_in_nI hj (by decide), in_bad0 (by omega) rfl hb ⟨fun q => absurd rfl q, fun _ => find_ok (f := 2) (by decide) (h2 _ (inv_found (by decide) h))⟩⟩, fun q => absurd (nI_pos' (by omega)) q⟩
  · subst e1; subst e3
    obtain ⟨em, ec⟩ := hR.mn (by decide) hj hn e2
    refine get_ok (Sh4 hC) hj hn e2 hk ?_
    refine set_ok (n := n) (Sh4 hC) hj hn e2 hk ?_
    refine hK _ _ (fun K2 h2 => ?_)
    unfold wp_X5_put
    refine text_ok hj ⟨fun _ => ⟨vp_in_nI hj (by decide), ?_⟩, fun q => absurd q (by decide)⟩
    rw [tNn (by omega), gi_nk (show (43 : Nat) ≠ 4 + 2 by decide), em]
    refine ⟨fun _ => ⟨vp_in_nI hj (by decide), in_ok0 hk (by omega) rfl ⟨fun _ => ?_, fun q => absurd q (by decide)⟩⟩, fun q => absurd (nI_pos' (by omega)) q⟩
    rw [show (60 : Int32) = nI 60 from rfl, pk_mul, nI_add, tNn (by omega), gi_nk (show (44 : Nat) ≠ 4 + 2 by decide), ec k hk, pk_vb]
    refine ⟨vp_in_nI (by omega) (by decide), vp_in_nI (by omega) (by decide), ?_⟩
    simp only [nxt]
    refine h2 _ ?_
    have rd : ∀ q i, q ≠ 6 → q ≠ 44 → gi (si (si u (4 + 2) (60 * j + k) c.toInt8.toInt32) 44 (60 * j + k) c.toInt8.toInt32) q i = gi u q i := fun q i a1 a2 => by rw [gi_nk a2, gi_nk a1]
    refine h.texts ⟨fun q i hq => rd q i hq.2.1 hq.2.2.2, fun q i _ => rfl⟩ ?_
    refine hR.upd (j := j) (n := n) hn ?_ ?_ (fun i hi => ?_) (fun r hr hne => ⟨?_, ?_, fun i hi => ⟨?_, ?_⟩⟩)
    · rw [rd _ _ (by decide) (by decide)]; exact e2
    · rw [rd _ _ (by decide) (by decide)]; exact em
    · rw [gi_nk (show (6 : Nat) ≠ 44 by decide)]
      by_cases e : i = k
      · subst e
        rw [gi_same, gi_same]
      · rw [gi_ni (by omega), gi_nk (by decide), gi_ni (by omega)]
        exact ec i hi
    · rw [rd _ _ (by decide) (by decide)]
    · rw [rd _ _ (by decide) (by decide)]
    · have := apart (w := 60) (lo := 60) hi hne (by omega)
      rw [gi_nk (by decide), gi_ni (by omega)]
    · have := apart (w := 60) (lo := 60) hi hne (by omega)
      rw [gi_ni (by omega), gi_nk (by decide)]
