/-! PURE: press, scan, cut -/
theorem inv_deed {u v v' w : St} {b : Bd} {ds : Nat → Nat} {nd d : Nat} (h : Inv u) (hB : iB b u) (hD : iD b ds nd u) (hKp : iK b u) (hnd : nd < 40) (hd : dOk (bN b) d)
    (x1 : gi v 8 3 = nI (nd + 1)) (x2 : gi v 9 (120 + nd) = nI d) (x3 : MX 20 (deedF d (mtR ds nd)) v) (x4 : ∀ k i, k ≠ 20 → k ≠ 21 → ¬ (k = 8 ∧ i = 3) → ¬ (k = 9 ∧ i = 120 + nd) → gi v k i = gi u k i) (x5 : ∀ k i, k ≠ 20 → k ≠ 21 → gl v k i = gl u k i)
    (hs : SM v v') (hn : newM nd (mtv (deedF d (mtR ds nd))) v' w) : Inv w := by
  have rw1 : ∀ k i, ¬ (k = 45 ∨ (53 ≤ k ∧ k ≤ 60)) → ¬ (k = 39 ∧ i = 16) → ¬ (k = 50 ∧ 10 * (nd + 1) ≤ i ∧ i < 10 * (nd + 1) + 10) → gi w k i = gi v k i := fun k i a1 a2 a3 => (hn.2.2.1 k i a2 a3).trans (hs.1 k i a1)
  have rd : ∀ k i, ¬ (k = 45 ∨ (53 ≤ k ∧ k ≤ 60)) → ¬ (k = 39 ∧ i = 16) → ¬ (k = 50 ∧ 10 * (nd + 1) ≤ i ∧ i < 10 * (nd + 1) + 10) → k ≠ 20 → k ≠ 21 → ¬ (k = 8 ∧ i = 3) → ¬ (k = 9 ∧ i = 120 + nd) → gi w k i = gi u k i := fun k i a1 a2 a3 a4 a5 a6 a7 => (rw1 k i a1 a2 a3).trans (x4 k i a4 a5 a6 a7)
  have hS : Same (fun k => pers k ∧ k ≠ 8 ∧ k ≠ 9 ∧ k ≠ 20 ∧ k ≠ 21 ∧ k ≠ 50) u w := ⟨fun k i hk => rd k i (by have := hk.1; unfold pers at this; omega) (by have := hk.1; unfold pers at this; omega) (by omega) (by omega) (by omega) (by omega) (by omega), fun k i hk => by rw [hn.2.2.2, hs.2 _ _ (by have := hk.1; unfold pers at this; omega), x5 _ _ (by omega) (by omega)]⟩
  have p : ∀ k, (1 ≤ k ∧ k ≤ 7) ∨ (10 ≤ k ∧ k ≤ 14) ∨ k = 38 ∨ (40 ≤ k ∧ k ≤ 44) ∨ (46 ≤ k ∧ k ≤ 49) ∨ k = 51 ∨ k = 52 → (pers k ∧ k ≠ 8 ∧ k ≠ 9 ∧ k ≠ 20 ∧ k ≠ 21 ∧ k ≠ 50) := fun k hk => ⟨by unfold pers; omega, by omega, by omega, by omega, by omega, by omega⟩
  obtain ⟨⟨c1, c2, c3, ⟨c4, c5⟩, -⟩, a1, a2, a3⟩ := h
  have ec : ∀ k, k ≤ nd → mtR (fun i => if i = nd then d else ds i) k = mtR ds k := fun k hk => mtR_congr (fun i hi => if_neg (by omega))
  have e1 : mtR (fun i => if i = nd then d else ds i) (nd + 1) = deedF d (mtR ds nd) := by
    show deedF (if nd = nd then d else ds nd) (mtR (fun i => if i = nd then d else ds i) nd) = _
    rw [if_pos rfl, ec nd (Nat.le_refl _)]
  have q : ∀ i, i ≠ 16 → gi w 39 i = gi u 39 i := fun i hi => rd 39 i (by omega) (by omega) (by omega) (by omega) (by omega) (by omega) (by omega)
  have q0 : ∀ i, gi w 0 i = gi u 0 i := fun i => rd 0 i (by omega) (by omega) (by omega) (by omega) (by omega) (by omega) (by omega)
  have ql : ∀ k i, k = 0 ∨ k = 39 → gl w k i = gl u k i := fun k i hk => by rw [hn.2.2.2, hs.2 _ _ (by omega), x5 _ _ (by omega) (by omega)]
  refine ⟨⟨c1.same hS (p _ (by omega)) (p _ (by omega)) (p _ (by omega)), c2.same hS (p _ (by omega)) (p _ (by omega)) (p _ (by omega)) (p _ (by omega)), c3.same hS (p _ (by omega)) (p _ (by omega)) (p _ (by omega)) (p _ (by omega)), ⟨by rw [q 0 (by decide), q0]; exact c4, fun f hf => (hS.1 _ _ (p _ (by omega))).trans ((c5 f hf).trans (hS.1 _ _ (p _ (by omega))).symm)⟩, b, hB.same hS (q 10 (by decide)) ⟨p _ (by omega), p _ (by omega), p _ (by omega), p _ (by omega)⟩ (fun j hj => p _ (by omega)), ⟨fun i => if i = nd then d else ds i, nd + 1, by omega, ?_, hn.1, fun i hi => ?_, fun k hk j hj => ?_, ?_⟩, fun k hk => ?_⟩, ?_, ?_, ?_⟩
  · rw [rw1 _ _ (by omega) (by omega) (by omega)]; exact x1
  · show dOk (bN b) (if i = nd then d else ds i) ∧ _ = nI (if i = nd then d else ds i)
    by_cases e : i = nd
    · subst e
      rw [if_pos rfl, rw1 _ _ (by omega) (by omega) (by omega)]
      exact ⟨hd, x2⟩
    · rw [if_neg e, rd _ _ (by omega) (by omega) (by omega) (by omega) (by omega) (by omega) (by omega)]
      exact hD.2.2.2.1 i (by omega)
  · by_cases e : k = nd + 1
    · subst e
      rw [hn.2.1 j hj]
      rw [e1]
    · rw [rd _ _ (by omega) (by omega) (by omega) (by omega) (by omega) (by omega) (by omega), hD.2.2.2.2.1 k (by omega) j hj, ec k (by omega)]
  · rw [e1]
    exact ⟨by rw [rw1 _ _ (by omega) (by omega) (by omega)]; exact x3.1, by rw [rw1 _ _ (by omega) (by omega) (by omega)]; exact x3.2.1, by rw [rw1 _ _ (by omega) (by omega) (by omega)]; exact x3.2.2.1, fun i hi => by rw [rw1 _ _ (by omega) (by omega) (by omega)]; exact x3.2.2.2 i hi⟩
  · rcases hKp k hk with ⟨z1, z2⟩ | ⟨n, ks, z1, z2, z3, z4, z5⟩
    · exact Or.inl ⟨by rw [rd _ _ (by omega) (by omega) (by omega) (by omega) (by omega) (by omega) (by omega)]; exact z1, by rw [rd _ _ (by omega) (by omega) (by omega) (by omega) (by omega) (by omega) (by omega)]; exact z2⟩
    · refine Or.inr ⟨n, ks, z1, by rw [rd _ _ (by omega) (by omega) (by omega) (by omega) (by omega) (by omega) (by omega)]; exact z2, by rw [rd _ _ (by omega) (by omega) (by omega) (by omega) (by omega) (by omega) (by omega)]; exact z3, fun i hi => ⟨(z4 i hi).1, by rw [rd _ _ (by omega) (by omega) (by omega) (by omega) (by omega) (by omega) (by omega)]; exact (z4 i hi).2⟩, fun e he j hj => by rw [rd _ _ (by omega) (by omega) (by omega) (by omega) (by omega) (by omega) (by omega)]; exact z5 e he j hj⟩
  · rw [q 2 (by decide), q0]; exact a1
  · rw [ql _ _ (Or.inr rfl), ql _ _ (Or.inl rfl)]; exact a2
  · rw [ql _ _ (Or.inr rfl), ql _ _ (Or.inl rfl)]; exact a3
theorem hasX {c : Nat} {b : Bd} {p : Int32} {u : St} {Q : Int32 → St → Prop} (hb : bdOk b) (hL : LX c b u) (bad : (p < 0 ∨ nI (bN b) ≤ p) → Q 0 u) (ok : ∀ i, i < bN b → p = nI i → Q 1 u) : wp_X0_has c p u Q := by
  have hn := hb.1
  unfold wp_X0_has
  rw [hL.1]
  refine ⟨fun q => bad (Or.inl q), fun q => ⟨fun q2 => bad (Or.inr q2), fun q2 => ?_⟩⟩
  rcases pk_ix p (n := bN b) (by omega) with z | z | ⟨i, hi, rfl⟩
  · exact absurd z q
  · exact absurd z q2
  · exact ⟨fun c => absurd c (nI_ge (a := i) (b := 7) (by omega) (by decide)), fun _ => ok i hi rfl⟩
theorem keyM {b : Bd} {p : Int32} {u : St} {Q : Int32 → St → Prop} (hb : bdOk b) (hB : BM b u) (bad : (p < 0 ∨ nI (bN b) ≤ p) → Q 0 u) (ok : ∀ i, i < bN b → p = nI i → Q 1 u) : wp_X5_isKey p u Q := by
  have hn := hb.1
  unfold wp_X5_isKey
  rcases pk_ix p (n := bN b) (by omega) with z | z | ⟨i, hi, rfl⟩
  · exact in_bad0 (by omega) hB.1 (Or.inl z) ⟨nar0, bad (Or.inl z)⟩
  · exact in_bad0 (by omega) hB.1 (Or.inr z) ⟨nar0, bad (Or.inr z)⟩
  · exact in_ok0 hi (by omega) hB.1 ⟨nar1, ok i hi rfl⟩
/-- all the parts at once -/
theorem Inv.all {u : St} (h : Inv u) : ∃ b ds nd, iB b u ∧ iD b ds nd u ∧ iK b u ∧ mOk (bN b) nd (mtR ds nd) ∧ mtOk (mtR ds nd) ∧ NM (mtR ds nd) nd u := by
  obtain ⟨⟨-, -, -, -, b, hB, ⟨ds, nd, hD⟩, hK⟩, -⟩ := h
  have h1 := mtR_ok (n := bN b) (ds := ds) (k := nd) (fun i hi => (hD.2.2.2.1 i hi).1)
  exact ⟨b, ds, nd, hB, hD, hK, h1, mOk_mt h1 hB.1.1 (Nat.le_trans hD.1 (by decide)), hD.1, hD.2.2.1, fun j hj => hD.2.2.2.2.1 nd (Nat.le_refl _) j hj⟩
theorem mtv_deed_press {d : Nat} {m : Mt} (hd : d < 7) (j : Nat) (hj : j < 10) : (if j = 3 + d then 0 else if j = 0 then mP m ^^^ 2 ^ d else mtv m j) = mtv (deedF d m) j := by
  have ed : deedF d m = (mS m, mP m ^^^ 2 ^ d, mC m, fun i => if i = d then 0 else mH m i) := by
    unfold deedF
    rw [if_neg (by omega), if_neg (by omega)]
  rw [ed]
  unfold mtv
  by_cases e0 : j = 0
  · subst e0
    rw [if_neg (by omega)]
    rfl
  · by_cases e1 : j = 1
    · subst e1
      rw [if_neg (by omega)]
      rfl
    · by_cases e2 : j = 2
      · subst e2
        rw [if_neg (by omega)]
        rfl
      · rw [if_neg e0, if_neg e0, if_neg e1, if_neg e2, if_neg e0, if_neg e1, if_neg e2]
        show _ = if j - 3 = d then 0 else mH m (j - 3)
        by_cases e : j = 3 + d
        · rw [if_pos e, if_pos (by omega)]
        · rw [if_neg e, if_neg (by omega)]
/-- the reference presses a key -/
theorem s_pressM {nd d : Nat} {m : Mt} {u v : St} {Q : St → Prop} (hnd : nd < 40) (hm : mtOk m) (hd : d < 7) (h : newM nd (mtv m) u v) (hq : ∀ w, newM nd (mtv (deedF d m)) u w → Q w) : wp_X5_pressNow (nI d) v Q := by
  have hp := hm.2.2.1
  unfold wp_X5_pressNow
  refine h.now (j := 0) hnd (by decide) ?_
  rw [show mtv m 0 = mP m from rfl]
  refine s_flipped (by omega) hd ?_
  rw [h.1, show (10 : Int32) = nI 10 from rfl, pk_mul, show nI (10 * (nd + 1)) + (0 : Int32) = nI (10 * (nd + 1) + 0) from nI_add _ 0, tNn (by omega)]
  simp only [nxt]
  have h1 := h.wr (j := 0) (x := mP m ^^^ 2 ^ d) (by decide)
  refine ⟨vp_in_nI (by omega) (by decide), ?_⟩
  rw [h1.1, pk_mul, show nI (10 * (nd + 1)) + (3 : Int32) = nI (10 * (nd + 1) + 3) from nI_add _ 3, nI_add, tNn (by omega)]
  refine ⟨vp_in_nI (by omega) (by decide), hq _ ?_⟩
  have h2 := h1.wr (j := 3 + d) (x := 0) (by omega)
  rw [show 10 * (nd + 1) + (3 + d) = 10 * (nd + 1) + 3 + d by omega] at h2
  exact h2.to (fun j hj => mtv_deed_press hd j hj)
theorem mtv_deed_cut {l : Nat} {m : Mt} (j : Nat) : (if j = 2 then mC m ^^^ 2 ^ l else mtv m j) = mtv (deedF (8 + l) m) j := by
  have ed : deedF (8 + l) m = (mS m, mP m, mC m ^^^ 2 ^ l, mH m) := by
    unfold deedF
    rw [if_neg (by omega), if_pos (by omega), show 8 + l - 8 = l by omega]
  rw [ed]
  unfold mtv
  by_cases e0 : j = 0
  · subst e0; rfl
  · by_cases e1 : j = 1
    · subst e1; rfl
    · by_cases e2 : j = 2
      · subst e2; rfl
      · rw [if_neg e2, if_neg e0, if_neg e1, if_neg e2, if_neg e0, if_neg e1, if_neg e2]
        rfl
theorem nd_full {nd : Nat} (h : nd ≤ 40) : (nI nd = (40 : Int32)) ↔ nd = 40 := nI_eq (b := 40) (by omega) (by decide)
theorem p_press {a : Int32} {u : St} (h : Inv u) {K1 : Int32 → St → Prop} (hK : ∀ r u1, Nx (wp_X5_press a u1) r → K1 r u1) : wp_X4_press a u K1 := by
  obtain ⟨b, ds, nd, hB, hD, hKp, hmo, hm, hN⟩ := h.all
  have hn := hB.1.1
  have h40 := hD.1
  unfold wp_X4_press
  refine hasX hB.1 hB.2.2.2.1 (fun c => ⟨fun q => absurd rfl q, fun _ => hK _ _ (fun K2 h2 => ?_)⟩) (fun i hi e => ⟨fun _ => room_ok (n := 1) h.1.1 h40 (by decide) hD.2.1 ?_, fun q => absurd q (by decide)⟩)
  · unfold wp_X5_press
    exact keyM hB.1 hB.2.2.2.2 (fun _ => ⟨fun q => absurd rfl q, fun _ => h2 u h⟩) (fun i hi e => absurd c (by rw [e]; exact fun q => q.elim (nI_pos (by omega)) (nI_ge hi (by omega))))
  · subst e
    by_cases z : nd + 1 ≤ 40
    · rw [if_pos z]
      refine ⟨fun _ => ?_, fun q => absurd rfl q⟩
      refine s_perform h.1.1 (by omega) hD.2.1 hm hD.2.2.2.2.2 (show i < 12 by omega) (fun v x1 x2 x3 x4 x5 => ?_)
      have hmo2 := deedF_ok hmo (show dOk (bN b) i from ⟨by omega, fun _ => hi⟩)
      have hp2 : mP (deedF i (mtR ds nd)) < 128 := Nat.lt_of_lt_of_le hmo2.2.2.1 (two7 hn)
      rw [x3.2.1]
      refine s_bitCount (by omega) (hK _ _ (fun K2 h2 => ?_))
      have qv : ∀ k i, k = 39 ∨ k = 50 → gi v k i = gi u k i := fun k i hk => x4 k i (by omega) (by omega) (by omega) (by omega)
      have hBv : BM b v := ⟨(x4 _ _ (by decide) (by decide) (by decide) (by omega)).trans hB.2.2.2.2.1, fun i hi => by rw [x4 _ _ (by decide) (by decide) (by omega) (by omega), x4 _ _ (by decide) (by decide) (by omega) (by omega), x4 _ _ (by decide) (by decide) (by omega) (by omega), x4 _ _ (by decide) (by decide) (by omega) (by omega)]; exact hB.2.2.2.2.2 i hi⟩
      unfold wp_X5_press
      refine keyM hB.1 hBv (fun c => absurd c (fun q => q.elim (nI_pos (by omega)) (nI_ge hi (by omega)))) (fun i' hi' e' => ⟨fun _ => ?_, fun q => absurd q (by decide)⟩)
      rw [qv _ _ (Or.inl rfl), hN.2.1]
      refine ⟨fun _ => ?_, fun q => absurd ((nd_full h40).mp q) (by omega)⟩
      refine s_begin (nd := nd) (f := mtv (mtR ds nd)) (by omega) (by rw [qv _ _ (Or.inl rfl)]; exact hN.2.1) (fun j hj => by rw [qv _ _ (Or.inr rfl)]; exact hN.2.2 j hj) (fun w hw => ?_)
      refine s_pressM (by omega) hm (by omega) hw (fun x hx => ?_)
      refine hx.now (j := 0) (by omega) (by decide) ?_
      exact s_bitsOf (show mP (deedF i (mtR ds nd)) < 256 by omega) (h2 _ (inv_deed h hB hD hKp (by omega) ⟨by omega, fun _ => hi⟩ x1 x2 x3 x4 x5 Same.rfl' hx))
    · rw [if_neg z]
      refine ⟨fun q => absurd q (by decide), fun _ => hK _ _ (fun K2 h2 => ?_)⟩
      unfold wp_X5_press
      refine keyM hB.1 hB.2.2.2.2 (fun c => absurd c (fun q => q.elim (nI_pos (by omega)) (nI_ge hi (by omega)))) (fun i' hi' e' => ⟨fun _ => ?_, fun q => absurd q (by decide)⟩)
      rw [hN.2.1]
      exact ⟨fun q => absurd ((nd_full h40).mpr (by omega)) q, fun _ => h2 u h⟩
theorem nkeys0 {b : Bd} (hb : bdOk b) : (nI (bN b) = (0 : Int32)) ↔ bN b = 0 := nI_eq (b := 0) (by have := hb.1; omega) (by decide)
theorem p_cut {a : Int32} {u : St} (h : Inv u) {K1 : Int32 → St → Prop} (hK : ∀ r u1, Nx (wp_X5_cut a u1) r → K1 r u1) : wp_X4_cut a u K1 := by
  obtain ⟨b, ds, nd, hB, hD, hKp, hmo, hm, hN⟩ := h.all
  have hn := hB.1.1
  have h40 := hD.1
  unfold wp_X4_cut
  have bad : (a < 0 ∨ nI 4 ≤ a) → Nx (wp_X5_cut a u) (-1) := fun c K2 h2 => by
    unfold wp_X5_cut
    exact line_bad c ⟨fun q => absurd rfl q, fun _ => h2 u h⟩
  rcases pk_ix a (n := 4) (by decide) with c | c | ⟨l, hl, rfl⟩
  · exact w_bad (Or.inl c) ⟨fun q => absurd rfl q, fun _ => hK _ _ (bad (Or.inl c))⟩
  · exact w_bad (Or.inr c) ⟨fun q => absurd rfl q, fun _ => hK _ _ (bad (Or.inr c))⟩
  · refine w_ok (P := 4) hl (by decide) ⟨fun _ => ?_, fun q => absurd q (by decide)⟩
    rw [hB.2.2.2.1.1]
    refine ⟨fun c0 => ?_, fun c0 => hK _ _ (fun K2 h2 => ?_)⟩
    · refine room_ok (n := 1) h.1.1 h40 (by decide) hD.2.1 ?_
      by_cases z : nd + 1 ≤ 40
      · rw [if_pos z]
        refine ⟨fun _ => ?_, fun q => absurd rfl q⟩
        rw [show (8 : Int32) + nI l = nI (8 + l) from nI_add 8 l]
        have hdok : dOk (bN b) (8 + l) := ⟨by omega, fun q => absurd q (by omega)⟩
        refine s_perform h.1.1 (by omega) hD.2.1 hm hD.2.2.2.2.2 (show 8 + l < 12 by omega) (fun v x1 x2 x3 x4 x5 => ?_)
        have hmo2 := deedF_ok hmo hdok
        have hc2 := hmo2.2.1
        rw [x3.2.2.1]
        refine s_bitCount (by omega) (hK _ _ (fun K2 h2 => ?_))
        have qv : ∀ k i, k = 39 ∨ k = 50 → gi v k i = gi u k i := fun k i hk => x4 k i (by omega) (by omega) (by omega) (by omega)
        unfold wp_X5_cut
        refine line_ok hl ⟨fun _ => ?_, fun q => absurd q (by decide)⟩
        rw [qv _ _ (Or.inl rfl), qv _ _ (Or.inl rfl), hB.2.2.2.2.1, hN.2.1]
        refine ⟨fun _ => ⟨fun _ => ?_, fun q => absurd ((nd_full h40).mp q) (by omega)⟩, fun q => absurd q c0⟩
        refine s_begin (nd := nd) (f := mtv (mtR ds nd)) (by omega) (by rw [qv _ _ (Or.inl rfl)]; exact hN.2.1) (fun j hj => by rw [qv _ _ (Or.inr rfl)]; exact hN.2.2 j hj) (fun w hw => ?_)
        refine hw.now (j := 2) (by omega) (by decide) ?_
        have hcut := hm.2.1
        refine s_flipped (show mC (mtR ds nd) < 128 by omega) (by omega) ?_
        rw [hw.1, show (10 : Int32) = nI 10 from rfl, pk_mul, show nI (10 * (nd + 1)) + (2 : Int32) = nI (10 * (nd + 1) + 2) from nI_add _ 2, tNn (by omega)]
        simp only [nxt]
        have hw2 := (hw.wr (j := 2) (x := mC (mtR ds nd) ^^^ 2 ^ l) (by decide)).to (fun j _ => mtv_deed_cut j)
        refine ⟨vp_in_nI (by omega) (by decide), hw2.now (j := 2) (by omega) (by decide) ?_⟩
        exact s_bitsOf (show mC (deedF (8 + l) (mtR ds nd)) < 256 by omega) (h2 _ (inv_deed h hB hD hKp (by omega) hdok x1 x2 x3 x4 x5 Same.rfl' hw2))
      · rw [if_neg z]
        refine ⟨fun q => absurd q (by decide), fun _ => hK _ _ (fun K2 h2 => ?_)⟩
        unfold wp_X5_cut
        refine line_ok hl ⟨fun _ => ?_, fun q => absurd q (by decide)⟩
        rw [hB.2.2.2.2.1, hN.2.1]
        exact ⟨fun _ => ⟨fun q => absurd ((nd_full h40).mpr (by omega)) q, fun _ => h2 u h⟩, fun q => absurd q c0⟩
    · unfold wp_X5_cut
      refine line_ok hl ⟨fun _ => ?_, fun q => absurd q (by decide)⟩
      rw [hB.2.2.2.2.1]
      exact ⟨fun q => absurd c0 q, fun _ => h2 u h⟩
/-- the reference alone: told now -/
theorem toldM0 {b : Bd} {m : Mt} {nd : Nat} {u : St} {Q : Int32 → St → Prop} (hb : bdOk b) (hm : mtOk m) (hB : BM b u) (hN : NM m nd u) (hq : ∀ v, SM u v → Q (nI (toldF b m (mP m))) v) : wp_X5_toldNow u Q := by
  unfold wp_X5_toldNow
  refine s_X5_take hb hB hN (fun v hT hs => s_X5_toldBy hb hm hm.2.2.1 hT (fun w ht => hq w ?_))
  exact Same.trans (hs.weak (fun k hk => by unfold notK; omega)) (ht.weak (fun k hk => by omega))
theorem deed7 (m : Mt) : deedF 7 m = passF m := if_pos rfl
theorem p_scan {u : St} (h : Inv u) {K1 : Int32 → St → Prop} (hK : ∀ r u1, Nx (wp_X5_scan u1) r → K1 r u1) : wp_X4_scan u K1 := by
  obtain ⟨b, ds, nd, hB, hD, hKp, hmo, hm, hN⟩ := h.all
  have hn := hB.1.1
  have h40 := hD.1
  unfold wp_X4_scan
  rw [hB.2.2.2.1.1]
  refine ⟨fun c0 => ?_, fun c0 => hK _ _ (fun K2 h2 => ?_)⟩
  · refine room_ok (n := 1) h.1.1 h40 (by decide) hD.2.1 ?_
    by_cases z : nd + 1 ≤ 40
    · rw [if_pos z]
      refine ⟨fun _ => ?_, fun q => absurd rfl q⟩
      unfold wp_X4_toldNow
      refine s_toldAt (Or.inl rfl) hB.1 hm hB.2.2.2.1 hD.2.2.2.2.2 (fun u' hsx => ?_)
      have ht := toldF_lt7 hB.1 (mtR ds nd) (mP (mtR ds nd))
      have h' := h.sx hsx
      have hB' : iB b u' := hB.same hsx (hsx.1 _ _ (by omega)) ⟨by omega, by omega, by omega, by omega⟩ (fun j hj => by omega)
      have hD' : iD b ds nd u' := hD.same hsx (hsx.1 _ _ (by omega)) ⟨by omega, by omega, by omega, by omega, by omega⟩
      have hK' : iK b u' := hKp.same hsx ⟨by omega, by omega, by omega, by omega⟩
      have hN' : NM (mtR ds nd) nd u' := ⟨hN.1, (hsx.1 _ _ (by omega)).trans hN.2.1, fun j hj => (hsx.1 _ _ (by omega)).trans (hN.2.2 j hj)⟩
      refine s_bitCount (by omega) ?_
      refine s_perform h'.1.1 (by omega) hD'.2.1 hm hD'.2.2.2.2.2 (show 7 < 12 by decide) (fun v x1 x2 x3 x4 x5 => hK _ _ (fun K2 h2 => ?_))
      have qv : ∀ k i, k = 39 ∨ k = 50 → gi v k i = gi u' k i := fun k i hk => x4 k i (by omega) (by omega) (by omega) (by omega)
      have hBv : BM b v := ⟨(x4 _ _ (by decide) (by decide) (by decide) (by omega)).trans hB'.2.2.2.2.1, fun i hi => by rw [x4 _ _ (by decide) (by decide) (by omega) (by omega), x4 _ _ (by decide) (by decide) (by omega) (by omega), x4 _ _ (by decide) (by decide) (by omega) (by omega), x4 _ _ (by decide) (by decide) (by omega) (by omega)]; exact hB'.2.2.2.2.2 i hi⟩
      have hNv : NM (mtR ds nd) nd v := ⟨hN.1, (qv _ _ (Or.inl rfl)).trans hN'.2.1, fun j hj => (qv _ _ (Or.inr rfl)).trans (hN'.2.2 j hj)⟩
      unfold wp_X5_scan
      rw [hBv.1, hNv.2.1]
      refine ⟨fun _ => ⟨fun _ => ?_, fun q => absurd ((nd_full h40).mp q) (by omega)⟩, fun q => absurd q c0⟩
      refine toldM0 hB.1 hm hBv hNv (fun v' hs => s_bitsOf (by omega) ?_)
      refine s_begin (nd := nd) (f := mtv (mtR ds nd)) (by omega) ((hs.1 _ _ (by omega)).trans hNv.2.1) (fun j hj => (hs.1 _ _ (by omega)).trans (hNv.2.2 j hj)) (fun w hw => ?_)
      rw [hw.1, show (10 : Int32) = nI 10 from rfl, pk_mul]
      refine s_passOn (K0 := 50) (m := mtR ds nd) (Or.inl rfl) (show 10 * (nd + 1) + 10 ≤ 410 by omega) hn hm hmo.2.2.1 ((hw.2.2.1 _ _ (by omega) (by omega)).trans ((hs.1 _ _ (by omega)).trans hBv.1)) hw.2.1 (fun x y1 y2 y3 => ?_)
      refine h2 _ (inv_deed h' hB' hD' hK' (by omega) ⟨by decide, fun q => absurd q (by decide)⟩ x1 x2 x3 x4 x5 hs ⟨?_, fun j hj => ?_, fun k i a1 a2 => ?_, fun k i => (y3 k i).trans (hw.2.2.2 k i)⟩)
      · rw [y2 _ _ (by omega)]; exact hw.1
      · rw [deed7]; exact y1 j hj
      · rw [y2 _ _ (by omega)]; exact hw.2.2.1 k i a1 a2
    · rw [if_neg z]
      refine ⟨fun q => absurd q (by decide), fun _ => hK _ _ (fun K2 h2 => ?_)⟩
      unfold wp_X5_scan
      rw [hB.2.2.2.2.1, hN.2.1]
      exact ⟨fun _ => ⟨fun q => absurd ((nd_full h40).mpr (by omega)) q, fun _ => h2 u h⟩, fun q => absurd q c0⟩
  · unfold wp_X5_scan
    rw [hB.2.2.2.2.1]
    exact ⟨fun q => absurd c0 q, fun _ => h2 u h⟩
