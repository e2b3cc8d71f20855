/-! PURE: undo, keep, on, lots -/
def scrX (k : Nat) : Prop := (15 ≤ k ∧ k ≤ 19) ∨ (22 ≤ k ∧ k ≤ 37)
def scrM (k : Nat) : Prop := k = 45 ∨ (53 ≤ k ∧ k ≤ 60)
/-- other deeds: nothing else has changed -/
theorem Inv.deeds {u w : St} {b : Bd} {ds : Nat → Nat} {nd : Nat} (h : Inv u) (hB : iB b u) (hKp : iK b u) (rd : ∀ k i, ¬ scrX k → ¬ scrM k → k ≠ 20 → k ≠ 21 → k ≠ 50 → ¬ (k = 8 ∧ i = 3) → ¬ (k = 9 ∧ 120 ≤ i) → ¬ (k = 39 ∧ i = 16) → gi w k i = gi u k i) (rl : ∀ k i, ¬ scrX k → ¬ scrM k → k ≠ 20 → k ≠ 21 → gl w k i = gl u k i) (hD : iD b ds nd w) : Inv w := by
  obtain ⟨⟨c1, c2, c3, ⟨c4, c5⟩, -⟩, a1, a2, a3⟩ := h
  have hS : Same (fun k => pers k ∧ k ≠ 8 ∧ k ≠ 9 ∧ k ≠ 20 ∧ k ≠ 21 ∧ k ≠ 50) u w := ⟨fun k i hk => by
    have h1 := hk.1
    unfold pers at h1
    exact rd k i (by unfold scrX; omega) (by unfold scrM; omega) (by omega) (by omega) (by omega) (by omega) (by omega) (by omega), fun k i hk => by
    have h1 := hk.1
    unfold pers at h1
    exact rl k i (by unfold scrX; omega) (by unfold scrM; omega) (by omega) (by omega)⟩
  have p : ∀ k, (1 ≤ k ∧ k ≤ 7) ∨ (10 ≤ k ∧ k ≤ 14) ∨ k = 38 ∨ (40 ≤ k ∧ k ≤ 44) ∨ (46 ≤ k ∧ k ≤ 49) ∨ k = 51 ∨ k = 52 → (pers k ∧ k ≠ 8 ∧ k ≠ 9 ∧ k ≠ 20 ∧ k ≠ 21 ∧ k ≠ 50) := fun k hk => ⟨by unfold pers; omega, by omega, by omega, by omega, by omega, by omega⟩
  have q : ∀ i, i ≠ 16 → gi w 39 i = gi u 39 i := fun i hi => rd 39 i (by unfold scrX; omega) (by unfold scrM; omega) (by omega) (by omega) (by omega) (by omega) (by omega) (by omega)
  have q0 : ∀ i, gi w 0 i = gi u 0 i := fun i => rd 0 i (by unfold scrX; omega) (by unfold scrM; omega) (by omega) (by omega) (by omega) (by omega) (by omega) (by omega)
  have ql : ∀ k i, k = 0 ∨ k = 39 → gl w k i = gl u k i := fun k i hk => rl k i (by unfold scrX; omega) (by unfold scrM; omega) (by omega) (by omega)
  have q8 : ∀ i, i ≠ 3 → gi w 8 i = gi u 8 i := fun i hi => rd 8 i (by unfold scrX; omega) (by unfold scrM; omega) (by omega) (by omega) (by omega) (by omega) (by omega) (by omega)
  have q9 : ∀ i, i < 120 → gi w 9 i = gi u 9 i := fun i hi => rd 9 i (by unfold scrX; omega) (by unfold scrM; omega) (by omega) (by omega) (by omega) (by omega) (by omega) (by omega)
  refine ⟨⟨c1.same hS (p _ (by omega)) (p _ (by omega)) (p _ (by omega)), c2.same hS (p _ (by omega)) (p _ (by omega)) (p _ (by omega)) (p _ (by omega)), c3.same hS (p _ (by omega)) (p _ (by omega)) (p _ (by omega)) (p _ (by omega)), ⟨by rw [q 0 (by decide), q0]; exact c4, fun f hf => (hS.1 _ _ (p _ (by omega))).trans ((c5 f hf).trans (hS.1 _ _ (p _ (by omega))).symm)⟩, b, hB.same hS (q 10 (by decide)) ⟨p _ (by omega), p _ (by omega), p _ (by omega), p _ (by omega)⟩ (fun j hj => p _ (by omega)), ⟨ds, nd, hD⟩, fun k hk => ?_⟩, ?_, ?_, ?_⟩
  · rcases hKp k hk with ⟨z1, z2⟩ | ⟨n, ks, z1, z2, z3, z4, z5⟩
    · exact Or.inl ⟨by rw [q8 _ (by omega)]; exact z1, by rw [hS.1 _ _ (p _ (by omega))]; exact z2⟩
    · exact Or.inr ⟨n, ks, z1, by rw [q8 _ (by omega)]; exact z2, by rw [hS.1 _ _ (p _ (by omega))]; exact z3, fun i hi => ⟨(z4 i hi).1, by rw [q9 _ (by omega)]; exact (z4 i hi).2⟩, fun e he j hj => by rw [hS.1 _ _ (p _ (by omega))]; exact z5 e he j hj⟩
  · rw [q 2 (by decide), q0]; exact a1
  · rw [ql _ _ (Or.inr rfl), ql _ _ (Or.inl rfl)]; exact a2
  · rw [ql _ _ (Or.inr rfl), ql _ _ (Or.inl rfl)]; exact a3
theorem s_reset {mb : Nat} {u : St} {Q : St → Prop} (hmb : isMom mb) (h : ∀ v, MX mb mt0 v → Same (momO mb) u v → Q v) : wp_X1_reset mb u Q := by
  have hmb' : mb = 20 ∨ mb = 22 := hmb
  unfold wp_X1_reset
  simp only [nxt, wp_X1_reset_L17]
  have hb : ¬ momO mb mb := fun q => q.1 rfl
  refine lc1 7 (fun i v => Same (momO mb) u v ∧ gi v mb 1 = nI 0 ∧ gi v mb 2 = nI 0 ∧ gi v mb 3 = nI 0 ∧ ∀ j, j < i → gi v (mb + 1) j = nI 0) ⟨((Same.rfl'.si hb).si hb).si hb, by rw [gi_ni (by decide), gi_ni (by decide), gi_same]; rfl, by rw [gi_ni (by decide), gi_same]; rfl, by rw [gi_same]; rfl, fun j hj => absurd hj (by omega)⟩ ?_ ?_
  · rintro K i v hi ⟨s1, s2, s3, s4, s5⟩ hK
    unfold wp_X1_reset_B17
    simp only [nxt]
    rw [tNn (by omega), nI_1]
    refine ⟨fun c => absurd c (nI_ge hi (by decide)), fun _ => ⟨vp_in_nI hi (by decide), hK _ ⟨s1.si (fun q => q.2 rfl), by rw [gi_nk (by omega)]; exact s2, by rw [gi_nk (by omega)]; exact s3, by rw [gi_nk (by omega)]; exact s4, fun j hj => ?_⟩⟩⟩
    by_cases e : j = i
    · subst e; rw [gi_same]; rfl
    · rw [gi_ni e]; exact s5 j (by omega)
  · rintro K v ⟨s1, s2, s3, s4, s5⟩
    unfold wp_X1_reset_B17
    exact ⟨fun _ => h v ⟨s2, s3, s4, s5⟩ s1, fun c => absurd (by decide) c⟩
theorem s_replay {n nd : Nat} {ds : Nat → Nat} {u : St} {Q : St → Prop} (hn : n ≤ 7) (hC : iC u) (hnd : nd ≤ 40) (e8 : gi u 8 3 = nI nd) (hd : ∀ i, i < nd → dOk n (ds i) ∧ gi u 9 (120 + i) = nI (ds i)) (h : ∀ v, MX 20 (mtR ds nd) v → Same (momO 20) u v → Q v) : wp_X4_replay u Q := by
  unfold wp_X4_replay
  refine s_reset (Or.inl rfl) (fun v hM hs => ?_)
  have hCv : iC v := hC.same hs ⟨by decide, by decide⟩ ⟨by decide, by decide⟩ ⟨by decide, by decide⟩
  refine size_ok (Sh7 hCv) (show 3 < 4 by decide) ?_
  rw [show gi v (7 + 1) 3 = nI nd from (hs.1 _ _ ⟨by decide, by decide⟩).trans e8]
  simp only [wp_X4_replay_L18]
  refine lc2 nd (fun i a w => a = nI nd ∧ MX 20 (mtR ds i) w ∧ Same (momO 20) u w) ⟨rfl, hM, hs⟩ ?_ ?_
  · rintro K i a w hi ⟨rfl, hMw, hsw⟩ hK
    have hCw : iC w := hC.same hsw ⟨by decide, by decide⟩ ⟨by decide, by decide⟩ ⟨by decide, by decide⟩
    unfold wp_X4_replay_B18
    refine ⟨fun c => absurd c (nI_ge hi (by omega)), fun _ => ?_⟩
    refine get_ok (n := nd) (Sh7 hCw) (show 3 < 4 by decide) hnd ((hsw.1 _ _ ⟨by decide, by decide⟩).trans e8) hi ?_
    rw [show gi w (7 + 2) (40 * 3 + i) = nI (ds i) from (hsw.1 _ _ ⟨by decide, by decide⟩).trans (hd i hi).2]
    have hmo := mtR_ok (n := n) (ds := ds) (k := i) (fun j hj => (hd j (by omega)).1)
    refine s_undergo (Or.inl rfl) (mOk_mt hmo hn (by omega)) hMw (hd i hi).1.1 (fun x hx hsx => ?_)
    rw [nI_1]
    exact hK _ _ ⟨rfl, hx, hsw.trans hsx⟩
  · rintro K a w ⟨rfl, hMw, hsw⟩
    unfold wp_X4_replay_B18
    exact ⟨fun _ => h w hMw hsw, fun c => absurd (Int32.le_refl _) c⟩
theorem p_undo {a : Int32} {u : St} (h : Inv u) {K1 : Int32 → St → Prop} (hK : ∀ r u1, Nx (wp_X5_undo a u1) r → K1 r u1) : wp_X4_undo a u K1 := by
  obtain ⟨b, ds, nd, hB, hD, hKp, hmo, hm, hN⟩ := h.all
  have hn := hB.1.1
  have h40 := hD.1
  unfold wp_X4_undo
  refine size_ok (Sh7 h.1.1) (show 3 < 4 by decide) ?_
  rw [show gi u (7 + 1) 3 = nI nd from hD.2.1]
  have bad : (a < 0 ∨ ¬ a ≤ nI nd) → Nx (wp_X5_undo a u) (-1) := fun c K2 h2 => by
    unfold wp_X5_undo wp_X5_in
    rw [hN.2.1]
    exact ⟨fun _ => ⟨fun q => absurd rfl q, fun _ => h2 u h⟩, fun c1 => ⟨fun _ => ⟨fun q => absurd rfl q, fun _ => h2 u h⟩, fun c2 => absurd c (fun q => q.elim c1 (fun z => z (Int32.not_lt.mp c2)))⟩⟩
  refine ⟨fun c => hK _ _ (bad (Or.inl c)), fun c1 => ⟨fun c2 => ?_, fun c2 => hK _ _ (bad (Or.inr c2))⟩⟩
  obtain ⟨n, hnn, rfl⟩ := nI_of c1
  have hle : n ≤ nd := (nI_leI hnn (by omega)).mp c2
  unfold wp_X2_shorten
  refine ⟨fun q => absurd q c1, fun _ => size_ok (Sh7 h.1.1) (show 3 < 4 by decide) ?_⟩
  rw [show gi u (7 + 1) 3 = nI nd from hD.2.1]
  refine ⟨fun q => absurd c2 (Int32.not_le.mpr q), fun _ => ⟨vp_in_nI (n := 3) (by decide) (by decide), ?_⟩⟩
  simp only [nxt]
  rw [show Int32.toNatClampNeg 3 = 3 from rfl, pk_sub hle]
  have f1 : ∀ k i, ¬ (k = 8 ∧ i = 3) → gi (si u (7 + 1) 3 (nI n)) k i = gi u k i := fun k i hk => by rw [gi_if, if_neg hk]
  have hC1 : iC (si u (7 + 1) 3 (nI n)) := h.1.1.same (P := fun k => k ≠ 8) (Same.rfl'.si (fun q => q rfl)) (by decide) (by decide) (by decide)
  refine s_replay (ds := ds) hn hC1 (show n ≤ 40 by omega) gi_same (fun i hi => ⟨(hD.2.2.2.1 i (by omega)).1, by rw [f1 _ _ (by omega)]; exact (hD.2.2.2.1 i (by omega)).2⟩) (fun v hM hs => hK _ _ (fun K2 h2 => ?_))
  unfold wp_X5_undo wp_X5_in
  have e16 : gi v 39 16 = nI nd := (hs.1 _ _ ⟨by decide, by decide⟩).trans ((f1 _ _ (by decide)).trans hN.2.1)
  rw [e16]
  refine ⟨fun q => absurd q c1, fun _ => ⟨fun q => absurd c2 (Int32.not_le.mpr q), fun _ => ⟨fun _ => ?_, fun q => absurd q (by decide)⟩⟩⟩
  simp only [nxt]
  rw [e16, pk_sub hle]
  refine h2 _ (h.deeds (ds := ds) (nd := n) hB hKp (fun k i a1 a2 a3 a4 a5 a6 a7 a8 => ?_) (fun k i a1 a2 a3 a4 => ?_) ⟨by omega, ?_, gi_same, fun i hi => ⟨(hD.2.2.2.1 i (by omega)).1, ?_⟩, fun d hd j hj => ?_, ?_⟩)
  · rw [gi_if, if_neg a8, hs.1 _ _ ⟨a3, a4⟩, f1 _ _ a6]
  · rw [gl_si, hs.2 _ _ ⟨a3, a4⟩, gl_si]
  · rw [gi_nk (by decide), hs.1 _ _ ⟨by decide, by decide⟩]; exact gi_same
  · rw [gi_nk (by decide), hs.1 _ _ ⟨by decide, by decide⟩, f1 _ _ (by omega)]; exact (hD.2.2.2.1 i (by omega)).2
  · rw [gi_nk (by decide), hs.1 _ _ ⟨by decide, by decide⟩, f1 _ _ (by omega)]; exact hD.2.2.2.2.1 d (by omega) j hj
  · exact hM.same (P := fun k => k ≠ 39) (Same.rfl'.si (fun q => q rfl)) (fun j hj => by omega)
/-- a shelf's row is copied to another -/
theorem s_moveAll {b P w p t n : Nat} {u : St} {Q : St → Prop} (hs : Sh b P w u) (hp : p < P) (ht : t < P) (hpt : p ≠ t) (hn : n ≤ w) (e : gi u (b + 1) p = nI n) (h : ∀ v, gi v (b + 1) t = nI n → (∀ i, i < n → gi v (b + 2) (w * t + i) = gi u (b + 2) (w * p + i)) → Chg (b + 1) t (b + 2) (w * t) (w * t + n) u v → Q v) : wp_X2_moveAll b (nI p) (nI t) u Q := by
  have hw := hs.2.2.2.2.2.2
  unfold wp_X2_moveAll
  refine size_ok hs hp ?_
  rw [e]
  refine make_ok hs ht hn (fun v hc hz hx => ?_)
  have hsv : Sh b P w v := hs.keep (hc.1 _ _ (by omega) (by omega)) (hc.1 _ _ (by omega) (by omega))
  have ev : gi v (b + 1) p = nI n := (hc.1 _ _ (by omega) (by omega)).trans e
  refine size_ok hsv hp ?_
  rw [ev]
  refine move_ok (i := 0) (i2 := 0) hsv hp ev hn (by omega) ht hz hn (by omega) ?_
  refine h _ ?_ (fun i hi => ?_) ⟨fun k i a1 a2 => ?_, fun k i => gl_sc.trans (hc.2 k i)⟩
  · rw [gi_sc, if_neg (by omega)]; exact hz
  · rw [gi_sc, if_pos (by omega), show w * p + 0 + (w * t + i - (w * t + 0)) = w * p + i by omega]
    have := apart (w := w) (j := t) (r := p) (i := i) (lo := n) (by omega) hpt hn
    exact hc.1 _ _ (by omega) (by omega)
  · rw [gi_sc, if_neg (by omega)]
    exact hc.1 k i a1 a2
theorem p_keep {a : Int32} {u : St} (h : Inv u) {K1 : Int32 → St → Prop} (hK : ∀ r u1, Nx (wp_X5_keep a u1) r → K1 r u1) : wp_X4_keep a u K1 := by
  obtain ⟨b, ds, nd, hB, hD, hKp, hmo, hm, hN⟩ := h.all
  have hn := hB.1.1
  have h40 := hD.1
  unfold wp_X4_keep
  have bad : (a < 0 ∨ nI 3 ≤ a) → Nx (wp_X5_keep a u) (-1) := fun c K2 h2 => by
    unfold wp_X5_keep
    exact in_bad (P := 3) (by decide) (by decide) rfl c ⟨fun q => absurd rfl q, fun _ => h2 u h⟩
  rcases pk_ix a (n := 3) (by decide) with c | c | ⟨k, hk, rfl⟩
  · exact w_bad (Or.inl c) ⟨fun q => absurd rfl q, fun _ => hK _ _ (bad (Or.inl c))⟩
  · exact w_bad (Or.inr c) ⟨fun q => absurd rfl q, fun _ => hK _ _ (bad (Or.inr c))⟩
  · refine w_ok (P := 3) hk (by decide) ⟨fun _ => ?_, fun q => absurd q (by decide)⟩
    rw [hB.2.2.2.1.1]
    refine ⟨fun c0 => ?_, fun c0 => hK _ _ (fun K2 h2 => ?_)⟩
    · refine s_moveAll (p := 3) (t := k) (Sh7 h.1.1) (by decide) (by omega) (by omega) h40 hD.2.1 (fun v z1 z2 z3 => ?_)
      have hsv : Sh 7 4 40 v := (Sh7 h.1.1).keep (z3.1 _ _ (by omega) (by omega)) (z3.1 _ _ (by omega) (by omega))
      refine size_ok hsv (show k < 4 by omega) ?_
      rw [z1]
      refine hK _ _ (fun K2 h2 => ?_)
      have rv : ∀ q i, q ≠ 8 → q ≠ 9 → gi v q i = gi u q i := fun q i a1 a2 => z3.1 q i (by omega) (by omega)
      unfold wp_X5_keep
      refine in_ok (P := 3) hk (by decide) rfl ⟨fun _ => ?_, fun q => absurd q (by decide)⟩
      rw [rv _ _ (by decide) (by decide), hB.2.2.2.2.1]
      refine ⟨fun _ => ?_, fun q => absurd q c0⟩
      simp only [wp_X5_keep_L23]
      refine lc1 410 (fun i w => (∀ j, j < i → gi w 51 (410 * k + j) = gi u 50 j) ∧ (∀ q x, ¬ (q = 51 ∧ 410 * k ≤ x ∧ x < 410 * k + 410) → gi w q x = gi v q x) ∧ ∀ q x, gl w q x = gl v q x) ⟨fun j hj => absurd hj (by omega), fun _ _ _ => rfl, fun _ _ => rfl⟩ ?_ ?_
      · rintro K i w hi ⟨s1, s2, s3⟩ hK'
        unfold wp_X5_keep_B23
        simp only [nxt]
        rw [show (410 : Int32) = nI 410 from rfl, pk_mul, nI_add, tNn (show k < 2 ^ 31 by omega), tNn (show 410 * k + i < 2 ^ 31 by omega), tNn (show i < 2 ^ 31 by omega), s2 50 i (by omega), rv _ _ (by decide) (by decide), nI_1]
        refine ⟨fun c => absurd c (nI_ge hi (by decide)), fun _ => ⟨vp_in_nI hi (by decide), vp_in_nI (by omega) (by decide), hK' _ ⟨fun j hj => ?_, fun q x hq => by rw [gi_if, if_neg (by omega)]; exact s2 q x hq, fun q x => gl_si.trans (s3 q x)⟩⟩⟩
        rw [gi_if]
        by_cases e : j = i
        · subst e; rw [if_pos ⟨rfl, rfl⟩]
        · rw [if_neg (by omega)]; exact s1 j (by omega)
      · rintro K w ⟨s1, s2, s3⟩
        unfold wp_X5_keep_B23
        simp only [nxt]
        have e16 : gi w 39 16 = nI nd := by rw [s2 _ _ (by omega), rv _ _ (by decide) (by decide)]; exact hN.2.1
        rw [e16, tNn (by omega)]
        refine ⟨fun _ => ⟨vp_in_nI hk (by decide), ?_⟩, fun c => absurd (by decide) c⟩
        rw [gi_nk (show (39 : Nat) ≠ 52 by decide), e16]
        refine h2 _ ?_
        have rd : ∀ q i, q ≠ 8 → q ≠ 9 → q ≠ 51 → q ≠ 52 → gi (si w 52 k (nI nd)) q i = gi u q i := fun q i a1 a2 a3 a4 => by rw [gi_nk a4, s2 _ _ (by omega), rv _ _ a1 a2]
        have rl : ∀ q i, gl (si w 52 k (nI nd)) q i = gl u q i := fun q i => by rw [gl_si, s3, z3.2]
        have r8 : ∀ i, i ≠ k → gi (si w 52 k (nI nd)) 8 i = gi u 8 i := fun i hi => by rw [gi_nk (by decide), s2 _ _ (by omega), z3.1 _ _ (by omega) (by omega)]
        have r9 : ∀ i, ¬ (40 * k ≤ i ∧ i < 40 * k + nd) → gi (si w 52 k (nI nd)) 9 i = gi u 9 i := fun i hi => by rw [gi_nk (by decide), s2 _ _ (by omega), z3.1 _ _ (by omega) (by omega)]
        have hS : Same (fun q => q ≠ 8 ∧ q ≠ 9 ∧ q ≠ 51 ∧ q ≠ 52) u (si w 52 k (nI nd)) := ⟨fun q i hq => rd q i hq.1 hq.2.1 hq.2.2.1 hq.2.2.2, fun q i _ => rl q i⟩
        obtain ⟨⟨c1, c2, c3, ⟨c4, c5⟩, -⟩, a1, a2, a3⟩ := id h
        refine ⟨⟨c1.same hS (by decide) (by decide) (by decide), c2.same hS (by decide) (by decide) (by decide) (by decide), c3.same hS (by decide) (by decide) (by decide) (by decide), ⟨?_, fun f hf => ?_⟩, b, hB.same hS (hS.1 _ _ (by decide)) (by decide) (fun j hj => by omega), ⟨ds, nd, h40, ?_, ?_, fun i hi => ⟨(hD.2.2.2.1 i hi).1, ?_⟩, fun d hd j hj => ?_, hD.2.2.2.2.2.same hS (fun j hj => by omega)⟩, fun q hq => ?_⟩, ?_, ?_, ?_⟩
        · rw [hS.1 _ _ (by decide), hS.1 _ _ (by decide)]; exact c4
        · rw [hS.1 _ _ (by decide), hS.1 _ _ (by decide)]; exact c5 f hf
        · rw [r8 _ (by omega)]; exact hD.2.1
        · rw [hS.1 _ _ (by decide)]; exact hD.2.2.1
        · rw [r9 _ (by omega)]; exact (hD.2.2.2.1 i hi).2
        · rw [hS.1 _ _ (by decide)]; exact hD.2.2.2.2.1 d hd j hj
        · by_cases e : q = k
          · subst e
            refine Or.inr ⟨nd, ds, h40, ?_, gi_same, fun i hi => ⟨(hD.2.2.2.1 i hi).1, ?_⟩, fun d hd j hj => ?_⟩
            · rw [gi_nk (by decide), s2 _ _ (by omega)]; exact z1
            · rw [gi_nk (by decide), s2 _ _ (by omega), z2 i hi]; exact (hD.2.2.2.1 i hi).2
            · rw [gi_nk (by decide), show 410 * q + 10 * d + j = 410 * q + (10 * d + j) by omega, s1 _ (by omega)]; exact hD.2.2.2.2.1 d hd j hj
          · have ap40 : ∀ i, i < 40 → ¬ (40 * k ≤ 40 * q + i ∧ 40 * q + i < 40 * k + nd) := fun i hi => apart hi e h40
            have ap410 : ∀ i, i < 410 → gi (si w 52 k (nI nd)) 51 (410 * q + i) = gi u 51 (410 * q + i) := fun i hi => by
              have := apart (w := 410) (lo := 410) hi e (by omega)
              rw [gi_nk (by decide), s2 _ _ (by omega), rv _ _ (by decide) (by decide)]
            have r52 : gi (si w 52 k (nI nd)) 52 q = gi u 52 q := by rw [gi_ni e, s2 _ _ (by omega), rv _ _ (by decide) (by decide)]
            rcases hKp q hq with ⟨y1, y2⟩ | ⟨n, ks, y1, y2, y3, y4, y5⟩
            · exact Or.inl ⟨by rw [r8 _ e]; exact y1, by rw [r52]; exact y2⟩
            · exact Or.inr ⟨n, ks, y1, by rw [r8 _ e]; exact y2, by rw [r52]; exact y3, fun i hi => ⟨(y4 i hi).1, by rw [r9 _ (ap40 i (by omega))]; exact (y4 i hi).2⟩, fun d hd j hj => by rw [Nat.add_assoc, ap410 _ (by omega), ← Nat.add_assoc]; exact y5 d hd j hj⟩
        · rw [hS.1 _ _ (by decide), hS.1 _ _ (by decide)]; exact a1
        · rw [rl, rl]; exact a2
        · rw [rl, rl]; exact a3
    · unfold wp_X5_keep
      refine in_ok (P := 3) hk (by decide) rfl ⟨fun _ => ?_, fun q => absurd q (by decide)⟩
      rw [hB.2.2.2.2.1]
      exact ⟨fun q => absurd c0 q, fun _ => h2 u h⟩
theorem p_on {a : Int32} {u : St} (h : Inv u) {K1 : Int32 → St → Prop} (hK : ∀ r u1, Nx (wp_X5_on a u1) r → K1 r u1) : wp_X4_on a u K1 := by
  obtain ⟨b, ds, nd, hB, hD, hKp, hmo, hm, hN⟩ := h.all
  have hn := hB.1.1
  unfold wp_X4_on
  have bad : (a < 0 ∨ nI 3 ≤ a) → Nx (wp_X5_on a u) (-1) := fun c K2 h2 => by
    unfold wp_X5_on
    exact in_bad (P := 3) (by decide) (by decide) rfl c ⟨fun q => absurd rfl q, fun _ => h2 u h⟩
  rcases pk_ix a (n := 3) (by decide) with c | c | ⟨k, hk, rfl⟩
  · exact w_bad (Or.inl c) ⟨fun q => absurd rfl q, fun _ => hK _ _ (bad (Or.inl c))⟩
  · exact w_bad (Or.inr c) ⟨fun q => absurd rfl q, fun _ => hK _ _ (bad (Or.inr c))⟩
  · refine w_ok (P := 3) hk (by decide) ⟨fun _ => ?_, fun q => absurd q (by decide)⟩
    rcases hKp k hk with ⟨y1, y2⟩ | ⟨n, ks, y1, y2, y3, y4, y5⟩
    · refine has_no (Sh7 h.1.1) (show k < 4 by omega) y1 ⟨fun q => absurd rfl q, fun _ => found_ok (f := 1) (by decide) (hK _ _ (fun K2 h2 => ?_))⟩
      unfold wp_X5_on
      refine in_ok (P := 3) hk (by decide) rfl ⟨fun _ => ⟨vp_in_nI hk (by decide), ?_⟩, fun q => absurd q (by decide)⟩
      rw [tNn (by omega), fX_m 1 u k (by decide) (by decide), y2]
      exact ⟨fun q => absurd q (by decide), fun _ => find_ok (f := 1) (by decide) (h2 _ (inv_found (by decide) h))⟩
    · refine has_yes (Sh7 h.1.1) (show k < 4 by omega) y1 y2 ⟨fun _ => ?_, fun q => absurd q (by decide)⟩
      refine s_moveAll (p := k) (t := 3) (Sh7 h.1.1) (by omega) (by decide) (by omega) y1 y2 (fun v z1 z2 z3 => ?_)
      have hCv : iC v := ⟨(z3.1 _ _ (by omega) (by omega)).trans h.1.1.1, (z3.1 _ _ (by omega) (by omega)).trans h.1.1.2.1, (z3.1 _ _ (by omega) (by omega)).trans h.1.1.2.2.1, (z3.1 _ _ (by omega) (by omega)).trans h.1.1.2.2.2.1, (z3.1 _ _ (by omega) (by omega)).trans h.1.1.2.2.2.2.1, (z3.1 _ _ (by omega) (by omega)).trans h.1.1.2.2.2.2.2⟩
      refine s_replay (ds := ks) hn hCv y1 z1 (fun i hi => ⟨(y4 i hi).1, (z2 i hi).trans (y4 i hi).2⟩) (fun w hM hs => ?_)
      have hCw : iC w := hCv.same hs ⟨by decide, by decide⟩ ⟨by decide, by decide⟩ ⟨by decide, by decide⟩
      refine size_ok (Sh7 hCw) (show 3 < 4 by decide) ?_
      rw [show gi w (7 + 1) 3 = nI n from (hs.1 _ _ ⟨by decide, by decide⟩).trans z1]
      refine hK _ _ (fun K2 h2 => ?_)
      have rw' : ∀ q i, q ≠ 20 → q ≠ 21 → ¬ (q = 8 ∧ i = 3) → ¬ (q = 9 ∧ 120 ≤ i) → gi w q i = gi u q i := fun q i a1 a2 a3 a4 => (hs.1 _ _ ⟨a1, a2⟩).trans (z3.1 q i (by omega) (by omega))
      unfold wp_X5_on
      refine in_ok (P := 3) hk (by decide) rfl ⟨fun _ => ⟨vp_in_nI hk (by decide), ?_⟩, fun q => absurd q (by decide)⟩
      rw [tNn (by omega), rw' _ _ (by decide) (by decide) (by omega) (by omega), y3]
      refine ⟨fun _ => ?_, fun q => absurd (nI_pos' (by omega)) q⟩
      simp only [wp_X5_on_L28]
      refine lc1 410 (fun i x => (∀ j, j < i → gi x 50 j = gi u 51 (410 * k + j)) ∧ (∀ q y, q ≠ 50 → gi x q y = gi w q y) ∧ ∀ q y, gl x q y = gl w q y) ⟨fun j hj => absurd hj (by omega), fun _ _ _ => rfl, fun _ _ => rfl⟩ ?_ ?_
      · rintro K i x hi ⟨s1, s2, s3⟩ hK'
        unfold wp_X5_on_B28
        simp only [nxt]
        rw [show (410 : Int32) = nI 410 from rfl, pk_mul, nI_add, tNn (show k < 2 ^ 31 by omega), tNn (show 410 * k + i < 2 ^ 31 by omega), tNn (show i < 2 ^ 31 by omega), s2 51 (410 * k + i) (by omega), rw' _ _ (by decide) (by decide) (by omega) (by omega), nI_1]
        refine ⟨fun c => absurd c (nI_ge hi (by decide)), fun _ => ⟨vp_in_nI (by omega) (by decide), vp_in_nI hi (by decide), hK' _ ⟨fun j hj => ?_, fun q y hq => by rw [gi_nk hq]; exact s2 q y hq, fun q y => gl_si.trans (s3 q y)⟩⟩⟩
        by_cases e : j = i
        · subst e; rw [gi_same]
        · rw [gi_ni e]; exact s1 j (by omega)
      · rintro K x ⟨s1, s2, s3⟩
        unfold wp_X5_on_B28
        simp only [nxt]
        have e52 : gi x 52 k = nI n := by rw [s2 _ _ (by omega), rw' _ _ (by decide) (by decide) (by omega) (by omega)]; exact y3
        rw [tNn (by omega), e52, gi_same]
        refine ⟨fun _ => ⟨vp_in_nI hk (by decide), h2 _ (h.deeds (ds := ks) (nd := n) hB hKp (fun q i a1 a2 a3 a4 a5 a6 a7 a8 => ?_) (fun q i a1 a2 a3 a4 => ?_) ⟨y1, ?_, gi_same, fun i hi => ⟨(y4 i hi).1, ?_⟩, fun d hd j hj => ?_, ?_⟩)⟩, fun c => absurd (by decide) c⟩
        · rw [gi_if, if_neg a8, s2 _ _ a5, rw' _ _ a3 a4 a6 a7]
        · rw [gl_si, s3, hs.2 _ _ ⟨a3, a4⟩, z3.2]
        · rw [gi_nk (by decide), s2 _ _ (by decide), hs.1 _ _ ⟨by decide, by decide⟩]; exact z1
        · rw [gi_nk (by decide), s2 _ _ (by decide), hs.1 _ _ ⟨by decide, by decide⟩]; exact (z2 i hi).trans (y4 i hi).2
        · rw [gi_nk (by decide), s1 _ (by omega), ← Nat.add_assoc]; exact y5 d hd j hj
        · exact hM.same (P := fun q => q ≠ 39 ∧ q ≠ 50) ⟨fun q i hq => by rw [gi_nk hq.1]; exact s2 _ _ hq.2, fun q i hq => gl_si.trans (s3 q i)⟩ (fun j hj => by omega)
