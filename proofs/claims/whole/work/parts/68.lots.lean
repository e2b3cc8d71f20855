/-! PURE: lots -/
def lotX (s : Nat) : Nat → Nat
  | 0 => s
  | k + 1 => lotX s k * 48271 % 2147483647
theorem lotX_lt {s : Nat} (h : s < 2147483647) (k : Nat) : lotX s k < 2147483647 := by
  induction k with
  | zero => exact h
  | succ k _ => exact Nat.mod_lt _ (by decide)
def lotD (n x : Nat) : Nat := if x % 8 = 0 then 8 + x / 8 % 4 else if x % 8 ≤ 3 then 7 else x / 8 % n
theorem lotD_ok {n x : Nat} (h0 : 0 < n) (hn : n ≤ 7) : dOk n (lotD n x) := by
  unfold lotD
  split
  · exact ⟨by omega, fun q => absurd q (by omega)⟩
  · split
    · exact ⟨by decide, fun q => absurd q (by decide)⟩
    · have := Nat.mod_lt (x / 8) h0
      exact ⟨by omega, fun _ => this⟩
theorem lot_next {x : Nat} (hx : x < 2147483647) : lN x * 48271 - lN x * 48271 / 2147483647 * 2147483647 = lN (x * 48271 % 2147483647) := by
  rw [show (48271 : Int64) = lN 48271 from rfl, show (2147483647 : Int64) = lN 2147483647 from rfl, lN_mul]
  exact pk_lRem (by omega) (by decide) (by decide)
theorem lot_by {x : Nat} (hx : x < 2147483647) : (lN x - lN x / 8 * 8).toInt32 = nI (x % 8) := by
  rw [show (8 : Int64) = lN 8 from rfl, pk_lRem (by omega) (by decide) (by decide), lN_i]
theorem lot_div {x : Nat} (hx : x < 2147483647) : lN x / 8 = lN (x / 8) := by
  rw [show (8 : Int64) = lN 8 from rfl, pk_lDiv (by omega) (by decide) (by decide)]
theorem lot_mod {x n : Nat} (hx : x < 2147483647) (h0 : 0 < n) (hn : n < 2 ^ 31) : (lN (x / 8) - lN (x / 8) / lN n * lN n).toInt32 = nI (x / 8 % n) := by
  rw [pk_lRem (by omega) h0 (by omega), lN_i]
theorem s_lotX {b : Bd} {x : Nat} {u : St} {Q : Int32 → St → Prop} (hx : x < 2147483647) (hb : bdOk b) (h0 : 0 < bN b) (hL : LX 10 b u) (h : Q (nI (lotD (bN b) x)) u) : wp_X4_deedByLot (lN x) u Q := by
  have hn := hb.1
  unfold wp_X4_deedByLot
  rw [lot_by hx, lot_div hx, hL.1, nI_l (by omega), lot_mod hx h0 (by omega), show (4 : Int64) = lN 4 from rfl, lot_mod (n := 4) hx (by decide) (by decide), show (8 : Int32) + nI (x / 8 % 4) = nI (8 + x / 8 % 4) from nI_add 8 _]
  unfold lotD at h
  refine ⟨fun c => ?_, fun c => ?_⟩
  · have q : ¬ x % 8 = 0 := fun z => c (by rw [z]; rfl)
    rw [if_neg q] at h
    refine ⟨fun c2 => ?_, fun c2 => ⟨fun _ => ⟨fun z => ?_, ?_⟩, fun z => absurd ((nkeys0 hb).mp z) (by omega)⟩⟩
    · have : x % 8 ≤ 3 := (nI_leI (b := 3) (by omega) (by decide)).mp c2
      rw [if_pos this] at h
      exact h
    · have := (lN_eq (a := bN b) (b := 0) (by omega) (by decide)).mp z
      omega
    · rw [if_neg (fun z => c2 (nI_le (b := 3) z (by decide)))] at h
      exact h
  · have q : x % 8 = 0 := (nI_eq (b := 0) (by omega) (by decide)).mp c
    rw [if_pos q] at h
    exact h
/-- the deeds, with the lots behind them -/
def dsL (ds : Nat → Nat) (nd n s : Nat) : Nat → Nat := fun i => if i < nd then ds i else lotD n (lotX s (i - nd + 1))
theorem dsL_lt {ds : Nat → Nat} {nd n s i : Nat} (h : i < nd) : dsL ds nd n s i = ds i := if_pos h
theorem dsL_at {ds : Nat → Nat} {nd n s i : Nat} : dsL ds nd n s (nd + i) = lotD n (lotX s (i + 1)) := by
  unfold dsL
  rw [if_neg (by omega), show nd + i - nd = i by omega]
theorem p_lots {a c : Int32} {u : St} (h : Inv u) {K1 : Int32 → St → Prop} (hK : ∀ r u1, Nx (wp_X5_lots a c u1) r → K1 r u1) : wp_X4_lots a c u K1 := by
  obtain ⟨b, ds, nd, hB, hD, hKp, hmo, hm, hN⟩ := h.all
  have hn := hB.1.1
  have h40 := hD.1
  unfold wp_X4_lots
  have badA : (a < 1 ∨ 20 < a) → Nx (wp_X5_lots a c u) (-1) := fun q K2 h2 => by
    unfold wp_X5_lots wp_X5_in
    exact ⟨fun _ => ⟨fun _ => h2 u h, fun z => absurd rfl z⟩, fun c1 => ⟨fun _ => ⟨fun _ => h2 u h, fun z => absurd rfl z⟩, fun c2 => absurd q (fun z => z.elim c1 c2)⟩⟩
  refine ⟨fun c1 => hK _ _ (badA (Or.inl c1)), fun c1 => ⟨fun c2 => hK _ _ (badA (Or.inr c2)), fun c2 => ?_⟩⟩
  have ha0 : ¬ a < 0 := fun q => c1 (Int32.lt_trans q (by decide))
  obtain ⟨n, hn20, rfl⟩ := nI_of2 (M := 20) (n := 20) (by decide) ha0 (Int32.not_lt.mp c2)
  have hn1 : 1 ≤ n := by
    rcases Nat.eq_zero_or_pos n with z | z
    · subst z; exact absurd (by decide) c1
    · exact z
  have inA : ∀ {w : St} {Q : Int32 → St → Prop}, Q 1 w → wp_X5_in (nI n) 1 20 w Q := fun {w Q} q => by
    unfold wp_X5_in
    exact ⟨fun z => absurd z c1, fun _ => ⟨fun z => absurd z c2, fun _ => q⟩⟩
  have badC : (c < 1 ∨ ¬ c < 2147483647) → Nx (wp_X5_lots (nI n) c u) (-1) := fun q K2 h2 => by
    unfold wp_X5_lots
    refine inA ⟨fun z => absurd z (by decide), fun _ => ?_⟩
    unfold wp_X5_in
    refine ⟨fun _ => ⟨fun z => absurd rfl z, fun _ => h2 u h⟩, fun c3 => ⟨fun _ => ⟨fun z => absurd rfl z, fun _ => h2 u h⟩, fun c4 => absurd q (fun z => z.elim c3 (fun y => ?_))⟩⟩
    have e1 : (2147483646 : Int32).toInt = 2147483646 := by decide
    have e2 : (2147483647 : Int32).toInt = 2147483647 := by decide
    rw [Int32.lt_iff_toInt_lt] at c4 y
    omega
  refine ⟨fun c3 => hK _ _ (badC (Or.inl c3)), fun c3 => ⟨fun c4 => ?_, fun c4 => hK _ _ (badC (Or.inr c4))⟩⟩
  have hc0 : ¬ c < 0 := fun q => c3 (Int32.lt_trans q (by decide))
  obtain ⟨s, hs31, rfl⟩ := nI_of hc0
  have hs : s < 2147483647 := (nI_ltI (b := 2147483647) hs31 (by decide)).mp c4
  have inC : ∀ {w : St} {Q : Int32 → St → Prop}, Q 1 w → wp_X5_in (nI s) 1 2147483646 w Q := fun {w Q} q => by
    unfold wp_X5_in
    refine ⟨fun z => absurd z c3, fun _ => ⟨fun z => ?_, fun _ => q⟩⟩
    have := (nI_ltI (a := 2147483646) (by decide) hs31).mp z
    omega
  rw [hB.2.2.2.1.1]
  refine ⟨fun c0 => ?_, fun c0 => hK _ _ (fun K2 h2 => ?_)⟩
  · have h0 : 0 < bN b := by
      rcases Nat.eq_zero_or_pos (bN b) with z | z
      · exact absurd ((nkeys0 hB.1).mpr z) c0
      · exact z
    refine room_ok h.1.1 h40 (show n ≤ 1000 by omega) hD.2.1 ?_
    by_cases z : nd + n ≤ 40
    · rw [if_pos z]
      refine ⟨fun _ => ?_, fun q => absurd rfl q⟩
      have dok : ∀ i, i < nd + n → dOk (bN b) (dsL ds nd (bN b) s i) := fun i hi => by
        rcases Nat.lt_or_ge i nd with q | q
        · rw [dsL_lt q]; exact (hD.2.2.2.1 i q).1
        · obtain ⟨j, rfl⟩ : ∃ j, i = nd + j := ⟨i - nd, by omega⟩
          rw [dsL_at]; exact lotD_ok h0 hn
      have mok : ∀ i, i ≤ n → mOk (bN b) (nd + i) (mtR (dsL ds nd (bN b) s) (nd + i)) := fun i hi => mtR_ok (fun j hj => dok j (by omega))
      have mR0 : mtR (dsL ds nd (bN b) s) nd = mtR ds nd := mtR_congr (fun i hi => dsL_lt hi)
      have mRs : ∀ i, mtR (dsL ds nd (bN b) s) (nd + (i + 1)) = deedF (lotD (bN b) (lotX s (i + 1))) (mtR (dsL ds nd (bN b) s) (nd + i)) := fun i => by
        show deedF (dsL ds nd (bN b) s (nd + i)) _ = _
        rw [dsL_at]
        rfl
      have mR : ∀ d, d ≤ nd → mtR (dsL ds nd (bN b) s) d = mtR ds d := fun d hd => mtR_congr (fun i hi => dsL_lt (by omega))
      simp only [wp_X4_lots_L55]
      rw [nI_l hs31]
      refine lc2 n (fun i x v => x = lN (lotX s i) ∧ gi v 8 3 = nI (nd + i) ∧ (∀ j, j < nd + i → gi v 9 (120 + j) = nI (dsL ds nd (bN b) s j)) ∧ MX 20 (mtR (dsL ds nd (bN b) s) (nd + i)) v ∧ (∀ k j, k ≠ 20 → k ≠ 21 → ¬ (k = 8 ∧ j = 3) → ¬ (k = 9 ∧ 120 ≤ j) → gi v k j = gi u k j) ∧ ∀ k j, k ≠ 20 → k ≠ 21 → gl v k j = gl u k j) ⟨rfl, hD.2.1, fun j hj => by rw [dsL_lt (show j < nd from hj)]; exact (hD.2.2.2.1 j hj).2, by rw [Nat.add_zero, mR0]; exact hD.2.2.2.2.2, fun _ _ _ _ _ _ => rfl, fun _ _ _ _ => rfl⟩ ?_ ?_
      · rintro K i x v hi ⟨rfl, s1, s2, s3, s4, s5⟩ hK'
        have hl := lotX_lt hs i
        have hl2 := lotX_lt hs (i + 1)
        unfold wp_X4_lots_B55
        rw [lot_next hl]
        refine ⟨fun c => absurd c (nI_ge hi (by omega)), fun _ => ?_⟩
        have hLv : LX 10 b v := hB.2.2.2.1.same (P := fun k => k ≠ 20 ∧ k ≠ 21 ∧ k ≠ 8 ∧ k ≠ 9) ⟨fun k j hk => s4 k j hk.1 hk.2.1 (by omega) (by omega), fun k j hk => s5 k j hk.1 hk.2.1⟩ (fun j hj => by omega)
        have hCv : iC v := h.1.1.same (P := fun k => k ≠ 20 ∧ k ≠ 21 ∧ k ≠ 8 ∧ k ≠ 9) ⟨fun k j hk => s4 k j hk.1 hk.2.1 (by omega) (by omega), fun k j hk => s5 k j hk.1 hk.2.1⟩ (by decide) (by decide) (by decide)
        refine s_lotX hl2 hB.1 h0 hLv ?_
        refine s_perform (nd := nd + i) hCv (by omega) s1 (mOk_mt (mok i (by omega)) hn (by omega)) s3 (lotD_ok h0 hn).1 (fun w x1 x2 x3 x4 x5 => ?_)
        rw [nI_1]
        refine hK' _ _ ⟨rfl, x1, fun j hj => ?_, by rw [mRs]; exact x3, fun k j a1 a2 a3 a4 => (x4 k j a1 a2 a3 (by omega)).trans (s4 k j a1 a2 a3 a4), fun k j a1 a2 => (x5 k j a1 a2).trans (s5 k j a1 a2)⟩
        by_cases e : j = nd + i
        · subst e
          rw [x2, dsL_at]
          rfl
        · rw [x4 _ _ (by decide) (by decide) (by omega) (by omega)]; exact s2 j (by omega)
      · rintro K x v ⟨rfl, s1, s2, s3, s4, s5⟩
        unfold wp_X4_lots_B55
        refine ⟨fun _ => ?_, fun c => absurd (Int32.le_refl _) c⟩
        have hS : Same (fun k => k ≠ 20 ∧ k ≠ 21 ∧ k ≠ 8 ∧ k ≠ 9) u v := ⟨fun k j hk => s4 k j hk.1 hk.2.1 (by omega) (by omega), fun k j hk => s5 k j hk.1 hk.2.1⟩
        have hLv : LX 10 b v := hB.2.2.2.1.same hS (fun j hj => by omega)
        have hmn := mOk_mt (mok n (Nat.le_refl _)) hn (show nd + n ≤ 100 by omega)
        unfold wp_X4_toldNow
        refine s_toldAt (Or.inl rfl) hB.1 hmn hLv s3 (fun v2 hsx => ?_)
        have ht := toldF_lt7 hB.1 (mtR (dsL ds nd (bN b) s) (nd + n)) (mP (mtR (dsL ds nd (bN b) s) (nd + n)))
        refine s_bitCount (by omega) (hK _ _ (fun K2 h2 => ?_))
        -- the reference
        have r2 : ∀ k j, ¬ scrX k → k ≠ 20 → k ≠ 21 → ¬ (k = 8 ∧ j = 3) → ¬ (k = 9 ∧ 120 ≤ j) → gi v2 k j = gi u k j := fun k j a0 a1 a2 a3 a4 => (hsx.1 _ _ a0).trans (s4 k j a1 a2 a3 a4)
        have l2 : ∀ k j, ¬ scrX k → k ≠ 20 → k ≠ 21 → gl v2 k j = gl u k j := fun k j a0 a1 a2 => (hsx.2 _ _ a0).trans (s5 k j a1 a2)
        have r39 : ∀ j, gi v2 39 j = gi u 39 j := fun j => r2 39 j (by unfold scrX; omega) (by decide) (by decide) (by omega) (by omega)
        have r50 : ∀ j, gi v2 50 j = gi u 50 j := fun j => r2 50 j (by unfold scrX; omega) (by decide) (by decide) (by omega) (by omega)
        unfold wp_X5_lots
        refine inA ⟨fun q => absurd q (by decide), fun _ => inC ⟨fun _ => ?_, fun q => absurd q (by decide)⟩⟩
        rw [r39, r39, hB.2.2.2.2.1, hN.2.1, nI_add]
        refine ⟨fun _ => ⟨fun _ => ?_, fun q => absurd (nI_le (b := 40) z (by decide)) q⟩, fun q => absurd q c0⟩
        simp only [wp_X5_lots_L52]
        rw [nI_l hs31]
        refine lc2 n (fun i x w => x = lN (lotX s i) ∧ gi w 39 16 = nI (nd + i) ∧ (∀ d, d ≤ nd + i → ∀ j, j < 10 → gi w 50 (10 * d + j) = nI (mtv (mtR (dsL ds nd (bN b) s) d) j)) ∧ (∀ k j, k ≠ 50 → ¬ (k = 39 ∧ j = 16) → gi w k j = gi v2 k j) ∧ ∀ k j, gl w k j = gl v2 k j) ⟨rfl, by rw [r39]; exact hN.2.1, fun d hd j hj => by rw [r50, mR d (by omega)]; exact hD.2.2.2.2.1 d (by omega) j hj, fun _ _ _ _ => rfl, fun _ _ => rfl⟩ ?_ ?_
        · rintro K' i x w hi ⟨rfl, t1, t2, t3, t4⟩ hK'
          have hl := lotX_lt hs i
          have hl2 := lotX_lt hs (i + 1)
          have hmi := mOk_mt (mok i (by omega)) hn (show nd + i ≤ 100 by omega)
          unfold wp_X5_lots_B52
          rw [lot_next hl]
          refine ⟨fun c => absurd c (nI_ge hi (by omega)), fun _ => ?_⟩
          refine s_begin (nd := nd + i) (f := mtv (mtR (dsL ds nd (bN b) s) (nd + i))) (by omega) t1 (fun j hj => t2 _ (Nat.le_refl _) j hj) (fun x hx => ?_)
          have ex10 : gi x 39 10 = nI (bN b) := by rw [hx.2.2.1 _ _ (by omega) (by omega), t3 _ _ (by decide) (by decide), r39]; exact hB.2.2.2.2.1
          have fin : ∀ y, newM (nd + i) (mtv (mtR (dsL ds nd (bN b) s) (nd + (i + 1)))) w y → K' (lN (lotX s i * 48271 % 2147483647)) (nI i + 1) y := fun y hy => by
            rw [nI_1]
            refine hK' _ _ ⟨rfl, hy.1, fun d hd j hj => ?_, fun k j a1 a2 => (hy.2.2.1 k j a2 (by omega)).trans (t3 k j a1 a2), fun k j => (hy.2.2.2 k j).trans (t4 k j)⟩
            by_cases e : d = nd + i + 1
            · subst e
              exact hy.2.1 j hj
            · rw [hy.2.2.1 _ _ (by omega) (by omega)]; exact t2 d (by omega) j hj
          rw [mRs] at fin
          have e8 := lot_by hl2
          have e8d := lot_div hl2
          show _ ∧ _
          have elot : lotX s i * 48271 % 2147483647 = lotX s (i + 1) := rfl
          rw [elot] at fin ⊢
          rw [e8, e8d, ex10, nI_l (by omega), lot_mod hl2 h0 (by omega), show (4 : Int64) = lN 4 from rfl, lot_mod (n := 4) hl2 (by decide) (by decide), hx.1, show (10 : Int32) = nI 10 from rfl, pk_mul]
          generalize hxx : lotX s (i + 1) = X at fin hl2 e8 e8d ⊢
          refine ⟨fun c5 => ?_, fun c5 => ?_⟩
          · have q5 : ¬ X % 8 = 0 := fun y => c5 (by rw [y]; rfl)
            refine ⟨fun c6 => ?_, fun c6 => ?_⟩
            · have q6 : 4 ≤ X % 8 := (nI_leI (a := 4) (by decide) (by omega)).mp c6
              have eD : lotD (bN b) X = X / 8 % bN b := by unfold lotD; rw [if_neg q5, if_neg (by omega)]
              have hlt : X / 8 % bN b < bN b := Nat.mod_lt _ h0
              rw [eD] at fin
              refine ⟨fun y => ?_, s_pressM (by omega) hmi (by omega) hx (fun y hy => fin y hy)⟩
              have := (lN_eq (a := bN b) (b := 0) (by omega) (by decide)).mp y
              omega
            · have q6 : X % 8 ≤ 3 := by
                rcases Nat.lt_or_ge (X % 8) 4 with y | y
                · omega
                · exact absurd (nI_le (a := 4) y (by omega)) c6
              have eD : lotD (bN b) X = 7 := by unfold lotD; rw [if_neg q5, if_pos q6]
              rw [eD, deed7] at fin
              refine s_passOn (K0 := 50) (Or.inl rfl) (show 10 * (nd + i + 1) + 10 ≤ 410 by omega) hn hmi (mok i (by omega)).2.2.1 ex10 hx.2.1 (fun y y1 y2 y3 => fin y ⟨?_, y1, fun k j a1 a2 => ?_, fun k j => (y3 k j).trans (hx.2.2.2 k j)⟩)
              · rw [y2 _ _ (by omega)]; exact hx.1
              · rw [y2 _ _ (by omega)]; exact hx.2.2.1 k j a1 a2
          · have q5 : X % 8 = 0 := (nI_eq (b := 0) (by omega) (by decide)).mp c5
            have eD : lotD (bN b) X = 8 + X / 8 % 4 := by unfold lotD; rw [if_pos q5]
            rw [eD] at fin
            refine hx.now (j := 2) (by omega) (by decide) ?_
            have hcut := hmi.2.1
            refine s_flipped (show mC (mtR (dsL ds nd (bN b) s) (nd + i)) < 128 by omega) (show X / 8 % 4 < 7 by omega) ?_
            rw [show nI (10 * (nd + i + 1)) + (2 : Int32) = nI (10 * (nd + i + 1) + 2) from nI_add _ 2, tNn (by omega)]
            simp only [nxt]
            exact ⟨vp_in_nI (by omega) (by decide), fin _ ((hx.wr (j := 2) (by decide)).to (fun j _ => mtv_deed_cut j))⟩
        · rintro K' x w ⟨rfl, t1, t2, t3, t4⟩
          unfold wp_X5_lots_B52
          refine ⟨fun _ => ?_, fun c => absurd (Int32.le_refl _) c⟩
          have rw9 : ∀ k j, ¬ scrX k → k ≠ 20 → k ≠ 21 → k ≠ 50 → ¬ (k = 8 ∧ j = 3) → ¬ (k = 9 ∧ 120 ≤ j) → ¬ (k = 39 ∧ j = 16) → gi w k j = gi u k j := fun k j a0 a1 a2 a3 a4 a5 a6 => (t3 k j a3 a6).trans (r2 k j a0 a1 a2 a4 a5)
          have hBw : BM b w := ⟨(rw9 _ _ (by unfold scrX; omega) (by decide) (by decide) (by decide) (by decide) (by decide) (by decide)).trans hB.2.2.2.2.1, fun i hi => by
            rw [rw9 46 i (by unfold scrX; omega) (by decide) (by decide) (by decide) (by omega) (by omega) (by omega), rw9 47 i (by unfold scrX; omega) (by decide) (by decide) (by decide) (by omega) (by omega) (by omega), rw9 48 i (by unfold scrX; omega) (by decide) (by decide) (by decide) (by omega) (by omega) (by omega), rw9 49 i (by unfold scrX; omega) (by decide) (by decide) (by decide) (by omega) (by omega) (by omega)]
            exact hB.2.2.2.2.2 i hi⟩
          refine toldM0 (nd := nd + n) hB.1 hmn hBw ⟨z, t1, fun j hj => t2 _ (Nat.le_refl _) j hj⟩ (fun x hx => s_bitsOf (by omega) (h2 _ ?_))
          have hX : Same (fun k => ¬ (k = 45 ∨ (53 ≤ k ∧ k ≤ 60))) w x := hx
          refine h.deeds (ds := dsL ds nd (bN b) s) (nd := nd + n) hB hKp (fun k j a1 a2 a3 a4 a5 a6 a7 a8 => ?_) (fun k j a1 a2 a3 a4 => ?_) ⟨z, ?_, ?_, fun i hi => ⟨dok i hi, ?_⟩, fun d hd j hj => ?_, ?_⟩
          · rw [hx.1 _ _ a2]; exact rw9 k j a1 a3 a4 a5 a6 a7 a8
          · rw [hx.2 _ _ a2, t4]; exact l2 k j a1 a3 a4
          · rw [hx.1 _ _ (by omega), t3 _ _ (by decide) (by decide), hsx.1 _ _ (by omega)]; exact s1
          · rw [hx.1 _ _ (by omega)]; exact t1
          · rw [hx.1 _ _ (by omega), t3 _ _ (by decide) (by omega), hsx.1 _ _ (by omega)]; exact s2 i hi
          · rw [hx.1 _ _ (by omega)]; exact t2 d hd j hj
          · have hsv : Same (fun k => k = 20 ∨ k = 21) v x := ⟨fun k j hk => by rw [hx.1 _ _ (by omega), t3 _ _ (by omega) (by omega), hsx.1 _ _ (by omega)], fun k j hk => by rw [hx.2 _ _ (by omega), t4, hsx.2 _ _ (by omega)]⟩
            exact s3.same hsv (fun j hj => by omega)
    · rw [if_neg z]
      refine ⟨fun q => absurd q (by decide), fun _ => hK _ _ (fun K2 h2 => ?_)⟩
      unfold wp_X5_lots
      refine inA ⟨fun q => absurd q (by decide), fun _ => inC ⟨fun _ => ?_, fun q => absurd q (by decide)⟩⟩
      rw [hB.2.2.2.2.1, hN.2.1, nI_add]
      exact ⟨fun _ => ⟨fun q => absurd ((nI_leI (b := 40) (by omega) (by decide)).mp q) z, fun _ => h2 u h⟩, fun q => absurd q c0⟩
  · unfold wp_X5_lots
    refine inA ⟨fun q => absurd q (by decide), fun _ => inC ⟨fun _ => ?_, fun q => absurd q (by decide)⟩⟩
    rw [hB.2.2.2.2.1]
    exact ⟨fun q => absurd c0 q, fun _ => h2 u h⟩
