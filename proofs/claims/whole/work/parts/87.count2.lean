/-! PURE: count, digest -/
theorem Inv.now2 {u : St} (h : Inv u) : ∃ b m nd, Now b m nd u ∧ gi u 8 3 = nI nd := by
  obtain ⟨b, ds, nd, hB, hD, hK, h1, h2, h3⟩ := h.all
  exact ⟨b, mtR ds nd, nd, ⟨hB.1, hB.2.1, hB.2.2.1, ⟨Nat.le_trans h1.1 hD.1, h1.2⟩, hB.2.2.2.1, hB.2.2.2.2, hD.2.2.2.2.2, h3⟩, hD.2.1⟩
def Cn (c6 c7 c8 : Nat) (u : St) : Prop := sumN (hasF (gi u 2) 6) 0 6 = c6 ∧ sumN (hasF (gi u 5) 4) 0 6 = c7 ∧ sumN (hasF (gi u 8) 3) 0 6 = c8
theorem gi_fun {u v : St} {k : Nat} (h : ∀ i, gi v k i = gi u k i) : gi v k = gi u k := funext h
theorem Cn.to {c6 c7 c8 : Nat} {u v : St} (h : Cn c6 c7 c8 u) (h2 : ∀ i, gi v 2 i = gi u 2 i) (h5 : ∀ i, gi v 5 i = gi u 5 i) (h8 : ∀ i, gi v 8 i = gi u 8 i) : Cn c6 c7 c8 v := by
  unfold Cn
  rw [gi_fun h2, gi_fun h5, gi_fun h8]
  exact h
theorem Cn.sx {c6 c7 c8 : Nat} {u v : St} (h : Cn c6 c7 c8 u) (s : SX u v) : Cn c6 c7 c8 v := h.to (fun i => s.1 _ _ (by omega)) (fun i => s.1 _ _ (by omega)) (fun i => s.1 _ _ (by omega))
theorem Cn.sm {c6 c7 c8 : Nat} {u v : St} (h : Cn c6 c7 c8 u) (s : SM u v) : Cn c6 c7 c8 v := h.to (fun i => s.1 _ _ (by omega)) (fun i => s.1 _ _ (by omega)) (fun i => s.1 _ _ (by omega))
noncomputable def cntF (b : Bd) (m : Mt) (nd c6 c7 c8 w : Nat) : Nat := if w = 0 then bN b else if w = 1 then mS m else if w = 2 then nd else if w = 3 then mP m else if w = 4 then mC m else if w = 5 then popc (toldF b m (mP m)) else if w = 6 then c6 else if w = 7 then c7 else if w = 8 then c8 else if w = 9 then sumN (kofF b 1) 0 (bN b) else sumN (kofF b 2) 0 (bN b)
theorem kept_x {u : St} (h : Inv u) : ∀ j, j < 3 → (gi u 8 j = -1 ∨ ∃ n, n ≤ 40 ∧ gi u 8 j = nI n) ∧ gi u 52 j = gi u 8 j := fun j hj => by
  obtain ⟨b, ds, nd, hB, hD, hK, -⟩ := h.all
  rcases hK j hj with ⟨q1, q2⟩ | ⟨n, ds, q1, q2, q3, -⟩
  · exact ⟨Or.inl q1, q2.trans q1.symm⟩
  · exact ⟨Or.inr ⟨n, q1, q2⟩, q3.trans q2.symm⟩
theorem sh_eq {xs xc ms mc w P j : Nat} {u : St} (h : ShR xs xc ms mc w P u) (hj : j < P) : gi u ms j = gi u xs j := by
  rcases h j hj with ⟨q1, q2⟩ | ⟨n, -, q2, q3, -⟩
  · exact q2.trans q1.symm
  · exact q3.trans q2.symm
theorem has_congr {f g : Nat → Int32} {P : Nat} (h : ∀ j, j < P → f j = g j) : hasF f P = hasF g P := funext (fun j => by
  unfold hasF
  by_cases hj : j < P
  · rw [h j hj]
  · rw [if_neg (fun q => hj q.1), if_neg (fun q => hj q.1)])
theorem s_countX {b : Bd} {m : Mt} {nd c6 c7 c8 w : Nat} {u : St} {Q : Int32 → St → Prop} (h : Inv u) (hN : Now b m nd u) (hd : gi u 8 3 = nI nd) (hc : Cn c6 c7 c8 u) (hw : w < 11) (hq : ∀ v, SX u v → Q (nI (cntF b m nd c6 c7 c8 w)) v) : wp_X4_count (nI w) u Q := by
  have h0 := hq u Same.rfl'
  have tl := toldF_lt7 hN.1 m (mP m)
  unfold wp_X4_count
  refine w_ok (P := 11) hw (by decide) ⟨fun _ => ?_, fun q => absurd q (by decide)⟩
  refine ⟨fun c => ?_, fun c => ?_, fun c => ?_, fun c => ?_, fun c => ?_, fun c => ?_, fun c => ?_, fun c => ?_, fun c => ?_, fun c => ?_, fun c => ?_⟩
  · obtain rfl : w = 0 := (nI_eq (b := 0) (by omega) (by decide)).mp c
    rw [hN.lx.1]; exact h0
  · obtain rfl : w = 1 := (nI_eq (b := 1) (by omega) (by decide)).mp c
    rw [hN.mx.1]; exact h0
  · obtain rfl : w = 2 := (nI_eq (b := 2) (by omega) (by decide)).mp c
    refine size_ok (j := 3) (Sh7 h.1.1) (by decide) ?_
    rw [show gi u (7 + 1) 3 = nI nd from hd]; exact h0
  · obtain rfl : w = 3 := (nI_eq (b := 3) (by omega) (by decide)).mp c
    rw [hN.mx.2.1]; exact h0
  · obtain rfl : w = 4 := (nI_eq (b := 4) (by omega) (by decide)).mp c
    rw [hN.mx.2.2.1]; exact h0
  · obtain rfl : w = 5 := (nI_eq (b := 5) (by omega) (by decide)).mp c
    exact hN.toldX (fun v hv => s_bitCount (by omega) (hq v hv))
  · obtain rfl : w = 6 := (nI_eq (b := 6) (by omega) (by decide)).mp c
    refine s_howMany (p := 6) (Sh1 h.1.1) (by decide) h.1.2.1.x ?_
    rw [show sumN (hasF (gi u (1 + 1)) 6) 0 6 = c6 from hc.1]; exact h0
  · obtain rfl : w = 7 := (nI_eq (b := 7) (by omega) (by decide)).mp c
    refine s_howMany (p := 4) (Sh4 h.1.1) (by decide) h.1.2.2.1.x ?_
    rw [show sumN (hasF (gi u (4 + 1)) 4) 0 6 = c7 from hc.2.1]; exact h0
  · obtain rfl : w = 8 := (nI_eq (b := 8) (by omega) (by decide)).mp c
    refine s_howMany (p := 3) (Sh7 h.1.1) (by decide) (fun j hj => (kept_x h j hj).1) ?_
    rw [show sumN (hasF (gi u (7 + 1)) 3) 0 6 = c8 from hc.2.2]; exact h0
  · obtain rfl : w = 9 := (nI_eq (b := 9) (by omega) (by decide)).mp c
    exact s_howManyOf (o := 1) hN.1 hN.lx (Or.inl rfl) h0
  · rw [nI_toInt (by omega)] at c
    obtain rfl : w = 10 := by omega
    exact s_howManyOf (o := 2) hN.1 hN.lx (Or.inr rfl) h0
theorem s_countM {b : Bd} {m : Mt} {nd c6 c7 c8 w : Nat} {u : St} {Q : Int32 → St → Prop} (h : Inv u) (hN : Now b m nd u) (hc : Cn c6 c7 c8 u) (hw : w < 11) (hq : ∀ v, SM u v → Q (nI (cntF b m nd c6 c7 c8 w)) v) : wp_X5_count (nI w) u Q := by
  have h0 := hq u Same.rfl'
  have tl := toldF_lt7 hN.1 m (mP m)
  unfold wp_X5_count
  refine ⟨fun c => ?_, fun c => ?_, fun c => ?_, fun c => ?_, fun c => ?_, fun c => ?_, fun c => ?_, fun c => ?_, fun c => ?_, fun c => ?_, fun c => ?_, fun c => ?_⟩
  · obtain rfl : w = 0 := (nI_eq (b := 0) (by omega) (by decide)).mp c
    rw [hN.bm.1]; exact h0
  · obtain rfl : w = 1 := (nI_eq (b := 1) (by omega) (by decide)).mp c
    exact hN.nowM (j := 1) (by decide) h0
  · obtain rfl : w = 2 := (nI_eq (b := 2) (by omega) (by decide)).mp c
    rw [hN.2.2.2.2.2.2.2.2.1]; exact h0
  · obtain rfl : w = 3 := (nI_eq (b := 3) (by omega) (by decide)).mp c
    exact hN.nowM (j := 0) (by decide) h0
  · obtain rfl : w = 4 := (nI_eq (b := 4) (by omega) (by decide)).mp c
    exact hN.nowM (j := 2) (by decide) h0
  · obtain rfl : w = 5 := (nI_eq (b := 5) (by omega) (by decide)).mp c
    exact hN.toldM (fun v hv _ => s_bitsOf (by omega) (hq v hv))
  · obtain rfl : w = 6 := (nI_eq (b := 6) (by omega) (by decide)).mp c
    refine s_thereAre (p := 6) (Or.inl rfl) (fun j hj => ?_) ?_
    · rw [show gi u (mcF 6) j = gi u 2 j from sh_eq h.1.2.1 hj]
      exact (h.1.2.1.x j hj).imp id (fun ⟨n, hn, e⟩ => ⟨n, by omega, e⟩)
    · rw [has_congr (f := gi u (mcF 6)) (P := prF 6) (g := gi u 2) (fun j hj => sh_eq h.1.2.1 hj), show sumN (hasF (gi u 2) (prF 6)) 0 6 = c6 from hc.1]; exact h0
  · obtain rfl : w = 7 := (nI_eq (b := 7) (by omega) (by decide)).mp c
    refine s_thereAre (p := 7) (Or.inr (Or.inl rfl)) (fun j hj => ?_) ?_
    · rw [show gi u (mcF 7) j = gi u 5 j from sh_eq h.1.2.2.1 hj]
      exact (h.1.2.2.1.x j hj).imp id (fun ⟨n, hn, e⟩ => ⟨n, by omega, e⟩)
    · rw [has_congr (f := gi u (mcF 7)) (P := prF 7) (g := gi u 5) (fun j hj => sh_eq h.1.2.2.1 hj), show sumN (hasF (gi u 5) (prF 7)) 0 6 = c7 from hc.2.1]; exact h0
  · obtain rfl : w = 8 := (nI_eq (b := 8) (by omega) (by decide)).mp c
    refine s_thereAre (p := 8) (Or.inr (Or.inr rfl)) (fun j hj => ?_) ?_
    · rw [show gi u (mcF 8) j = gi u 8 j from (kept_x h j hj).2]
      exact (kept_x h j hj).1.imp id (fun ⟨n, hn, e⟩ => ⟨n, by omega, e⟩)
    · rw [has_congr (f := gi u (mcF 8)) (P := prF 8) (g := gi u 8) (fun j hj => (kept_x h j hj).2), show sumN (hasF (gi u 8) (prF 8)) 0 6 = c8 from hc.2.2]; exact h0
  · obtain rfl : w = 9 := (nI_eq (b := 9) (by omega) (by decide)).mp c
    exact s_ofKinds (o := 1) hN.1 hN.bm (Or.inl rfl) h0
  · obtain rfl : w = 10 := (nI_eq (b := 10) (by omega) (by decide)).mp c
    exact s_ofKinds (o := 2) hN.1 hN.bm (Or.inr rfl) h0
  · rw [nI_toInt (by omega)] at c
    omega
theorem cn_ex (u : St) : ∃ c6 c7 c8, Cn c6 c7 c8 u := ⟨_, _, _, rfl, rfl, rfl⟩
theorem p_count {a : Int32} {u : St} (h : Inv u) {K1 : Int32 → St → Prop} (hK : ∀ r u1, Nx (wp_X5_count a u1) r → K1 r u1) : wp_X4_count a u K1 := by
  obtain ⟨b, m, nd, hN, hd⟩ := h.now2
  obtain ⟨c6, c7, c8, hc⟩ := cn_ex u
  have bad : (a < 0 ∨ nI 11 ≤ a) → Nx (wp_X5_count a u) (-1) := fun z K2 h2 => by
    have a11 : (nI 11).toInt = 11 := by decide
    have a0 : (0 : Int32).toInt = 0 := by decide
    have zi : a.toInt < 0 ∨ 10 < a.toInt := by
      rcases z with z | z
      · rw [Int32.lt_iff_toInt_lt] at z; omega
      · rw [Int32.le_iff_toInt_le] at z; omega
    have no : ∀ k, k < 11 → ¬ a = nI k := fun k hk e => by
      rw [e, nI_toInt (by omega)] at zi
      omega
    unfold wp_X5_count
    exact ⟨fun q => absurd q (no 0 (by decide)), fun q => absurd q (no 1 (by decide)), fun q => absurd q (no 2 (by decide)), fun q => absurd q (no 3 (by decide)), fun q => absurd q (no 4 (by decide)), fun q => absurd q (no 5 (by decide)), fun q => absurd q (no 6 (by decide)), fun q => absurd q (no 7 (by decide)), fun q => absurd q (no 8 (by decide)), fun q => absurd q (no 9 (by decide)), fun q => absurd q (no 10 (by decide)), fun _ => h2 u h⟩
  rcases pk_ix a (n := 11) (by decide) with z | z | ⟨w, hw, rfl⟩
  · unfold wp_X4_count
    exact w_bad (Or.inl z) ⟨fun q => absurd rfl q, fun _ => hK _ _ (bad (Or.inl z))⟩
  · unfold wp_X4_count
    exact w_bad (Or.inr z) ⟨fun q => absurd rfl q, fun _ => hK _ _ (bad (Or.inr z))⟩
  · exact s_countX h hN hd hc hw (fun v hv => hK _ _ (fun K2 h2 => s_countM (h.sx hv) (hN.sx hv) (hc.sx hv) hw (fun w hw => h2 w ((h.sx hv).sm hw))))
