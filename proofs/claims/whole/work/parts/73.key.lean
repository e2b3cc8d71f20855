/-! PURE: key -/
theorem hasY {c i : Nat} {b : Bd} {u : St} {Q : Int32 → St → Prop} (hb : bdOk b) (hL : LX c b u) (hi : i < bN b) (h : Q 1 u) : wp_X0_has c (nI i) u Q := by
  have := hb.1
  exact hasX hb hL (fun c => absurd c (fun q => q.elim (nI_pos (by omega)) (nI_ge hi (by omega)))) (fun _ _ _ => h)
theorem keyY {i : Nat} {b : Bd} {u : St} {Q : Int32 → St → Prop} (hb : bdOk b) (hB : BM b u) (hi : i < bN b) (h : Q 1 u) : wp_X5_isKey (nI i) u Q := by
  have := hb.1
  exact keyM hb hB (fun c => absurd c (fun q => q.elim (nI_pos (by omega)) (nI_ge hi (by omega)))) (fun _ _ _ => h)
theorem s_kindOf {c i : Nat} {b : Bd} {u : St} {Q : Int32 → St → Prop} (hb : bdOk b) (hL : LX c b u) (hi : i < bN b) (h : Q (nI (bK b i)) u) : wp_X0_kindOf c (nI i) u Q := by
  have := hb.1
  unfold wp_X0_kindOf
  refine hasY hb hL hi ⟨fun q => absurd q (by decide), fun _ => ⟨vp_in_nI (by omega) (by decide), ?_⟩⟩
  rw [tNn (by omega), (hL.2 i hi).1]
  exact h
theorem s_lineOf {c i : Nat} {b : Bd} {u : St} {Q : Int32 → St → Prop} (hb : bdOk b) (hL : LX c b u) (hi : i < bN b) (h : Q (nI (bL b i)) u) : wp_X0_lineOf c (nI i) u Q := by
  have := hb.1
  unfold wp_X0_lineOf
  refine hasY hb hL hi ⟨fun q => absurd q (by decide), fun _ => ⟨vp_in_nI (by omega) (by decide), ?_⟩⟩
  rw [tNn (by omega), (hL.2 i hi).2.1]
  exact h
theorem s_columnOf {c i : Nat} {b : Bd} {u : St} {Q : Int32 → St → Prop} (hb : bdOk b) (hL : LX c b u) (hi : i < bN b) (h : Q (nI (bC b i)) u) : wp_X0_columnOf c (nI i) u Q := by
  have := hb.1
  unfold wp_X0_columnOf
  refine hasY hb hL hi ⟨fun q => absurd q (by decide), fun _ => ⟨vp_in_nI (by omega) (by decide), ?_⟩⟩
  rw [tNn (by omega), (hL.2 i hi).2.2.1]
  exact h
theorem s_delayOf {c i : Nat} {b : Bd} {u : St} {Q : Int32 → St → Prop} (hb : bdOk b) (hL : LX c b u) (hi : i < bN b) (h : Q (nI (bD b i)) u) : wp_X0_delayOf c (nI i) u Q := by
  have := hb.1
  unfold wp_X0_delayOf
  refine hasY hb hL hi ⟨fun q => absurd q (by decide), fun _ => ⟨vp_in_nI (by omega) (by decide), ?_⟩⟩
  rw [tNn (by omega), (hL.2 i hi).2.2.2]
  exact h
theorem s_heldFor {c i : Nat} {m : Mt} {u : St} {Q : Int32 → St → Prop} (hM : MX c m u) (hi : i < 7) (h : Q (nI (mH m i)) u) : wp_X1_heldFor c (nI i) u Q := by
  unfold wp_X1_heldFor
  refine ⟨fun c => absurd c (nI_pos (by omega)), fun _ => ⟨fun c => absurd c (nI_ge (b := 7) hi (by decide)), fun _ => ⟨vp_in_nI (by omega) (by decide), ?_⟩⟩⟩
  rw [tNn (by omega), hM.2.2.2 i hi]
  exact h
theorem yn {x : Bool} {Q : Int32 → St → Prop} {u : St} (h : Q (nI x.toNat) u) : (nI x.toNat = 0 → Q 0 u) ∧ (¬ nI x.toNat = 0 → Q 1 u) := by
  cases x
  · exact ⟨fun _ => h, fun q => absurd rfl q⟩
  · exact ⟨fun q => absurd q (by decide), fun _ => h⟩
noncomputable def factF (b : Bd) (m : Mt) (i w : Nat) : Nat := if w = 0 then bK b i else if w = 1 then bL b i else if w = 2 then bC b i else if w = 3 then bD b i else if w = 4 then ((mP m).testBit i).toNat else if w = 5 then mH m i else if w = 6 then (condF (bK b i) (bD b i) (mH m i) (mS m) ((mP m).testBit i)).toNat else ((toldF b m (mP m)).testBit i).toNat
theorem s_keyFact {b : Bd} {m : Mt} {nd i w : Nat} {u : St} {Q : Int32 → St → Prop} (hN : Now b m nd u) (hi : i < bN b) (hw : w < 8) (h : ∀ v, SX u v → Q (nI (factF b m i w)) v) : wp_X4_keyFact (nI i) (nI w) u Q := by
  have hn := hN.1.1
  have hp := hN.mt.2.2.1
  have tl := toldF_lt7 hN.1 m (mP m)
  have h0 := h u Same.rfl'
  unfold wp_X4_keyFact
  refine ⟨fun c => ?_, fun c => ?_, fun c => ?_, fun c => ?_, fun c => ?_, fun c => ?_, fun c => ?_, fun c => ?_⟩
  · obtain rfl : w = 0 := (nI_eq (b := 0) (by omega) (by decide)).mp c
    exact s_kindOf hN.1 hN.lx hi h0
  · obtain rfl : w = 1 := (nI_eq (b := 1) (by omega) (by decide)).mp c
    exact s_lineOf hN.1 hN.lx hi h0
  · obtain rfl : w = 2 := (nI_eq (b := 2) (by omega) (by decide)).mp c
    exact s_columnOf hN.1 hN.lx hi h0
  · obtain rfl : w = 3 := (nI_eq (b := 3) (by omega) (by decide)).mp c
    exact s_delayOf hN.1 hN.lx hi h0
  · obtain rfl : w = 4 := (nI_eq (b := 4) (by omega) (by decide)).mp c
    rw [hN.mx.2.1, nI_bit (by omega) (by omega)]
    exact h0
  · obtain rfl : w = 5 := (nI_eq (b := 5) (by omega) (by decide)).mp c
    exact s_heldFor hN.mx (by omega) h0
  · obtain rfl : w = 6 := (nI_eq (b := 6) (by omega) (by decide)).mp c
    rw [hN.mx.2.1]
    exact s_X0_conducts hN.lx hN.mx hN.1 hN.mt hp hi (yn h0)
  · rw [nI_toInt (by omega)] at c
    obtain rfl : w = 7 := by omega
    refine hN.toldX (fun v hv => ?_)
    rw [nI_bit (by omega) (by omega)]
    exact h v hv
theorem s_factOf {b : Bd} {m : Mt} {nd i w : Nat} {u : St} {Q : Int32 → St → Prop} (hN : Now b m nd u) (hi : i < bN b) (hw : w < 8) (h : ∀ v, SM u v → Q (nI (factF b m i w)) v) : wp_X5_factOf (nI i) (nI w) u Q := by
  have hn := hN.1.1
  have hp := hN.mt.2.2.1
  have tl := toldF_lt7 hN.1 m (mP m)
  have h0 := h u Same.rfl'
  have v14 : vp_in (nI i) 14 := vp_in_nI (by omega) (by decide)
  obtain ⟨e1, e2, e3, e4⟩ := hN.bm.2 i hi
  unfold wp_X5_factOf
  rw [tNn (by omega)]
  refine ⟨fun c => ⟨v14, ?_⟩, fun c => ⟨v14, ?_⟩, fun c => ⟨v14, ?_⟩, fun c => ⟨v14, ?_⟩, fun c => ?_, fun c => ?_, fun c => ?_, fun c => ?_⟩
  · obtain rfl : w = 0 := (nI_eq (b := 0) (by omega) (by decide)).mp c
    rw [e1]; exact h0
  · obtain rfl : w = 1 := (nI_eq (b := 1) (by omega) (by decide)).mp c
    rw [e2]; exact h0
  · obtain rfl : w = 2 := (nI_eq (b := 2) (by omega) (by decide)).mp c
    rw [e3]; exact h0
  · obtain rfl : w = 3 := (nI_eq (b := 3) (by omega) (by decide)).mp c
    rw [e4]; exact h0
  · obtain rfl : w = 4 := (nI_eq (b := 4) (by omega) (by decide)).mp c
    exact hN.nowM (j := 0) (by decide) (s_X5_has (show mP m < 2 ^ 31 by omega) (by omega) (yn h0))
  · obtain rfl : w = 5 := (nI_eq (b := 5) (by omega) (by decide)).mp c
    rw [show (3 : Int32) + nI i = nI (3 + i) from nI_add 3 i]
    refine hN.nowM (by omega) ?_
    have : mtv m (3 + i) = mH m i := by unfold mtv; rw [if_neg (by omega), if_neg (by omega), if_neg (by omega), show 3 + i - 3 = i by omega]
    rw [this]; exact h0
  · obtain rfl : w = 6 := (nI_eq (b := 6) (by omega) (by decide)).mp c
    exact hN.take (fun v hv hT => s_X5_conducts hN.1 hN.mt hp hi hT (yn (h v hv)))
  · rw [nI_toInt (by omega)] at c
    obtain rfl : w = 7 := by omega
    exact hN.toldM (fun v hv _ => s_X5_has (by omega) (by omega) (yn (h v hv)))
theorem p_key {a c : Int32} {u : St} (h : Inv u) {K1 : Int32 → St → Prop} (hK : ∀ r u1, Nx (wp_X5_key a c u1) r → K1 r u1) : wp_X4_key a c u K1 := by
  obtain ⟨b, m, nd, hN⟩ := h.now
  have hn := hN.1.1
  unfold wp_X4_key
  refine hasX hN.1 hN.lx (fun c => ⟨fun _ => hK _ _ (fun K2 h2 => ?_), fun q => absurd rfl q⟩) (fun i hi e => ⟨fun q => absurd q (by decide), fun _ => ?_⟩)
  · unfold wp_X5_key
    exact keyM hN.1 hN.bm (fun _ => ⟨fun _ => h2 u h, fun q => absurd rfl q⟩) (fun i hi e => absurd c (by rw [e]; exact fun q => q.elim (nI_pos (by omega)) (nI_ge hi (by omega))))
  subst e
  have bad : (c < 0 ∨ nI 8 ≤ c) → Nx (wp_X5_key (nI i) c u) (-1) := fun z K2 h2 => by
    unfold wp_X5_key
    exact keyY hN.1 hN.bm hi ⟨fun q => absurd q (by decide), fun _ => in_bad (P := 8) (by decide) (by decide) rfl z ⟨fun _ => h2 u h, fun q => absurd rfl q⟩⟩
  rcases pk_ix c (n := 8) (by decide) with z | z | ⟨w, hw, rfl⟩
  · exact w_bad (Or.inl z) ⟨fun q => absurd rfl q, fun _ => hK _ _ (bad (Or.inl z))⟩
  · exact w_bad (Or.inr z) ⟨fun q => absurd rfl q, fun _ => hK _ _ (bad (Or.inr z))⟩
  · refine w_ok (P := 8) hw (by decide) ⟨fun _ => s_keyFact hN hi hw (fun v hv => ?_), fun q => absurd q (by decide)⟩
    simp only [nxt]
    refine hK _ _ (fun K2 h2 => ?_)
    have hNw := (hN.sx hv).a0 (x := nI (factF b m i w))
    unfold wp_X5_key wp_X5_tellAsked
    refine keyY hN.1 hNw.bm hi ⟨fun q => absurd q (by decide), fun _ => in_ok (P := 8) hw (by decide) rfl ⟨fun q => absurd q (by decide), fun _ => s_factOf hNw hi hw (fun x hx => ?_)⟩⟩
    simp only [nxt]
    exact h2 _ (h.ans hv hx)
