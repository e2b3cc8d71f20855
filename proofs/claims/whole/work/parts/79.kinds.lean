/-! PURE: kinds, places -/
theorem trn_trn (b : Bd) (i k k2 : Nat) : trnF (trnF b i k) i k2 = trnF b i k2 := by
  have : (fun j => if j = i then k2 else (if j = i then k else bK b j)) = fun j => if j = i then k2 else bK b j := funext (fun j => by split <;> simp_all)
  show (bN b, (fun j => if j = i then k2 else (if j = i then k else bK b j)), _) = (bN b, (fun j => if j = i then k2 else bK b j), _)
  rw [this]
  rfl
noncomputable def kndF (b : Bd) (m : Mt) (i N : Nat) (x : Nat → Nat) : Nat → Nat := maskF (fun k => fitF (trnF b i k) m x N)
theorem sx_F {u v : St} (h : Same (fun k => notW k ∧ notT k) u v) : SX u v := h.weak (fun k hk => by unfold notW notT; omega)
theorem mask_y {f : Nat → Bool} {k : Nat} (h : f k = true) : maskF f (k + 1) = maskF f k ||| 2 ^ k := by show maskF f k ||| (if f k = true then 2 ^ k else 0) = _; rw [if_pos h]
theorem mask_n {f : Nat → Bool} {k : Nat} (h : f k = false) : maskF f (k + 1) = maskF f k := by show maskF f k ||| (if f k = true then 2 ^ k else 0) = _; rw [if_neg (by rw [h]; decide)]; exact Nat.or_zero _
theorem knd_y {b : Bd} {m : Mt} {i N k : Nat} {x : Nat → Nat} (h : fitF (trnF b i k) m x N = true) : kndF b m i N x (k + 1) = kndF b m i N x k ||| 2 ^ k := mask_y (f := fun k => fitF (trnF b i k) m x N) h
theorem knd_n {b : Bd} {m : Mt} {i N k : Nat} {x : Nat → Nat} (h : fitF (trnF b i k) m x N = false) : kndF b m i N x (k + 1) = kndF b m i N x k := mask_n (f := fun k => fitF (trnF b i k) m x N) h
theorem s_kindsX {b : Bd} {m : Mt} {nd i j N S : Nat} {x : Nat → Nat} {u : St} {Q : Int32 → St → Prop} (hC : iC u) (hN : Now b m nd u) (hi : i < bN b) (hP : PR 2 3 j N S x u) (h : ∀ v, SX u v → Q (nI (kndF b m i N x 6)) v) : wp_X4_kindsThatFit (nI i) (nI j) u Q := by
  have hn := hN.1.1
  unfold wp_X4_kindsThatFit
  refine s_copyL hN.1 hN.lx (fun w1 hl1 hs1 => ?_)
  simp only [wp_X4_kindsThatFit_L16]
  refine lc2 6 (fun k a w => a = nI (kndF b m i N x k) ∧ SX u w ∧ ∃ k', k' < 6 ∧ LX 15 (trnF b i k') w) ⟨rfl, sx_L hs1, bK b i, (hN.1.2 i hi).1, by rw [trn_self]; exact hl1⟩ ?_ ?_
  · rintro K k a w hk ⟨rfl, hx, k', hk', hl⟩ hK
    have tok' := trn_ok (i := i) hN.1 hk'
    have tok := trn_ok (i := i) hN.1 hk
    unfold wp_X4_kindsThatFit_B16
    rw [nI_1, nI_one (by omega)]
    refine ⟨fun c => absurd c (nI_ge (b := 6) hk (by decide)), fun _ => s_turn (k := k) tok' hl hi (fun w2 hl2 hs2 => ?_)⟩
    rw [trn_trn] at hl2
    have hx2 := hx.trans (sx_L hs2)
    refine s_fits (Or.inr rfl) (hC.same hx2 (by omega) (by omega) (by omega)) tok hN.mt hl2 (hN.sx hx2).mx (hP.sx hx2) (fun w3 hs3 => ?_)
    have hl3 : LX 15 (trnF b i k) w3 := hl2.same hs3 (fun j hj => by unfold notW notT; omega)
    have hx3 := hx2.trans (sx_F hs3)
    cases ef : fitF (trnF b i k) m x N with
    | false => exact ⟨fun _ => hK _ _ ⟨by rw [knd_n ef], hx3, k, hk, hl3⟩, fun q => absurd rfl q⟩
    | true =>
      refine ⟨fun q => absurd q (by decide), fun _ => hK _ _ ⟨?_, hx3, k, hk, hl3⟩⟩
      rw [nI_or, knd_y ef]
  · rintro K a w ⟨rfl, hx, -⟩
    unfold wp_X4_kindsThatFit_B16
    exact ⟨fun _ => h w hx, fun c => absurd (Int32.le_refl _) c⟩
theorem s_kindsM {b : Bd} {m : Mt} {nd i j N S : Nat} {x : Nat → Nat} {u : St} {Q : Int32 → St → Prop} (hN : Now b m nd u) (hi : i < bN b) (hP : PR 41 42 j N S x u) (h : ∀ v, SM u v → Q (nI (kndF b m i N x 6)) v) : wp_X5_kindsBy (nI i) (nI j) u Q := by
  have hn := hN.1.1
  unfold wp_X5_kindsBy
  simp only [wp_X5_kindsBy_L5]
  refine lc2 6 (fun k a w => a = nI (kndF b m i N x k) ∧ SM u w) ⟨rfl, Same.rfl'⟩ ?_ ?_
  · rintro K k a w hk ⟨rfl, hx⟩ hK
    have tok := trn_ok (i := i) hN.1 hk
    unfold wp_X5_kindsBy_B5 wp_X5_kindsBy_J40
    rw [nI_1, nI_one (by omega)]
    refine ⟨fun c => absurd ((nI_ltI (a := 5) (by decide) (by omega)).mp c) (by omega), fun _ => (hN.sm hx).take (fun w1 hs1 hT => ⟨vp_in_nI (by omega) (by decide), ?_⟩)⟩
    simp only [nxt]
    rw [tNn (by omega)]
    have hx1 : SM u (si w1 54 i (nI k)) := hx.trans (hs1.wr (by omega))
    refine s_isSo tok hN.mt (hT.turn (i := i) (k := k)) (hP.sm hx1) (fun w3 hs3 _ => ?_)
    cases ef : fitF (trnF b i k) m x N with
    | false =>
      refine ⟨fun _ => hK _ _ ⟨?_, hx1.trans hs3⟩, fun q => absurd rfl q⟩
      rw [show nI (kndF b m i N x k) ||| (0 : Int32) = nI (kndF b m i N x k ||| 0) from nI_or _ 0, knd_n ef, Nat.or_zero]
    | true =>
      refine ⟨fun q => absurd q (by decide), fun _ => hK _ _ ⟨?_, hx1.trans hs3⟩⟩
      rw [nI_or, knd_y ef]
  · rintro K a w ⟨rfl, hx⟩
    unfold wp_X5_kindsBy_B5
    exact ⟨fun _ => h w hx, fun c => absurd (by decide) c⟩
theorem PR.a0 {j N S : Nat} {x : Nat → Nat} {u : St} {y : Int32} (h : PR 41 42 j N S x u) : PR 41 42 j N S x (si u 0 12 y) := h.to (fun i => gi_nk (by decide)) (fun i => gi_nk (by decide))
theorem PR.mx {j N S : Nat} {x : Nat → Nat} {u v : St} (h : PR 41 42 j N S x u) (s : SX u v) : PR 41 42 j N S x v := h.to (fun i => s.1 _ _ (by omega)) (fun i => s.1 _ _ (by omega))
theorem p_kinds {a r : Int32} {u : St} (h : Inv u) {K1 : Int32 → St → Prop} (hK : ∀ x u1, Nx (wp_X5_kinds a r u1) x → K1 x u1) : wp_X4_kinds a r u K1 := by
  obtain ⟨b, m, nd, hN⟩ := h.now
  unfold wp_X4_kinds
  refine pairs2 h hN (WM := wp_X5_kinds a r) (RM := fun K u5 => wp_X5_kindsBy a r u5 (fun r7 u7 => K r7 u7)) (fun v K q => q) hK (fun i j N x hi ea er hP hPM => ?_)
  subst ea; subst er
  refine s_kindsX h.1.1 hN hi hP (fun v hv => hK _ _ (fun K2 h2 => ?_))
  exact pM_ok (hN.sx hv) hi (hPM.mx hv) (s_kindsM (hN.sx hv) hi (hPM.mx hv) (fun w hw => h2 w ((h.sx hv).sm hw)))
/-! places -/
def setF (b : Bd) (i l c : Nat) : Bd := (bN b, fun j => bK b j, fun j => if j = i then l else bL b j, fun j => if j = i then c else bC b j, fun j => bD b j)
theorem set_ok2 {b : Bd} {i l c : Nat} (hb : bdOk b) (hl : l < 4) (hc : c < 6) : bdOk (setF b i l c) := ⟨hb.1, fun j hj => by
  obtain ⟨h1, h2, h3, h4⟩ := hb.2 j hj
  refine ⟨h1, ?_, ?_, h4⟩
  · show (if j = i then l else bL b j) < 4
    split <;> assumption
  · show (if j = i then c else bC b j) < 6
    split <;> assumption⟩
theorem set_set (b : Bd) (i l c l2 c2 : Nat) : setF (setF b i l c) i l2 c2 = setF b i l2 c2 := by
  have e1 : (fun j => if j = i then l2 else (if j = i then l else bL b j)) = fun j => if j = i then l2 else bL b j := funext (fun j => by split <;> simp_all)
  have e2 : (fun j => if j = i then c2 else (if j = i then c else bC b j)) = fun j => if j = i then c2 else bC b j := funext (fun j => by split <;> simp_all)
  show (bN b, _, (fun j => if j = i then l2 else (if j = i then l else bL b j)), (fun j => if j = i then c2 else (if j = i then c else bC b j)), _) = (bN b, _, (fun j => if j = i then l2 else bL b j), (fun j => if j = i then c2 else bC b j), _)
  rw [e1, e2]
  rfl
theorem set_self (b : Bd) (i : Nat) : setF b i (bL b i) (bC b i) = b := by
  have e1 : (fun j => if j = i then bL b i else bL b j) = fun j => bL b j := funext (fun j => by split <;> simp_all)
  have e2 : (fun j => if j = i then bC b i else bC b j) = fun j => bC b j := funext (fun j => by split <;> simp_all)
  unfold setF
  rw [e1, e2]
  rfl
theorem s_seat {b : Bd} {i l c : Nat} {u : St} {Q : St → Prop} (hb : bdOk b) (hL : LX 15 b u) (hi : i < bN b) (h : ∀ v, LX 15 (setF b i l c) v → Same (nLay 15) u v → Q v) : wp_X0_seat 15 (nI i) (nI l) (nI c) u Q := by
  have hn := hb.1
  have v7 : vp_in (nI i) 7 := vp_in_nI (by omega) (by decide)
  unfold wp_X0_seat
  refine hasY hb hL hi ⟨fun q => absurd q (by decide), fun _ => ⟨v7, ?_⟩⟩
  simp only [nxt]
  rw [tNn (by omega)]
  refine ⟨v7, h _ ⟨by rw [gi_nk (by decide), gi_nk (by decide)]; exact hL.1, fun j hj => ?_⟩ ((Same.rfl'.si (by unfold nLay; omega)).si (by unfold nLay; omega))⟩
  obtain ⟨l1, l2, l3, l4⟩ := hL.2 j hj
  refine ⟨by rw [gi_nk (by decide), gi_nk (by decide)]; exact l1, ?_, ?_, by rw [gi_nk (by decide), gi_nk (by decide)]; exact l4⟩
  · show gi _ 17 j = nI (if j = i then l else bL b j)
    rw [gi_nk (by decide)]
    by_cases e : j = i
    · subst e; rw [gi_same, if_pos rfl]
    · rw [gi_ni e, if_neg e]; exact l2
  · show gi _ 18 j = nI (if j = i then c else bC b j)
    by_cases e : j = i
    · subst e; rw [gi_same, if_pos rfl]
    · rw [gi_ni e, gi_nk (by decide), if_neg e]; exact l3
/-- nobody else sits there -/
def freF (b : Bd) (i l c : Nat) : Bool := decide (∀ j, j < bN b → j ≠ i → ¬ (bL b j = l ∧ bC b j = c))
theorem s_keyAt {c0 l c : Nat} {b : Bd} {u : St} {Q : Int32 → St → Prop} (hb : bdOk b) (hL : LX c0 b u) (hl : l < 4) (hc : c < 6) (h0 : (∀ j, j < bN b → ¬ (bL b j = l ∧ bC b j = c)) → Q (-9) u) (h1 : ∀ j, j < bN b → bL b j = l → bC b j = c → Q (nI j) u) : wp_X0_keyAt c0 (nI l) (nI c) u Q := by
  have hn := hb.1
  unfold wp_X0_keyAt
  simp only [wp_X0_keyAt_L2]
  refine lc1 (bN b) (fun k w => w = u ∧ ∀ j, j < k → ¬ (bL b j = l ∧ bC b j = c)) ⟨rfl, fun j hj => absurd hj (by omega)⟩ ?_ ?_
  · rintro K k w hk ⟨rfl, hr⟩ hK
    obtain ⟨k1, k2, k3, k4⟩ := hb.2 k hk
    obtain ⟨e1, e2, e3, e4⟩ := hL.2 k hk
    have v7 : vp_in (nI k) 7 := vp_in_nI (by omega) (by decide)
    unfold wp_X0_keyAt_B2
    rw [hL.1, tNn (by omega), e2, e3, nI_1]
    have nx : ¬ (bL b k = l ∧ bC b k = c) → K (nI (k + 1)) w := fun q => hK _ ⟨rfl, fun j hj => by
      by_cases e : j = k
      · subst e; exact q
      · exact hr j (by omega)⟩
    refine ⟨fun c => absurd c (nI_ge hk (by omega)), fun _ => ⟨fun c => absurd c (nI_ge (b := 7) (by omega) (by decide)), fun _ => ⟨v7, fun q => nx (fun z => q (by rw [z.1])), fun q => ⟨v7, fun q2 => nx (fun z => q2 (by rw [z.2])), fun q2 => h1 k hk ((nI_eq (by omega) (by omega)).mp q) ((nI_eq (by omega) (by omega)).mp q2)⟩⟩⟩⟩
  · rintro K w ⟨rfl, hr⟩
    unfold wp_X0_keyAt_B2
    rw [hL.1]
    exact ⟨fun _ => h0 hr, fun c => absurd (Int32.le_refl _) c⟩
theorem s_isFree {i l c : Nat} {b : Bd} {u : St} {Q : Int32 → St → Prop} (hb : bdOk b) (hB : BM b u) (hi : i < bN b) (hl : l < 4) (hc : c < 6) (h : Q (nI (freF b i l c).toNat) u) : wp_X5_isFree (nI i) (nI l) (nI c) u Q := by
  have hn := hb.1
  have narB : ∀ y : Bool, narrow .boolean (.int (nI y.toNat)) = .int (nI y.toNat) := fun y => by cases y <;> rfl
  unfold wp_X5_isFree
  simp only [wp_X5_isFree_L6]
  refine lc2 (bN b) (fun k f w => w = u ∧ f = nI (decide (∀ j, j < k → j ≠ i → ¬ (bL b j = l ∧ bC b j = c))).toNat) ⟨rfl, by rw [decide_eq_true (fun j hj => absurd hj (Nat.not_lt_zero _))]; rfl⟩ ?_ ?_
  · rintro K k f w hk ⟨rfl, rfl⟩ hK
    obtain ⟨k1, k2, k3, k4⟩ := hb.2 k hk
    obtain ⟨e1, e2, e3, e4⟩ := hB.2 k hk
    have v14 : vp_in (nI k) 14 := vp_in_nI (by omega) (by decide)
    unfold wp_X5_isFree_B6 wp_X5_isFree_J52 wp_X5_isFree_J48
    rw [hB.1, tNn (by omega), e2, e3, nI_1]
    refine ⟨fun c => absurd c (nI_ge hk (by omega)), fun _ => ?_⟩
    by_cases hr : ∀ j, j < k → j ≠ i → ¬ (bL b j = l ∧ bC b j = c)
    · rw [decide_eq_true hr]
      have nx : (k ≠ i → ¬ (bL b k = l ∧ bC b k = c)) → K 1 (nI (k + 1)) w := fun q => hK _ _ ⟨rfl, by
        rw [decide_eq_true (fun j hj hne => ?_)]; rfl
        by_cases e : j = k
        · subst e; exact q hne
        · exact hr j (by omega) hne⟩
      refine ⟨fun q => absurd q (by decide), fun _ => ⟨fun q => nx (fun z => absurd ((nI_eq (by omega) (by omega)).mp q) z), fun q => ⟨v14, fun q1 => nx (fun _ z => q1 (by rw [z.1])), fun q1 => ⟨v14, fun q2 => hK _ _ ⟨rfl, ?_⟩, fun q2 => nx (fun _ z => q2 (by rw [z.2]))⟩⟩⟩⟩
      rw [decide_eq_false (fun z => z k (Nat.lt_succ_self _) (fun e => q (by rw [e])) ⟨(nI_eq (by omega) (by omega)).mp q1, (nI_eq (by omega) (by omega)).mp q2⟩)]; rfl
    · rw [decide_eq_false hr]
      refine ⟨fun _ => hK _ _ ⟨rfl, ?_⟩, fun q => absurd rfl q⟩
      rw [decide_eq_false (fun z => hr (fun j hj => z j (by omega)))]; rfl
  · rintro K f w ⟨rfl, rfl⟩
    unfold wp_X5_isFree_B6
    rw [hB.1]
    exact ⟨fun _ => ⟨narB _, h⟩, fun c => absurd (Int32.le_refl _) c⟩
