/-! PURE: best -/
def trnF (b : Bd) (i k : Nat) : Bd := (bN b, fun j => if j = i then k else bK b j, fun j => bL b j, fun j => bC b j, fun j => bD b j)
theorem trn_ok {b : Bd} {i k : Nat} (hb : bdOk b) (hk : k < 6) : bdOk (trnF b i k) := ⟨hb.1, fun j hj => by
  obtain ⟨h1, h2, h3, h4⟩ := hb.2 j hj
  refine ⟨?_, h2, h3, h4⟩
  show (if j = i then k else bK b j) < 6
  split <;> assumption⟩
theorem trn_self (b : Bd) (i : Nat) : trnF b i (bK b i) = b := by
  have : (fun j => if j = i then bK b i else bK b j) = fun j => bK b j := funext (fun j => by split <;> simp_all)
  unfold trnF
  rw [this]
  rfl
def nLay (c k : Nat) : Prop := ¬ (c ≤ k ∧ k ≤ c + 4)
theorem s_copyL {b : Bd} {u : St} {Q : St → Prop} (hb : bdOk b) (hL : LX 10 b u) (h : ∀ v, LX 15 b v → Same (nLay 15) u v → Q v) : wp_X0_copyFrom 15 10 u Q := by
  have hn := hb.1
  unfold wp_X0_copyFrom
  simp only [nxt, wp_X0_copyFrom_L10]
  refine lc1 7 (fun k w => Same (nLay 15) u w ∧ gi w 15 4 = nI (bN b) ∧ ∀ i, i < k → gi w 16 i = gi u 11 i ∧ gi w 17 i = gi u 12 i ∧ gi w 18 i = gi u 13 i ∧ gi w 19 i = gi u 14 i) ⟨Same.si Same.rfl' (by unfold nLay; omega), by rw [gi_same]; exact hL.1, fun i hi => absurd hi (by omega)⟩ ?_ ?_
  · rintro K k w hk ⟨hs, h4, hr⟩ hK
    have v7 : vp_in (nI k) 7 := vp_in_nI (by omega) (by omega)
    unfold wp_X0_copyFrom_B10
    simp only [nxt]
    rw [tNn (by omega), nI_1]
    refine ⟨fun c => absurd c (nI_ge (b := 7) hk (by decide)), fun _ => ⟨v7, v7, v7, v7, v7, v7, v7, v7, hK _ ⟨(((hs.si (by unfold nLay; omega)).si (by unfold nLay; omega)).si (by unfold nLay; omega)).si (by unfold nLay; omega), ?_, fun i hi => ?_⟩⟩⟩
    · rw [gi_nk (by decide), gi_nk (by decide), gi_nk (by decide), gi_nk (by decide)]; exact h4
    · have o : ∀ q, q = 11 ∨ q = 12 ∨ q = 13 ∨ q = 14 → gi w q k = gi u q k := fun q hq => hs.1 q k (by unfold nLay; omega)
      by_cases e : i = k
      · subst e
        refine ⟨?_, ?_, ?_, ?_⟩
        · rw [gi_nk (by decide), gi_nk (by decide), gi_nk (by decide), gi_same]; exact o _ (by omega)
        · rw [gi_nk (by decide), gi_nk (by decide), gi_same, gi_nk (by decide)]; exact o _ (by omega)
        · rw [gi_nk (by decide), gi_same, gi_nk (by decide), gi_nk (by decide)]; exact o _ (by omega)
        · rw [gi_same, gi_nk (by decide), gi_nk (by decide), gi_nk (by decide)]; exact o _ (by omega)
      · rw [gi_ni e, gi_ni e, gi_ni e, gi_ni e, gi_ni e, gi_ni e, gi_ni e, gi_ni e, gi_ni e, gi_ni e, gi_ni e, gi_ni e, gi_ni e, gi_ni e, gi_ni e, gi_ni e]
        exact hr i (by omega)
  · rintro K w ⟨hs, h4, hr⟩
    unfold wp_X0_copyFrom_B10
    refine ⟨fun _ => h w ⟨h4, fun i hi => ?_⟩ hs, fun c => absurd (Int32.le_refl _) c⟩
    obtain ⟨r1, r2, r3, r4⟩ := hr i (by omega)
    obtain ⟨l1, l2, l3, l4⟩ := hL.2 i hi
    exact ⟨r1.trans l1, r2.trans l2, r3.trans l3, r4.trans l4⟩
theorem s_turn {b : Bd} {i k : Nat} {u : St} {Q : St → Prop} (hb : bdOk b) (hL : LX 15 b u) (hi : i < bN b) (h : ∀ v, LX 15 (trnF b i k) v → Same (nLay 15) u v → Q v) : wp_X0_turnInto 15 (nI i) (nI k) u Q := by
  have hn := hb.1
  unfold wp_X0_turnInto
  refine hasY hb hL hi ⟨fun q => absurd q (by decide), fun _ => ⟨vp_in_nI (by omega) (by decide), ?_⟩⟩
  simp only [nxt]
  rw [tNn (by omega)]
  refine h _ ⟨by rw [gi_nk (by decide)]; exact hL.1, fun j hj => ?_⟩ (Same.si Same.rfl' (by unfold nLay; omega))
  obtain ⟨l1, l2, l3, l4⟩ := hL.2 j hj
  refine ⟨?_, by rw [gi_nk (by decide)]; exact l2, by rw [gi_nk (by decide)]; exact l3, by rw [gi_nk (by decide)]; exact l4⟩
  show gi _ 16 j = nI (if j = i then k else bK b j)
  by_cases e : j = i
  · subst e; rw [gi_same, if_pos rfl]
  · rw [gi_ni e, if_neg e]; exact l1
theorem sx_L {u v : St} (h : Same (nLay 15) u v) : SX u v := h.weak (fun k hk => by unfold nLay; omega)
theorem s_rightX {c : Nat} {b : Bd} {m : Mt} {u : St} {Q : Int32 → St → Prop} (hc : isLay c) (hb : bdOk b) (hm : mtOk m) (hL : LX c b u) (hM : MX 20 m u) (h : ∀ v, SX u v → Q (nI (sumN (rgtF b m) 0 (2 ^ bN b))) v) : wp_X4_rightSetsOf c u Q := by
  have h7 := two7 hb.1
  unfold wp_X4_rightSetsOf
  refine s_X3_attach hc (Or.inl rfl) hL hM hb hm (fun v hw hs => s_sets hb ((hL.same hs (lay_notW hc)).1) ?_)
  simp only [wp_X4_rightSetsOf_L22]
  refine lc3 (2 ^ bN b) (fun k x a w => x = nI (sumN (rgtF b m) 0 k) ∧ a = nI (2 ^ bN b) ∧ SX u w ∧ WR b m w) ⟨rfl, rfl, sx_W hs, hw⟩ ?_ ?_
  · rintro K k x a w hk ⟨rfl, rfl, hx, hw⟩ hK
    have tl := toldF_lt7 hb m k
    have e2 := sumN_s (rgtF b m) 0 k
    rw [Nat.zero_add] at e2
    unfold wp_X4_rightSetsOf_B22
    rw [nI_1, nI_1]
    refine ⟨fun c => absurd c (nI_ge hk (by omega)), fun _ => s_X3_toldOf hb (by omega) hw (fun w' ht => ⟨fun c => hK _ _ _ ⟨?_, rfl, hx.trans (sx_T ht), hw.t ht⟩, fun c => hK _ _ _ ⟨?_, rfl, hx.trans (sx_T ht), hw.t ht⟩⟩)⟩
    · rw [e2, rgt_n (fun q => c (by rw [q]))]; rfl
    · rw [e2, rgt_y ((nI_eq (by omega) (by omega)).mp c)]
  · rintro K x a w ⟨rfl, rfl, hx, hw⟩
    unfold wp_X4_rightSetsOf_B22
    exact ⟨fun _ => h w hx, fun c => absurd (Int32.le_refl _) c⟩
noncomputable def rsF (b : Bd) (m : Mt) : Nat := sumN (rgtF b m) 0 (2 ^ bN b)
theorem rs_le {b : Bd} (hb : bdOk b) (m : Mt) : rsF b m ≤ 128 := by
  have h7 := two7 hb.1
  have := sumN_le (rgt_le b m) 0 (2 ^ bN b)
  unfold rsF
  omega
noncomputable def bstF (b : Bd) (m : Mt) : Nat → Nat × Option Nat
  | 0 => (rsF b m, none)
  | k + 1 => if rsF (trnF b k 1) m ≤ (bstF b m k).1 then bstF b m k else (rsF (trnF b k 1) m, some k)
theorem bst_le {b : Bd} (hb : bdOk b) (m : Mt) (k : Nat) : (bstF b m k).1 ≤ 128 := by
  induction k with
  | zero => exact rs_le hb m
  | succ k ih =>
    unfold bstF
    split
    · exact ih
    · exact rs_le (trn_ok hb (by decide)) m
theorem bst_b (b : Bd) (m : Mt) (k : Nat) : ∀ s, (bstF b m k).2 = some s → s < k := by
  induction k with
  | zero => intro s h; cases h
  | succ k ih =>
    intro s h
    unfold bstF at h
    split at h
    · have := ih s h; omega
    · cases h; omega
theorem TM.turn {b : Bd} {m : Mt} {s i k : Nat} {u : St} (hT : TM b m s u) : TM (trnF b i k) m s (si u 54 i (nI k)) := by
  obtain ⟨t1, t2, t3, t4, t5, t6⟩ := hT
  refine ⟨by rw [gi_nk (by decide)]; exact t1, fun j hj => ?_, by rw [gi_nk (by decide)]; exact t3, by rw [gi_nk (by decide)]; exact t4, by rw [gi_nk (by decide)]; exact t5, fun j hj => by rw [gi_nk (by decide)]; exact t6 j hj⟩
  obtain ⟨l1, l2, l3, l4⟩ := t2 j hj
  refine ⟨?_, by rw [gi_nk (by decide)]; exact l2, by rw [gi_nk (by decide)]; exact l3, by rw [gi_nk (by decide)]; exact l4⟩
  show gi _ 54 j = nI (if j = i then k else bK b j)
  by_cases e : j = i
  · subst e; rw [gi_same, if_pos rfl]
  · rw [gi_ni e, if_neg e]; exact l1
theorem p_best {u : St} (h : Inv u) {K1 : Int32 → St → Prop} (hK : ∀ r u1, Nx (wp_X5_best u1) r → K1 r u1) : wp_X4_best u K1 := by
  obtain ⟨b, m, nd, hN⟩ := h.now
  have hn := hN.1.1
  unfold wp_X4_best
  refine ⟨fun c0 => ?_, fun c0 => hK _ _ (fun K2 h2 => ?_)⟩
  · refine s_rightX (Or.inl rfl) hN.1 hN.mt hN.lx hN.mx (fun v hv => ?_)
    simp only [wp_X4_best_L27]
    refine lc3 (bN b) (fun k x y w => x = nI (bstF b m k).1 ∧ y = oI (bstF b m k).2 ∧ SX u w) ⟨rfl, rfl, hv⟩ ?_ ?_
    · rintro K k x y w hk ⟨rfl, rfl, hx⟩ hK
      have hNw := hN.sx hx
      have tok := trn_ok (i := k) hN.1 (show 1 < 6 by decide)
      have bl := bst_le hN.1 m k
      have rl := rs_le tok m
      unfold wp_X4_best_B27
      rw [hNw.lx.1, nI_1]
      refine ⟨fun c => absurd c (nI_ge hk (by omega)), fun _ => s_copyL hN.1 hNw.lx (fun w1 hl1 hs1 => s_turn (k := 1) hN.1 hl1 hk (fun w2 hl2 hs2 => ?_))⟩
      have hs3 := (sx_L hs1).trans (sx_L hs2)
      refine s_rightX (Or.inr rfl) tok hN.mt hl2 (hNw.sx hs3).mx (fun w3 hw3 => ⟨fun c => hK _ _ _ ⟨?_, ?_, (hx.trans hs3).trans hw3⟩, fun c => hK _ _ _ ⟨?_, ?_, (hx.trans hs3).trans hw3⟩⟩)
      · rw [bstF, if_pos ((nI_leI (a := rsF (trnF b k 1) m) (by omega) (by omega)).mp c)]
      · rw [bstF, if_pos ((nI_leI (a := rsF (trnF b k 1) m) (by omega) (by omega)).mp c)]
      · rw [bstF, if_neg (fun q => c ((nI_leI (a := rsF (trnF b k 1) m) (by omega) (by omega)).mpr q))]; rfl
      · rw [bstF, if_neg (fun q => c ((nI_leI (a := rsF (trnF b k 1) m) (by omega) (by omega)).mpr q))]; rfl
    · rintro K x y w ⟨rfl, rfl, hx⟩
      have ref : ∀ (w2 : St) (K2 : Int32 → St → Prop), Now b m nd w2 → (∀ y, SM w2 y → ((bstF b m (bN b)).2 = none → K2 (-9) y) ∧ ∀ s, (bstF b m (bN b)).2 = some s → K2 (nI s) (si y 39 2 (nI (bstF b m (bN b)).1))) → wp_X5_best w2 K2 := by
        intro w2 K2 hNw h2
        unfold wp_X5_best
        refine ⟨fun _ => hNw.take (fun x hx hT => s_rightSetsM hN.1 hN.mt hT (fun y hy _ => ?_)), fun q => absurd ((nkX hN).mpr ((nkM hNw).mp q)) c0⟩
        simp only [wp_X5_best_L24]
        refine lc3 (bN b) (fun k x y w => x = nI (bstF b m k).1 ∧ y = oI (bstF b m k).2 ∧ SM w2 w) ⟨rfl, rfl, hx.trans hy⟩ ?_ ?_
        · rintro K k x y w hk ⟨rfl, rfl, hx⟩ hK
          have hNx := hNw.sm hx
          have tok := trn_ok (i := k) hN.1 (show 1 < 6 by decide)
          have bl := bst_le hN.1 m k
          have rl := rs_le tok m
          unfold wp_X5_best_B24
          rw [hNx.bm.1, nI_1]
          refine ⟨fun c => absurd c (nI_ge hk (by omega)), fun _ => hNx.take (fun w1 hs1 hT => ⟨vp_in_nI (by omega) (by decide), ?_⟩)⟩
          simp only [nxt]
          rw [tNn (by omega)]
          refine s_rightSetsM tok hN.mt (hT.turn (i := k) (k := 1)) (fun w3 hw3 _ => ?_)
          have hs4 : SM w2 w3 := hx.trans ((hs1.wr (by omega)).trans hw3)
          refine ⟨fun c => hK _ _ _ ⟨?_, ?_, hs4⟩, fun c => hK _ _ _ ⟨?_, ?_, hs4⟩⟩
          · rw [bstF, if_pos ((nI_leI (a := rsF (trnF b k 1) m) (by omega) (by omega)).mp c)]
          · rw [bstF, if_pos ((nI_leI (a := rsF (trnF b k 1) m) (by omega) (by omega)).mp c)]
          · rw [bstF, if_neg (fun q => c ((nI_leI (a := rsF (trnF b k 1) m) (by omega) (by omega)).mpr q))]; rfl
          · rw [bstF, if_neg (fun q => c ((nI_leI (a := rsF (trnF b k 1) m) (by omega) (by omega)).mpr q))]; rfl
        · rintro K x y w ⟨rfl, rfl, hx⟩
          have hNx := hNw.sm hx
          unfold wp_X5_best_B24 wp_X5_tellAsked
          rw [hNx.bm.1]
          refine ⟨fun _ => ?_, fun c => absurd (Int32.le_refl _) c⟩
          cases ho : (bstF b m (bN b)).2 with
          | none => exact ⟨fun _ => (h2 w hx).1 ho, fun q => absurd rfl q⟩
          | some s1 =>
            have sl := bst_b b m _ s1 ho
            refine ⟨fun q => absurd q (nI_ne_m9 (by omega)), fun _ => ?_⟩
            simp only [nxt]
            exact (h2 w hx).2 s1 ho
      unfold wp_X4_best_B27
      rw [(hN.sx hx).lx.1]
      refine ⟨fun _ => ?_, fun c => absurd (Int32.le_refl _) c⟩
      cases ho : (bstF b m (bN b)).2 with
      | none =>
        refine ⟨fun _ => hK _ _ (fun K2 h2 => ref w K2 (hN.sx hx) (fun y hy => ⟨fun _ => h2 y ((h.sx hx).sm hy), fun s q => by rw [ho] at q; cases q⟩)), fun q => absurd rfl q⟩
      | some s1 =>
        have sl := bst_b b m _ s1 ho
        refine ⟨fun q => absurd q (nI_ne_m9 (by omega)), fun _ => ?_⟩
        simp only [nxt]
        refine hK _ _ (fun K2 h2 => ref _ K2 (hN.sx hx).a0 (fun y hy => ⟨fun q => (by rw [ho] at q; cases q), fun s q => ?_⟩))
        rw [ho] at q
        cases q
        exact h2 _ (h.ans hx hy)
  · unfold wp_X5_best
    exact ⟨fun q => absurd ((nkM hN).mpr ((nkX hN).mp c0)) q, fun _ => h2 u h⟩
