/-! PURE: right, alike, haunts -/
noncomputable def rgtF (b : Bd) (m : Mt) (s : Nat) : Nat := (decide (toldF b m s = s)).toNat
theorem rgt_le (b : Bd) (m : Mt) (s : Nat) : rgtF b m s ≤ 1 := by unfold rgtF; cases decide (toldF b m s = s) <;> decide
theorem rgt_y {b : Bd} {m : Mt} {s : Nat} (h : toldF b m s = s) : rgtF b m s = 1 := by unfold rgtF; rw [decide_eq_true h]; rfl
theorem rgt_n {b : Bd} {m : Mt} {s : Nat} (h : ¬ toldF b m s = s) : rgtF b m s = 0 := by unfold rgtF; rw [decide_eq_false h]; rfl
theorem s_rightSetsM {b : Bd} {m : Mt} {s0 : Nat} {u : St} {Q : Int32 → St → Prop} (hb : bdOk b) (hm : mtOk m) (hT : TM b m s0 u) (h : ∀ v, SM u v → (∃ s, TM b m s v) → Q (nI (sumN (rgtF b m) 0 (2 ^ bN b))) v) : wp_X5_rightSets u Q := by
  have hn := hb.1
  have h7 := two7 hn
  unfold wp_X5_rightSets
  simp only [wp_X5_rightSets_L4]
  refine lc2 (2 ^ bN b) (fun k a v => a = nI (sumN (rgtF b m) 0 k) ∧ SM u v ∧ ∃ s, TM b m s v) ⟨rfl, Same.rfl', s0, hT⟩ ?_ ?_
  · rintro K k a v hk ⟨rfl, hv, s, hT⟩ hK
    have e1 : gi v 39 10 = nI (bN b) := hT.1
    unfold wp_X5_rightSets_B4
    rw [e1, nI_one (by omega)]
    refine ⟨fun c => absurd c (nI_ge hk (by omega)), fun _ => s_toldOfM hb hm (by omega) hT (fun w hw hT2 => ?_)⟩
    have tl := toldF_lt7 hb m k
    have e2 := sumN_s (rgtF b m) 0 k
    rw [Nat.zero_add] at e2
    unfold wp_X5_rightSets_J29
    rw [nI_1]
    refine ⟨fun c => hK _ _ ⟨?_, hv.trans hw, k, hT2⟩, fun c => hK _ _ ⟨?_, hv.trans hw, k, hT2⟩⟩
    · rw [e2, rgt_n (fun q => c (by rw [q]))]
      exact nI_add _ 0
    · rw [e2, rgt_y ((nI_eq (by omega) (by omega)).mp c)]
      exact nI_add _ 1
  · rintro K a v ⟨rfl, hv, s, hT⟩
    have e1 : gi v 39 10 = nI (bN b) := hT.1
    unfold wp_X5_rightSets_B4
    rw [e1, nI_one (by omega)]
    exact ⟨fun _ => h v hv ⟨s, hT⟩, fun c => absurd (Int32.le_refl _) c⟩
/-- the fewest of wrong sets -/
noncomputable def fewF (b : Bd) (m : Mt) : Nat → Nat
  | 0 => bN b + 1
  | k + 1 => if toldF b m k = k then fewF b m k else if popc k < fewF b m k then popc k else fewF b m k
theorem fewF_le {b : Bd} (hb : bdOk b) (m : Mt) (k : Nat) : fewF b m k ≤ 8 := by
  have := hb.1
  induction k with
  | zero => show bN b + 1 ≤ 8; omega
  | succ k ih =>
    unfold fewF
    split
    · exact ih
    · split
      · omega
      · exact ih
theorem fewY {b : Bd} {m : Mt} {k : Nat} (h : toldF b m k = k) : fewF b m (k + 1) = fewF b m k := by show (if _ then _ else _) = _; rw [if_pos h]
theorem fewN {b : Bd} {m : Mt} {k : Nat} (h : ¬ toldF b m k = k) : fewF b m (k + 1) = if popc k < fewF b m k then popc k else fewF b m k := by show (if _ then _ else _) = _; rw [if_neg h]
theorem nI_m1 {x : Nat} (h : 0 < x) : nI x - 1 = nI (x - 1) := by
  have e : nI (x - 1) + 1 = nI x := by rw [nI_1, show x - 1 + 1 = x by omega]
  rw [← e, Int32.add_sub_cancel]
theorem p_right {u : St} (h : Inv u) {K1 : Int32 → St → Prop} (hK : ∀ r u1, Nx (wp_X5_right u1) r → K1 r u1) : wp_X4_right u K1 := by
  obtain ⟨b, m, nd, hN⟩ := h.now
  have hn := hN.1.1
  have h7 := two7 hn
  unfold wp_X4_right
  refine ⟨fun c0 => ?_, fun c0 => hK _ _ (fun K2 h2 => ?_)⟩
  · refine s_fill hN (fun v hs hr => s_sets hN.1 (hN.sx hs).lx.1 ?_)
    rw [(hN.sx hs).lx.1]
    simp only [wp_X4_right_L40]
    refine lc4 (2 ^ bN b) (fun k a c d w => w = v ∧ a = nI (2 ^ bN b) ∧ c = nI (sumN (rgtF b m) 0 k) ∧ d = nI (fewF b m k)) ⟨rfl, rfl, rfl, nI_add _ 1⟩ ?_ ?_
    · rintro K k a c d w hk ⟨rfl, rfl, rfl, rfl⟩ hK
      have tl := toldF_lt7 hN.1 m k
      have fl := fewF_le hN.1 m k
      have e2 := sumN_s (rgtF b m) 0 k
      rw [Nat.zero_add] at e2
      have pl := popc_le k
      unfold wp_X4_right_B40
      rw [tNn (by omega), hr k hk, nI_1, nI_1]
      refine ⟨fun c => absurd c (nI_ge hk (by omega)), fun _ => ⟨vp_in_nI (by omega) (by decide), fun c => s_bitCount (by omega) (hK _ _ _ _ ⟨rfl, rfl, ?_, ?_⟩), fun c => hK _ _ _ _ ⟨rfl, rfl, ?_, ?_⟩⟩⟩
      · rw [e2, rgt_n (fun q => c (by rw [q]))]; rfl
      · rw [fewN (fun q => c (by rw [q]))]
        by_cases z : popc k < fewF b m k
        · rw [if_pos z, if_pos ((nI_ltI (by omega) (by omega)).mpr z)]
        · rw [if_neg z, if_neg (fun q => z ((nI_ltI (by omega) (by omega)).mp q))]
      · rw [e2, rgt_y ((nI_eq (by omega) (by omega)).mp c)]
      · rw [fewY ((nI_eq (by omega) (by omega)).mp c)]
    · rintro K a c d w ⟨rfl, rfl, rfl, rfl⟩
      unfold wp_X4_right_B40
      refine ⟨fun _ => ?_, fun c => absurd (Int32.le_refl _) c⟩
      simp only [nxt]
      refine hK _ _ (fun K2 h2 => ?_)
      have hNw := (hN.sx hs).a0 (x := nI (fewF b m (2 ^ bN b)) - 1)
      unfold wp_X5_right
      refine ⟨fun _ => hNw.take (fun x hx hT => ?_), fun q => absurd ((nkX hN).mpr ((nkM hNw).mp q)) c0⟩
      rw [hT.1]
      simp only [wp_X5_right_L21]
      refine lc2 (2 ^ bN b) (fun k a y => a = nI (fewF b m k) - 1 ∧ SM (si w 0 12 (nI (fewF b m (2 ^ bN b)) - 1)) y ∧ ∃ s, TM b m s y) ⟨?_, hx, _, hT⟩ ?_ ?_
      · show nI (bN b) = nI (bN b + 1) - 1
        rw [nI_m1 (by omega)]; rfl
      · rintro K k a y hk ⟨rfl, hy, s, hT⟩ hK
        have e1 : gi y 39 10 = nI (bN b) := hT.1
        have tl := toldF_lt7 hN.1 m k
        have fl := fewF_le hN.1 m k
        have pl := popc_le k
        unfold wp_X5_right_B21
        rw [e1, nI_one (by omega)]
        refine ⟨fun c => absurd c (nI_ge hk (by omega)), fun _ => s_toldOfM hN.1 hN.mt (by omega) hT (fun z hz hT2 => ?_)⟩
        unfold wp_X5_right_J45 wp_X5_right_J67
        rw [nI_1]
        refine ⟨fun c => ⟨fun _ => hK _ _ ⟨?_, hy.trans hz, k, hT2⟩, fun q => absurd rfl q⟩, fun c => ⟨fun q => absurd q (by decide), fun _ => s_bitsOf (by omega) ⟨fun c2 => hK _ _ ⟨?_, hy.trans hz, k, hT2⟩, fun c2 => s_bitsOf (by omega) (hK _ _ ⟨?_, hy.trans hz, k, hT2⟩)⟩⟩⟩
        · rw [fewY ((nI_eq (by omega) (by omega)).mp c)]
        · rw [fewN (fun q => c (by rw [q])), if_neg]
          have := (sub_lt (a := fewF b m k) (b := 1) (n := popc k) (by omega) (by omega) (by omega)).mp c2
          omega
        · rw [fewN (fun q => c (by rw [q]))]
          by_cases z : popc k < fewF b m k
          · rw [if_pos z]
          · exact absurd ((sub_lt (a := fewF b m k) (b := 1) (n := popc k) (by omega) (by omega) (by omega)).mpr (by omega)) c2
      · rintro K a y ⟨rfl, hy, s, hT⟩
        have e1 : gi y 39 10 = nI (bN b) := hT.1
        unfold wp_X5_right_B21 wp_X5_tellAsked
        rw [e1, nI_one (by omega)]
        refine ⟨fun _ => ?_, fun c => absurd (Int32.le_refl _) c⟩
        simp only [nxt]
        have hT3 : TM b m s (si y 39 2 (nI (fewF b m (2 ^ bN b)) - 1)) := by
          obtain ⟨t1, t2, t3, t4, t5, t6⟩ := hT
          refine ⟨by rw [gi_ni (by decide)]; exact t1, fun i hi => ?_, by rw [gi_nk (by decide)]; exact t3, by rw [gi_nk (by decide)]; exact t4, by rw [gi_nk (by decide)]; exact t5, fun i hi => by rw [gi_nk (by decide)]; exact t6 i hi⟩
          rw [gi_nk (by decide), gi_nk (by decide), gi_nk (by decide), gi_nk (by decide)]
          exact t2 i hi
        exact s_rightSetsM hN.1 hN.mt hT3 (fun z hz _ => h2 z ((h.ans hs hy).sm hz))
  · unfold wp_X5_right
    exact ⟨fun q => absurd ((nkM hN).mpr ((nkX hN).mp c0)) q, fun _ => h2 u h⟩
