/-! PURE: count -/
def hasF (f : Nat → Int32) (P j : Nat) : Nat := if j < P ∧ f j ≠ -1 then 1 else 0
theorem s_howMany {b P w p : Nat} {u : St} {Q : Int32 → St → Prop} (hs : Sh b P w u) (hp : p ≤ P) (hz : ∀ j, j < p → gi u (b + 1) j = -1 ∨ ∃ n, n ≤ w ∧ gi u (b + 1) j = nI n) (h : Q (nI (sumN (hasF (gi u (b + 1)) p) 0 6)) u) : wp_X2_howMany b (nI p) u Q := by
  have hP := hs.2.2.2.2.2.1
  have tail : ∀ k, p + k ≤ 6 → sumN (hasF (gi u (b + 1)) p) 0 (p + k) = sumN (hasF (gi u (b + 1)) p) 0 p := fun k => by
    induction k with
    | zero => intro _; rfl
    | succ k ih =>
      intro hk
      have := sumN_s (hasF (gi u (b + 1)) p) 0 (p + k)
      rw [Nat.zero_add] at this
      rw [show p + (k + 1) = p + k + 1 from rfl, this, ih (by omega), hasF, if_neg (by omega), Nat.add_zero]
  have e6 := tail (6 - p) (by omega)
  rw [show p + (6 - p) = 6 by omega] at e6
  rw [e6] at h
  unfold wp_X2_howMany
  simp only [wp_X2_howMany_L4]
  refine lc2 p (fun k x v => v = u ∧ x = nI (sumN (hasF (gi u (b + 1)) p) 0 k)) ⟨rfl, rfl⟩ ?_ ?_
  · rintro K k x v hk ⟨rfl, rfl⟩ hK
    have es := sumN_s (hasF (gi v (b + 1)) p) 0 k
    rw [Nat.zero_add] at es
    unfold wp_X2_howMany_B4
    rw [nI_1, nI_1]
    refine ⟨fun c => absurd c (nI_ge hk (by omega)), fun _ => ?_⟩
    rcases hz k hk with e | ⟨n, hn, e⟩
    · exact has_no hs (by omega) e ⟨fun _ => hK _ _ ⟨rfl, by rw [es, hasF, if_neg (fun q => q.2 e)]; rfl⟩, fun q => absurd rfl q⟩
    · have hw := hs.2.2.2.2.2.2
      exact has_yes hs (by omega) hn e ⟨fun q => absurd q (by decide), fun _ => hK _ _ ⟨rfl, by rw [es, hasF, if_pos ⟨hk, by rw [e]; exact nI_ne_m1 (by omega)⟩]⟩⟩
  · rintro K x v ⟨rfl, rfl⟩
    unfold wp_X2_howMany_B4
    exact ⟨fun _ => h, fun c => absurd (Int32.le_refl _) c⟩
def prF (p : Nat) : Nat := if p = 6 then 6 else if p = 7 then 4 else 3
def mcF (p : Nat) : Nat := if p = 6 then 41 else if p = 7 then 43 else 52
theorem neg_of {x : Int32} (h : x = -1 ∨ ∃ n, n < 2 ^ 31 ∧ x = nI n) : (x < 0) ↔ x = -1 := by
  rcases h with rfl | ⟨n, hn, rfl⟩
  · decide
  · exact ⟨fun q => absurd q (nI_pos hn), fun q => absurd q (nI_ne_m1 hn)⟩
theorem add0' (x : Nat) : nI x + 0 = nI x := nI_add x 0
theorem s_thereAre {p : Nat} {u : St} {Q : Int32 → St → Prop} (hp : p = 6 ∨ p = 7 ∨ p = 8) (hz : ∀ j, j < prF p → gi u (mcF p) j = -1 ∨ ∃ n, n < 2 ^ 31 ∧ gi u (mcF p) j = nI n) (h : Q (nI (sumN (hasF (gi u (mcF p)) (prF p)) 0 6)) u) : wp_X5_thereAre (nI p) u Q := by
  unfold wp_X5_thereAre
  simp only [wp_X5_thereAre_L4]
  refine lc2 6 (fun k x v => v = u ∧ x = nI (sumN (hasF (gi u (mcF p)) (prF p)) 0 k)) ⟨rfl, rfl⟩ ?_ ?_
  · rintro K k x v hk ⟨rfl, rfl⟩ hK
    have es := sumN_s (hasF (gi v (mcF p)) (prF p)) 0 k
    rw [Nat.zero_add] at es
    have fin : ∀ t, t = hasF (gi v (mcF p)) (prF p) k → K (nI (sumN (hasF (gi v (mcF p)) (prF p)) 0 k) + nI t) (nI (k + 1)) v := fun t et => hK _ _ ⟨rfl, by rw [nI_add, es, et]⟩
    unfold wp_X5_thereAre_B4 wp_X5_thereAre_J30 wp_X5_thereAre_J31 wp_X5_thereAre_J67 wp_X5_thereAre_J59 wp_X5_thereAre_J67 wp_X5_thereAre_J68 wp_X5_thereAre_J96 wp_X5_thereAre_J104 wp_X5_thereAre_J105
    rw [nI_1]
    refine ⟨fun c => absurd c (nI_ge (b := 6) hk (by decide)), fun _ => ?_⟩
    rcases hp with rfl | rfl | rfl
    · have ng := neg_of (hz k hk)
      refine ⟨fun q => absurd rfl q, fun _ => ⟨vp_in_nI hk (by decide), ?_⟩⟩
      rw [tNn (by omega)]
      refine ⟨fun c => ⟨fun _ => ⟨fun _ => ?_, fun q => absurd q (by decide)⟩, fun q => absurd q (by decide)⟩, fun c => ⟨fun _ => ⟨fun _ => ?_, fun q => absurd q (by decide)⟩, fun q => absurd q (by decide)⟩⟩
      · rw [add0', add0', add0']
        have := fin 0 (by rw [hasF, if_neg (fun q => q.2 (ng.mp c))])
        rw [show nI 0 = (0 : Int32) from rfl, add0'] at this
        exact this
      · have := fin 1 (by rw [hasF, if_pos ⟨hk, fun q => c (ng.mpr q)⟩])
        rw [nI_add] at this
        rw [nI_1, add0', add0']
        exact this
    · refine ⟨fun _ => ?_, fun q => absurd q (by decide)⟩
      refine ⟨fun q => absurd rfl q, fun _ => ⟨fun c => ⟨fun _ => ?_, fun q => absurd q (by decide)⟩, fun c => ⟨fun q => absurd q c, fun _ => ?_⟩⟩⟩
      · have := fin 0 (by rw [hasF, if_neg (fun q => absurd ((nI_leI (a := 4) (by decide) (by omega)).mp c) (Nat.not_le.mpr q.1))])
        rw [show nI 0 = (0 : Int32) from rfl, add0'] at this
        rw [add0', add0', add0']
        exact this
      · have k4 : k < 4 := Nat.not_le.mp (fun q => c ((nI_leI (a := 4) (by decide) (by omega)).mpr q))
        have ng := neg_of (hz k k4)
        refine ⟨vp_in_nI k4 (by decide), ?_⟩
        rw [tNn (by omega)]
        refine ⟨fun c => ⟨fun _ => ?_, fun q => absurd q (by decide)⟩, fun c => ⟨fun _ => ?_, fun q => absurd q (by decide)⟩⟩
        · have := fin 0 (by rw [hasF, if_neg (fun q => q.2 (ng.mp c))])
          rw [show nI 0 = (0 : Int32) from rfl, add0'] at this
          rw [add0', add0', add0']
          exact this
        · have := fin 1 (by rw [hasF, if_pos ⟨k4, fun q => c (ng.mpr q)⟩])
          rw [nI_add] at this
          rw [add0', nI_1, add0']
          exact this
    · refine ⟨fun _ => ⟨fun _ => ⟨fun q => absurd rfl q, fun _ => ⟨fun c => ?_, fun c => ⟨fun q => absurd q c, fun _ => ?_⟩⟩⟩, fun q => absurd q (by decide)⟩, fun q => absurd q (by decide)⟩
      · have := fin 0 (by rw [hasF, if_neg (fun q => absurd ((nI_leI (a := 3) (by decide) (by omega)).mp c) (Nat.not_le.mpr q.1))])
        rw [show nI 0 = (0 : Int32) from rfl, add0'] at this
        rw [add0', add0', add0']
        exact this
      · have k3 : k < 3 := Nat.not_le.mp (fun q => c ((nI_leI (a := 3) (by decide) (by omega)).mpr q))
        have ng := neg_of (hz k k3)
        refine ⟨vp_in_nI k3 (by decide), ?_⟩
        rw [tNn (by omega)]
        refine ⟨fun c => ?_, fun c => ?_⟩
        · have := fin 0 (by rw [hasF, if_neg (fun q => q.2 (ng.mp c))])
          rw [show nI 0 = (0 : Int32) from rfl, add0'] at this
          rw [add0', add0', add0']
          exact this
        · have := fin 1 (by rw [hasF, if_pos ⟨k3, fun q => c (ng.mpr q)⟩])
          rw [nI_add] at this
          rw [add0', add0', nI_1]
          exact this
  · rintro K x v ⟨rfl, rfl⟩
    unfold wp_X5_thereAre_B4
    exact ⟨fun _ => h, fun c => absurd (Int32.le_refl _) c⟩
def kofF (b : Bd) (o j : Nat) : Nat := (decide (bK b j = o ∨ bK b j = o + 3)).toNat
theorem s_howManyOf {b : Bd} {o : Nat} {u : St} {Q : Int32 → St → Prop} (hb : bdOk b) (hL : LX 10 b u) (ho : o = 1 ∨ o = 2) (h : Q (nI (sumN (kofF b o) 0 (bN b))) u) : wp_X0_howManyOf 10 (nI o) u Q := by
  have hn := hb.1
  unfold wp_X0_howManyOf
  simp only [wp_X0_howManyOf_L4]
  refine lc2 (bN b) (fun k x v => v = u ∧ x = nI (sumN (kofF b o) 0 k)) ⟨rfl, rfl⟩ ?_ ?_
  · rintro K k x v hk ⟨rfl, rfl⟩ hK
    have es := sumN_s (kofF b o) 0 k
    rw [Nat.zero_add] at es
    have k6 := (hb.2 k hk).1
    unfold wp_X0_howManyOf_B4
    rw [hL.1, tNn (by omega), (hL.2 k hk).1, nI_1, nI_1]
    refine ⟨fun c => absurd c (nI_ge hk (by omega)), fun _ => ⟨fun c => absurd c (nI_ge (b := 7) (by omega) (by decide)), fun _ => ⟨vp_in_nI (by omega) (by decide), s_X4_isOf k6 (by omega) ?_⟩⟩⟩
    have ee : decide (bK b k = o ∨ (bK b k = 4 ∧ o = 1) ∨ (bK b k = 5 ∧ o = 2) ∨ ((bK b k = 1 ∨ bK b k = 2 ∨ bK b k = 3) ∧ o = 0)) = decide (bK b k = o ∨ bK b k = o + 3) := by
      rw [decide_eq_decide]
      omega
    rw [ee]
    cases ed : decide (bK b k = o ∨ bK b k = o + 3) with
    | false => exact ⟨fun _ => hK _ _ ⟨rfl, by rw [es, kofF, ed]; rfl⟩, fun q => absurd rfl q⟩
    | true => exact ⟨fun q => absurd q (by decide), fun _ => hK _ _ ⟨rfl, by rw [es, kofF, ed]; rfl⟩⟩
  · rintro K x v ⟨rfl, rfl⟩
    unfold wp_X0_howManyOf_B4
    rw [hL.1]
    exact ⟨fun _ => h, fun c => absurd (Int32.le_refl _) c⟩
theorem s_ofKinds {b : Bd} {o : Nat} {u : St} {Q : Int32 → St → Prop} (hb : bdOk b) (hB : BM b u) (ho : o = 1 ∨ o = 2) (h : Q (nI (sumN (kofF b o) 0 (bN b))) u) : wp_X5_ofKinds (nI o) (nI (o + 3)) u Q := by
  have hn := hb.1
  unfold wp_X5_ofKinds
  simp only [wp_X5_ofKinds_L5]
  refine lc2 (bN b) (fun k x v => v = u ∧ x = nI (sumN (kofF b o) 0 k)) ⟨rfl, rfl⟩ ?_ ?_
  · rintro K k x v hk ⟨rfl, rfl⟩ hK
    have es := sumN_s (kofF b o) 0 k
    rw [Nat.zero_add] at es
    have k6 := (hb.2 k hk).1
    have v14 : vp_in (nI k) 14 := vp_in_nI (by omega) (by decide)
    unfold wp_X5_ofKinds_B5 wp_X5_ofKinds_J37 wp_X5_ofKinds_J42
    rw [hB.1, tNn (by omega), (hB.2 k hk).1, nI_1, nI_1, add0']
    refine ⟨fun c => absurd c (nI_ge hk (by omega)), fun _ => ⟨v14, fun c => hK _ _ ⟨rfl, ?_⟩, fun c => ⟨v14, fun c2 => hK _ _ ⟨rfl, ?_⟩, fun c2 => hK _ _ ⟨rfl, ?_⟩⟩⟩⟩
    · rw [es, kofF, decide_eq_true (Or.inl ((nI_eq (by omega) (by omega)).mp c))]; rfl
    · rw [es, kofF, decide_eq_false (fun q => q.elim (fun z => c (by rw [z])) (fun z => c2 (by rw [z])))]; rfl
    · rw [es, kofF, decide_eq_true (Or.inr ((nI_eq (by omega) (by omega)).mp c2))]; rfl
  · rintro K x v ⟨rfl, rfl⟩
    unfold wp_X5_ofKinds_B5
    rw [hB.1]
    exact ⟨fun _ => h, fun c => absurd (Int32.le_refl _) c⟩
