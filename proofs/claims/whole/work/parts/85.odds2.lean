/-! PURE: odds, mid -/
theorem Frm.wrL {u v : St} {k i : Nat} {x : Int64} (h : Frm u v) (hk : ¬ pers k) : Frm u (sl v k i x) := ⟨h.1.sl hk, h.2.1, h.2.2.1, h.2.2.2.1, h.2.2.2.2⟩
theorem Inv.frac {u v w : St} {A B : Int64} (h : Inv u) (s : SX u v) (t : SM (sl (sl v 0 13 A) 0 14 B) w) : Inv (sl (sl w 39 3 A) 39 4 B) := by
  have f : Frm u (sl (sl w 39 3 A) 39 4 B) := ((((s.frm.wrL (k := 0) (by unfold pers; omega)).wrL (k := 0) (by unfold pers; omega)).trans t.frm).wrL (by unfold pers; omega)).wrL (by unfold pers; omega)
  refine ⟨h.1.frm f, ?_, ?_, ?_⟩
  · show gi w 39 2 = gi w 0 12
    rw [t.1 _ _ (by omega), t.1 _ _ (by omega)]
    show gi v 39 2 = gi v 0 12
    rw [s.1 _ _ (by omega), s.1 _ _ (by omega)]
    exact h.2.1
  · rw [gl_ni (by decide), gl_same, gl_nk (by decide), gl_nk (by decide), t.2 _ _ (by omega), gl_ni (by decide), gl_same]
  · rw [gl_same, gl_nk (by decide), gl_nk (by decide), t.2 _ _ (by omega), gl_same]
theorem Now.l0 {b : Bd} {m : Mt} {nd : Nat} {u : St} {A B : Int64} (h : Now b m nd u) : Now b m nd (sl (sl u 0 13 A) 0 14 B) := h.frm ((Frm.rfl'.wrL (k := 0) (by unfold pers; omega)).wrL (k := 0) (by unfold pers; omega))
theorem chance {p : Int32} {u : St} {b : Bd} {m : Mt} {nd : Nat} {RX : St → Prop} {K1 : Int32 → St → Prop} {WM : St → (Int32 → St → Prop) → Prop} {RM : St → (Int32 → St → Prop) → Prop} (h : Inv u) (hN : Now b m nd u) (hM : ∀ v K, wp_X5_in p 0 12 v (fun r1 u1 => ((¬ r1 = 0 → ((¬ (gi u1 39 10) = 0 → wp_X5_take u1 (fun u4 => RM u4 K)) ∧ ((gi u1 39 10) = 0 → K (-4) u1))) ∧ (r1 = 0 → K (-1) u1))) → WM v K) (hK : ∀ x u1, Nx (WM u1) x → K1 x u1) (ok : ∀ n, n ≤ 12 → p = nI n → bN b ≠ 0 → (∀ v K, Now b m nd v → (∀ w, SM v w → TM b m (mP m) w → RM w K) → WM v K) → RX u) : wp_X4_refuseChance p u (fun r1 u1 => (r1 = 0 → RX u1) ∧ (¬ r1 = 0 → K1 r1 u1)) := by
  unfold wp_X4_refuseChance
  have bad : (p < 0 ∨ nI 13 ≤ p) → Nx (WM u) (-1) := fun z K2 h2 => hM _ _ (in_bad (P := 13) (by decide) (by decide) rfl z ⟨fun q => absurd rfl q, fun _ => h2 u h⟩)
  rcases pk_ix p (n := 13) (by decide) with z | z | ⟨n, hn, rfl⟩
  · exact ⟨fun _ => ⟨fun q => absurd q (by decide), fun _ => hK _ _ (bad (Or.inl z))⟩, fun q => absurd z q⟩
  · exact ⟨fun q => absurd q (ge_nlt0 (by decide) z), fun _ => ⟨fun q => absurd q (ge_nle (k := 12) (by decide) z), fun _ => ⟨fun q => absurd q (by decide), fun _ => hK _ _ (bad (Or.inr z))⟩⟩⟩
  · refine ⟨fun q => absurd q (nI_pos (by omega)), fun _ => ⟨fun _ => ⟨fun c0 => ⟨fun _ => ?_, fun q => absurd rfl q⟩, fun c0 => ⟨fun q => absurd q (by decide), fun _ => hK _ _ (fun K2 h2 => hM _ _ ?_)⟩⟩, fun q => absurd ((nI_leI (b := 12) (by omega) (by decide)).mpr (by omega)) q⟩⟩
    · have b0 : bN b ≠ 0 := fun q => c0 ((nkX hN).mpr q)
      exact ok n (by omega) rfl b0 (fun v K hNv hR => hM _ _ (in_ok (P := 13) hn (by decide) rfl ⟨fun _ => ⟨fun _ => hNv.take (fun w hw hT => hR w hw hT), fun q => absurd ((nkM hNv).mp q) b0⟩, fun q => absurd q (by decide)⟩))
    · exact in_ok (P := 13) hn (by decide) rfl ⟨fun _ => ⟨fun q => absurd ((nkM hN).mpr ((nkX hN).mp c0)) q, fun _ => h2 u h⟩, fun q => absurd q (by decide)⟩
noncomputable def oddF (b : Bd) (m : Mt) (p s : Nat) : Nat := if toldF b m s = s then wayF p s (bN b) else 0
noncomputable def midF (b : Bd) (m : Mt) (p s : Nat) : Nat := ghoF b m s * wayF p s (bN b)
theorem odd_le {b : Bd} (hb : bdOk b) (m : Mt) {p : Nat} (hp : p ≤ 12) (s : Nat) : oddF b m p s ≤ 35831808 := by
  have := Nat.le_trans (way_le hp s (bN b)) (p127 hb.1)
  unfold oddF
  split
  · exact this
  · exact Nat.zero_le _
theorem mid_le {b : Bd} (hb : bdOk b) (m : Mt) {p : Nat} (hp : p ≤ 12) (s : Nat) : midF b m p s ≤ 8 * 35831808 := Nat.mul_le_mul (popc_le _) (Nat.le_trans (way_le hp s (bN b)) (p127 hb.1))
theorem p_odds {a : Int32} {u : St} (h : Inv u) {K1 : Int32 → St → Prop} (hK : ∀ r u1, Nx (wp_X5_odds a u1) r → K1 r u1) : wp_X4_odds a u K1 := by
  obtain ⟨b, m, nd, hN⟩ := h.now
  have hn := hN.1.1
  have h7 := two7 hn
  have hp7 := p127 hn
  unfold wp_X4_odds
  refine chance h hN (WM := wp_X5_odds a) (RM := fun u4 K => ∃ n, wp_X5_odds_L31 a K n 0 0 u4) (fun v K q => q) hK (fun p hp ep b0 hM => ?_)
  subst ep
  have sb := sumN_le (odd_le hN.1 m hp) 0 (2 ^ bN b)
  have sb2 : sumN (oddF b m p) 0 (2 ^ bN b) < 2 ^ 40 := by
    have := Nat.mul_le_mul_left 35831808 h7
    omega
  have l0 : 0 < 12 ^ bN b := Nat.pow_pos (by decide)
  refine s_fill hN (fun v hs hr => s_sets hN.1 (hN.sx hs).lx.1 ?_)
  have hLv := (hN.sx hs).lx
  simp only [wp_X4_odds_L30]
  refine lc3 (2 ^ bN b) (fun s x y w => w = v ∧ x = nI (2 ^ bN b) ∧ y = lN (sumN (oddF b m p) 0 s)) ⟨rfl, rfl, rfl⟩ ?_ ?_
  · rintro K s x y w hsl ⟨rfl, rfl, rfl⟩ hK
    have es := sumN_s (oddF b m p) 0 s
    rw [Nat.zero_add] at es
    have tl := toldF_lt7 hN.1 m s
    unfold wp_X4_odds_B30
    rw [tNn (by omega), hr s hsl, nI_1]
    refine ⟨fun c => absurd c (nI_ge hsl (by omega)), fun _ => ⟨vp_in_nI (by omega) (by decide), fun c => hK _ _ _ ⟨rfl, rfl, ?_⟩, fun c => s_weight hN.1 hLv hsl hp (hK _ _ _ ⟨rfl, rfl, ?_⟩)⟩⟩
    · rw [es, oddF, if_neg (fun q => c (by rw [q])), Nat.add_zero]
    · rw [es, oddF, if_pos ((nI_eq (by omega) (by omega)).mp c), lN_add]
  · rintro K x y w ⟨rfl, rfl, rfl⟩
    unfold wp_X4_odds_B30
    rw [hLv.1, show (12 : Int64) = lN 12 from rfl]
    refine ⟨fun _ => s_power (by omega) (s_fracX sb2 l0 (by omega) (hK _ _ (fun K2 h2 => ?_))), fun c => absurd (Int32.le_refl _) c⟩
    refine hM _ _ (hN.sx hs).l0 (fun z hz hT => ?_)
    simp only [wp_X5_odds_L31]
    refine lc2 (2 ^ bN b) (fun s y z' => y = lN (sumN (oddF b m p) 0 s) ∧ SM (sl (sl w 0 13 (lN (sumN (oddF b m p) 0 (2 ^ bN b)) / lN (Nat.gcd (12 ^ bN b) (sumN (oddF b m p) 0 (2 ^ bN b))))) 0 14 (lN (12 ^ bN b) / lN (Nat.gcd (12 ^ bN b) (sumN (oddF b m p) 0 (2 ^ bN b))))) z' ∧ ∃ s0, TM b m s0 z') ⟨rfl, hz, _, hT⟩ ?_ ?_
    · rintro K s y z' hsl ⟨rfl, hz, s0, hT⟩ hK
      have es := sumN_s (oddF b m p) 0 s
      rw [Nat.zero_add] at es
      have tl := toldF_lt7 hN.1 m s
      have e1 : gi z' 39 10 = nI (bN b) := hT.1
      unfold wp_X5_odds_B31 wp_X5_odds_J65
      rw [e1, nI_one (by omega), nI_1]
      refine ⟨fun c => absurd c (nI_ge hsl (by omega)), fun _ => s_toldOfM hN.1 hN.mt (by omega) hT (fun z2 hz2 hT2 => ⟨fun c => hK _ _ ⟨?_, hz.trans hz2, s, hT2⟩, fun c => s_waysM hn hT2.1 (by omega) hp (hK _ _ ⟨?_, hz.trans hz2, s, hT2⟩)⟩)⟩
      · rw [es, oddF, if_neg (fun q => c (by rw [q]))]
        exact lN_add _ 0
      · rw [es, oddF, if_pos ((nI_eq (by omega) (by omega)).mp c), lN_add]
    · rintro K y z' ⟨rfl, hz, s0, hT⟩
      have e1 : gi z' 39 10 = nI (bN b) := hT.1
      unfold wp_X5_odds_B31
      rw [e1, nI_one (by omega)]
      exact ⟨fun _ => s_allM hn hT.1 (s_fracM sb2 l0 (by omega) (h2 _ (h.frac hs hz))), fun c => absurd (Int32.le_refl _) c⟩
theorem p_mid {a : Int32} {u : St} (h : Inv u) {K1 : Int32 → St → Prop} (hK : ∀ r u1, Nx (wp_X5_mid a u1) r → K1 r u1) : wp_X4_mid a u K1 := by
  obtain ⟨b, m, nd, hN⟩ := h.now
  have hn := hN.1.1
  have h7 := two7 hn
  have hp7 := p127 hn
  unfold wp_X4_mid
  refine chance h hN (WM := wp_X5_mid a) (RM := fun u4 K => ∃ n, wp_X5_mid_L31 a K n 0 0 u4) (fun v K q => q) hK (fun p hp ep b0 hM => ?_)
  subst ep
  have sb := sumN_le (mid_le hN.1 m hp) 0 (2 ^ bN b)
  have sb2 : sumN (midF b m p) 0 (2 ^ bN b) < 2 ^ 40 := by
    have := Nat.mul_le_mul_left (8 * 35831808) h7
    omega
  have l0 : 0 < 12 ^ bN b := Nat.pow_pos (by decide)
  refine s_fill hN (fun v hs hr => s_sets hN.1 (hN.sx hs).lx.1 ?_)
  have hLv := (hN.sx hs).lx
  simp only [wp_X4_mid_L30]
  refine lc3 (2 ^ bN b) (fun s x y w => w = v ∧ x = nI (2 ^ bN b) ∧ y = lN (sumN (midF b m p) 0 s)) ⟨rfl, rfl, rfl⟩ ?_ ?_
  · rintro K s x y w hsl ⟨rfl, rfl, rfl⟩ hK
    have es := sumN_s (midF b m p) 0 s
    rw [Nat.zero_add] at es
    have gl : ghoF b m s ≤ 8 := popc_le _
    unfold wp_X4_mid_B30
    rw [nI_1]
    refine ⟨fun c => absurd c (nI_ge hsl (by omega)), fun _ => s_ghostsOf (m := m) hN.1 (by omega) (hr s hsl) (s_weight hN.1 hLv hsl hp (hK _ _ _ ⟨rfl, rfl, ?_⟩))⟩
    rw [es, midF, nI_l (by omega), lN_mul, lN_add]
  · rintro K x y w ⟨rfl, rfl, rfl⟩
    unfold wp_X4_mid_B30
    rw [hLv.1, show (12 : Int64) = lN 12 from rfl]
    refine ⟨fun _ => s_power (by omega) (s_fracX sb2 l0 (by omega) (hK _ _ (fun K2 h2 => ?_))), fun c => absurd (Int32.le_refl _) c⟩
    refine hM _ _ (hN.sx hs).l0 (fun z hz hT => ?_)
    simp only [wp_X5_mid_L31]
    refine lc2 (2 ^ bN b) (fun s y z' => y = lN (sumN (midF b m p) 0 s) ∧ SM (sl (sl w 0 13 (lN (sumN (midF b m p) 0 (2 ^ bN b)) / lN (Nat.gcd (12 ^ bN b) (sumN (midF b m p) 0 (2 ^ bN b))))) 0 14 (lN (12 ^ bN b) / lN (Nat.gcd (12 ^ bN b) (sumN (midF b m p) 0 (2 ^ bN b))))) z' ∧ ∃ s0, TM b m s0 z') ⟨rfl, hz, _, hT⟩ ?_ ?_
    · rintro K s y z' hsl ⟨rfl, hz, s0, hT⟩ hK
      have es := sumN_s (midF b m p) 0 s
      rw [Nat.zero_add] at es
      have tl := toldF_lt7 hN.1 m s
      have gl : popc (ndf (toldF b m s) s) ≤ 8 := popc_le _
      have e1 : gi z' 39 10 = nI (bN b) := hT.1
      unfold wp_X5_mid_B31
      rw [e1, nI_one (by omega), nI_1]
      refine ⟨fun c => absurd c (nI_ge hsl (by omega)), fun _ => s_waysM hn hT.1 (by omega) hp (s_toldOfM hN.1 hN.mt (by omega) hT (fun z2 hz2 hT2 => ?_))⟩
      rw [nI_ndf]
      refine s_bitsOf (Nat.lt_trans (ndf_lt tl) (by decide)) (hK _ _ ⟨?_, hz.trans hz2, s, hT2⟩)
      rw [es, midF, ghoF, nI_l (by omega), lN_mul, lN_add, Nat.mul_comm (wayF p s (bN b))]
    · rintro K y z' ⟨rfl, hz, s0, hT⟩
      have e1 : gi z' 39 10 = nI (bN b) := hT.1
      unfold wp_X5_mid_B31
      rw [e1, nI_one (by omega)]
      exact ⟨fun _ => s_allM hn hT.1 (s_fracM sb2 l0 (by omega) (h2 _ (h.frac hs hz))), fun c => absurd (Int32.le_refl _) c⟩
