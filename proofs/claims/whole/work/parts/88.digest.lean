/-! PURE: digest -/
def fo (h : Int64) (f : Nat → Int32) : Nat → Int64
  | 0 => h
  | k + 1 => (31 * fo h f k) + (f k).toInt64
theorem fo_congr {h : Int64} {f g : Nat → Int32} {n : Nat} (e : ∀ i, i < n → f i = g i) : fo h f n = fo h g n := by
  induction n with
  | zero => rfl
  | succ n ih => rw [fo, fo, ih (fun i hi => e i (by omega)), e n (by omega)]
noncomputable def kfo (h : Int64) (b : Bd) (m : Mt) : Nat → Int64
  | 0 => h
  | i + 1 => fo (kfo h b m i) (fun w => nI (factF b m i w)) 8
def mixF (h : Int64) (sz cl : Nat → Int32) (w : Nat) : Nat → Int64
  | 0 => h
  | p + 1 => fo ((31 * mixF h sz cl w p) + (sz p).toInt64) (fun i => cl (w * p + i)) (Int32.toNatClampNeg (sz p))
theorem mix_congr {h : Int64} {sz cl sz' cl' : Nat → Int32} {w P : Nat} (e : ∀ p, p < P → sz p = sz' p ∧ ∀ i, i < Int32.toNatClampNeg (sz p) → cl (w * p + i) = cl' (w * p + i)) : mixF h sz cl w P = mixF h sz' cl' w P := by
  induction P with
  | zero => rfl
  | succ P ih =>
    rw [mixF, mixF, ih (fun p hp => e p (by omega)), ← (e P (by omega)).1]
    exact fo_congr (fun i hi => (e P (by omega)).2 i hi)
theorem clamp_m1 : Int32.toNatClampNeg (-1) = 0 := by decide
theorem m1_le0 : (-1 : Int32) ≤ 0 := by decide
theorem s_mix {b P w : Nat} {x : Int64} {u : St} {Q : Int64 → St → Prop} (hs : Sh b P w u) (hz : ∀ j, j < P → gi u (b + 1) j = -1 ∨ ∃ n, n ≤ w ∧ gi u (b + 1) j = nI n) (h : Q (mixF x (gi u (b + 1)) (gi u (b + 2)) w P) u) : wp_X2_mixInto b x u Q := by
  have hP := hs.2.2.2.2.2.1
  have hw := hs.2.2.2.2.2.2
  unfold wp_X2_mixInto
  simp only [wp_X2_mixInto_L5]
  refine lc2 P (fun p y v => v = u ∧ y = mixF x (gi u (b + 1)) (gi u (b + 2)) w p) ⟨rfl, rfl⟩ ?_ ?_
  · rintro K p y v hp ⟨rfl, rfl⟩ hK
    unfold wp_X2_mixInto_B5
    rw [hs.1]
    refine ⟨fun c => absurd c (nI_ge hp (by omega)), fun _ => size_ok hs hp ?_⟩
    simp only [wp_X2_mixInto_L35]
    refine lc4 (Int32.toNatClampNeg (gi v (b + 1) p)) (fun i y q s v' => v' = v ∧ q = nI p ∧ s = gi v (b + 1) p ∧ y = fo ((31 * mixF x (gi v (b + 1)) (gi v (b + 2)) w p) + (gi v (b + 1) p).toInt64) (fun i => gi v (b + 2) (w * p + i)) i) ⟨rfl, rfl, rfl, rfl⟩ ?_ ?_
    · rintro K3 i y q s v' hi ⟨rfl, rfl, rfl, rfl⟩ hK3
      rcases hz p hp with e | ⟨n, hn, e⟩
      · rw [e, clamp_m1] at hi
        exact absurd hi (by omega)
      · have hi' : i < n := by rw [e, tNn (by omega)] at hi; exact hi
        unfold wp_X2_mixInto_B35
        rw [nI_1, nI_1]
        refine ⟨fun c => ?_, fun _ => get_ok hs hp hn e hi' (hK3 _ _ _ _ ⟨rfl, rfl, rfl, rfl⟩)⟩
        rw [e] at c
        exact absurd c (nI_ge hi' (by omega))
    · rintro K3 y q s v' ⟨rfl, rfl, rfl, rfl⟩
      unfold wp_X2_mixInto_B35
      rw [nI_1]
      refine ⟨fun _ => hK _ _ ⟨rfl, rfl⟩, fun c => absurd ?_ c⟩
      rcases hz p hp with e | ⟨n, hn, e⟩
      · rw [e, clamp_m1]; exact m1_le0
      · rw [e, tNn (by omega)]; exact Int32.le_refl _
  · rintro K y v ⟨rfl, rfl⟩
    unfold wp_X2_mixInto_B5
    rw [hs.1]
    exact ⟨fun _ => h, fun c => absurd (Int32.le_refl _) c⟩
theorem p_digest {u : St} (h : Inv u) {K1 : Int64 → St → Prop} (hK : ∀ r u1, NxL (wp_X5_digest u1) r → K1 r u1) : wp_X4_digest u K1 := by
  obtain ⟨b, m, nd, hN, hd⟩ := h.now2
  obtain ⟨c6, c7, c8, hc⟩ := cn_ex u
  have hn := hN.1.1
  let g1 : Nat → Int64 := fo 17 (fun w => nI (cntF b m nd c6 c7 c8 w))
  let g2 : Nat → Int64 := kfo (g1 11) b m
  let g3 : Nat → Int64 := fo (g2 (bN b)) (gi u 8)
  let g4 : Nat → Int64 := mixF (g3 3) (gi u 2) (gi u 3) 40
  let g5 : Nat → Int64 := mixF (g4 6) (gi u 5) (gi u 6) 60
  unfold wp_X4_digest
  simp only [wp_X4_digest_L6]
  refine lc2 11 (fun k y v => y = g1 k ∧ SX u v) ⟨rfl, Same.rfl'⟩ ?_ ?_
  · rintro K k y v hk ⟨rfl, hv⟩ hK
    unfold wp_X4_digest_B6
    rw [nI_1]
    exact ⟨fun c => absurd c (nI_ge (b := 11) hk (by decide)), fun _ => s_countX (h.sx hv) (hN.sx hv) ((hv.1 _ _ (by omega)).trans hd) (hc.sx hv) hk (fun w hw => hK _ _ ⟨rfl, hv.trans hw⟩)⟩
  rintro - y v ⟨rfl, hv⟩
  unfold wp_X4_digest_B6
  refine ⟨fun _ => ?_, fun c => absurd (Int32.le_refl _) c⟩
  simp only [wp_X4_digest_L33]
  refine lc2 (bN b) (fun i y w => y = g2 i ∧ SX u w) ⟨rfl, hv⟩ ?_ ?_
  · rintro K i y w hi ⟨rfl, hw⟩ hK
    unfold wp_X4_digest_B33
    rw [(hN.sx hw).lx.1]
    refine ⟨fun c => absurd c (nI_ge hi (by omega)), fun _ => ?_⟩
    simp only [wp_X4_digest_L47]
    refine lc3 8 (fun k y q w => y = fo (g2 i) (fun w => nI (factF b m i w)) k ∧ q = nI i ∧ SX u w) ⟨rfl, rfl, hw⟩ ?_ ?_
    · rintro K3 k y q w hk ⟨rfl, rfl, hw⟩ hK3
      unfold wp_X4_digest_B47
      rw [nI_1, nI_1]
      exact ⟨fun c => absurd c (nI_ge (b := 8) hk (by decide)), fun _ => s_keyFact (hN.sx hw) hi hk (fun x hx => hK3 _ _ _ ⟨rfl, rfl, hw.trans hx⟩)⟩
    · rintro K3 y q w ⟨rfl, rfl, hw⟩
      unfold wp_X4_digest_B47
      rw [nI_1]
      exact ⟨fun _ => hK _ _ ⟨rfl, hw⟩, fun c => absurd (Int32.le_refl _) c⟩
  rintro - y w ⟨rfl, hw⟩
  have hIw := h.sx hw
  unfold wp_X4_digest_B33
  rw [(hN.sx hw).lx.1]
  refine ⟨fun _ => ?_, fun c => absurd (Int32.le_refl _) c⟩
  simp only [wp_X4_digest_L83]
  have ew : ∀ k i, 1 ≤ k → k ≤ 9 → gi w k i = gi u k i := fun k i h1 h9 => hw.1 _ _ (by omega)
  refine lc2 3 (fun k y x => y = g3 k ∧ x = w) ⟨rfl, rfl⟩ ?_ ?_
  · rintro K k y x hk ⟨rfl, rfl⟩ hK
    unfold wp_X4_digest_B83
    rw [nI_1]
    refine ⟨fun c => absurd c (nI_ge (b := 3) hk (by decide)), fun _ => size_ok (Sh7 hIw.1.1) (by omega) (hK _ _ ⟨?_, rfl⟩)⟩
    rw [show gi x (7 + 1) k = gi u 8 k from ew 8 k (by decide) (by decide)]
    rfl
  rintro - y x ⟨rfl, rfl⟩
  unfold wp_X4_digest_B83
  refine ⟨fun _ => s_mix (Sh1 hIw.1.1) hIw.1.2.1.x (s_mix (Sh4 hIw.1.1) hIw.1.2.2.1.x ?_), fun c => absurd (Int32.le_refl _) c⟩
  rw [show gi x (1 + 1) = gi u 2 from gi_fun (fun i => ew 2 i (by decide) (by decide)), show gi x (1 + 2) = gi u 3 from gi_fun (fun i => ew 3 i (by decide) (by decide)), show gi x (4 + 1) = gi u 5 from gi_fun (fun i => ew 5 i (by decide) (by decide)), show gi x (4 + 2) = gi u 6 from gi_fun (fun i => ew 6 i (by decide) (by decide))]
  show K1 (g5 4) x
  refine hK _ _ (fun K2 h2 => ?_)
  have hNx := hN.sx hw
  /- the reference -/
  unfold wp_X5_digest
  simp only [wp_X5_digest_L6]
  refine lc2 11 (fun k y v => y = g1 k ∧ SM x v) ⟨rfl, Same.rfl'⟩ ?_ ?_
  · rintro K k y v hk ⟨rfl, hv⟩ hK
    unfold wp_X5_digest_B6
    rw [nI_1]
    exact ⟨fun c => absurd ((nI_ltI (a := 10) (by decide) (by omega)).mp c) (by omega), fun _ => s_countM (hIw.sm hv) (hNx.sm hv) ((hc.sx hw).sm hv) hk (fun w hw => hK _ _ ⟨rfl, hv.trans hw⟩)⟩
  rintro - y v ⟨rfl, hv⟩
  unfold wp_X5_digest_B6
  refine ⟨fun _ => ?_, fun c => absurd (by decide) c⟩
  simp only [wp_X5_digest_L33]
  refine lc2 (bN b) (fun i y w => y = g2 i ∧ SM x w) ⟨rfl, hv⟩ ?_ ?_
  · rintro K i y w hi ⟨rfl, hw⟩ hK
    unfold wp_X5_digest_B33
    rw [(hNx.sm hw).bm.1]
    refine ⟨fun c => absurd c (nI_ge hi (by omega)), fun _ => ?_⟩
    simp only [wp_X5_digest_L44]
    refine lc3 8 (fun k y q w => y = fo (g2 i) (fun w => nI (factF b m i w)) k ∧ q = nI i ∧ SM x w) ⟨rfl, rfl, hw⟩ ?_ ?_
    · rintro K3 k y q w hk ⟨rfl, rfl, hw⟩ hK3
      unfold wp_X5_digest_B44
      rw [nI_1, nI_1]
      exact ⟨fun c => absurd ((nI_ltI (a := 7) (by decide) (by omega)).mp c) (by omega), fun _ => s_factOf (hNx.sm hw) hi hk (fun x hx => hK3 _ _ _ ⟨rfl, rfl, hw.trans hx⟩)⟩
    · rintro K3 y q w ⟨rfl, rfl, hw⟩
      unfold wp_X5_digest_B44
      rw [nI_1]
      exact ⟨fun _ => hK _ _ ⟨rfl, hw⟩, fun c => absurd (by decide) c⟩
  rintro - y z ⟨rfl, hz⟩
  have hIz := hIw.sm hz
  have ez : ∀ k i, 1 ≤ k → k ≤ 9 → gi z k i = gi u k i := fun k i h1 h9 => (hz.1 _ _ (by omega)).trans (ew k i h1 h9)
  unfold wp_X5_digest_B33
  rw [(hNx.sm hz).bm.1]
  refine ⟨fun _ => ?_, fun c => absurd (Int32.le_refl _) c⟩
  simp only [wp_X5_digest_L80]
  refine lc2 3 (fun k y v => y = g3 k ∧ v = z) ⟨rfl, rfl⟩ ?_ ?_
  · rintro K k y v hk ⟨rfl, rfl⟩ hK
    unfold wp_X5_digest_B80
    rw [nI_1, tNn (by omega), (kept_x hIz k hk).2, ez 8 k (by decide) (by decide)]
    exact ⟨fun c => absurd c (nI_ge (b := 3) hk (by decide)), fun _ => ⟨vp_in_nI hk (by decide), hK _ _ ⟨rfl, rfl⟩⟩⟩
  rintro - y v ⟨rfl, rfl⟩
  unfold wp_X5_digest_B80
  refine ⟨fun _ => ?_, fun c => absurd (Int32.le_refl _) c⟩
  have hR := hIz.1.2.1
  have hTx := hIz.1.2.2.1
  have eqR : ∀ p, p < 6 → gi v 41 p = gi u 2 p := fun p hp => (sh_eq hR hp).trans (ez 2 p (by decide) (by decide))
  have eqT : ∀ p, p < 4 → gi v 43 p = gi u 5 p := fun p hp => (sh_eq hTx hp).trans (ez 5 p (by decide) (by decide))
  have clR : ∀ p n i, p < 6 → n ≤ 40 → gi u 2 p = nI n → i < n → gi v 42 (40 * p + i) = gi u 3 (40 * p + i) := fun p n i hp hn e hi => ((hR.mn (by decide) hp hn ((ez 2 p (by decide) (by decide)).trans e)).2 i hi).trans (ez 3 _ (by decide) (by decide))
  have clT : ∀ p n i, p < 4 → n ≤ 60 → gi u 5 p = nI n → i < n → gi v 44 (60 * p + i) = gi u 6 (60 * p + i) := fun p n i hp hn e hi => ((hTx.mn (by decide) hp hn ((ez 5 p (by decide) (by decide)).trans e)).2 i hi).trans (ez 6 _ (by decide) (by decide))
  simp only [wp_X5_digest_L107]
  refine lc2 6 (fun p y z => y = g4 p ∧ z = v) ⟨rfl, rfl⟩ ?_ ?_
  · rintro K p y z hp ⟨rfl, rfl⟩ hK
    have v6 : vp_in (nI p) 6 := vp_in_nI hp (by decide)
    unfold wp_X5_digest_B107
    rw [tNn (by omega), eqR p hp]
    refine ⟨fun c => absurd c (nI_ge (b := 6) hp (by decide)), fun _ => ⟨v6, ?_⟩⟩
    simp only [wp_X5_digest_L130]
    refine lc3 (Int32.toNatClampNeg (gi u 2 p)) (fun i y q z' => z' = z ∧ q = nI p ∧ y = fo ((31 * g4 p) + (gi u 2 p).toInt64) (fun i => gi u 3 (40 * p + i)) i) ⟨rfl, rfl, rfl⟩ ?_ ?_
    · rintro K3 i y q z' hi ⟨rfl, rfl, rfl⟩ hK3
      rcases h.1.2.1.x p hp with e | ⟨n, hn, e⟩
      · rw [e, clamp_m1] at hi
        exact absurd hi (by omega)
      · have hi' : i < n := by rw [e, tNn (by omega)] at hi; exact hi
        unfold wp_X5_digest_B130
        rw [tNn (by omega), eqR p hp, e, show (40 : Int32) = nI 40 from rfl, pk_mul, nI_add, tNn (by omega), clR p n i hp hn e hi', nI_1, nI_1]
        exact ⟨v6, fun c => absurd c (nI_ge hi' (by omega)), fun _ => ⟨vp_in_nI (by omega) (by decide), hK3 _ _ _ ⟨rfl, rfl, by rw [← e]; rfl⟩⟩⟩
    · rintro K3 y q z' ⟨rfl, rfl, rfl⟩
      unfold wp_X5_digest_B130
      rw [tNn (by omega), eqR p hp, nI_1]
      refine ⟨v6, fun _ => hK _ _ ⟨rfl, rfl⟩, fun c => absurd ?_ c⟩
      rcases h.1.2.1.x p hp with e | ⟨n, hn, e⟩
      · rw [e, clamp_m1]; exact m1_le0
      · rw [e, tNn (by omega)]; exact Int32.le_refl _
  rintro - y z ⟨rfl, rfl⟩
  unfold wp_X5_digest_B107
  refine ⟨fun _ => ?_, fun c => absurd (Int32.le_refl _) c⟩
  simp only [wp_X5_digest_L175]
  refine lc2 4 (fun p y v => y = g5 p ∧ v = z) ⟨rfl, rfl⟩ ?_ ?_
  · rintro K p y v hp ⟨rfl, rfl⟩ hK
    have v4 : vp_in (nI p) 4 := vp_in_nI hp (by decide)
    unfold wp_X5_digest_B175
    rw [tNn (by omega), eqT p hp]
    refine ⟨fun c => absurd c (nI_ge (b := 4) hp (by decide)), fun _ => ⟨v4, ?_⟩⟩
    simp only [wp_X5_digest_L197]
    refine lc3 (Int32.toNatClampNeg (gi u 5 p)) (fun i y q z' => z' = v ∧ q = nI p ∧ y = fo ((31 * g5 p) + (gi u 5 p).toInt64) (fun i => gi u 6 (60 * p + i)) i) ⟨rfl, rfl, rfl⟩ ?_ ?_
    · rintro K3 i y q z' hi ⟨rfl, rfl, rfl⟩ hK3
      rcases h.1.2.2.1.x p hp with e | ⟨n, hn, e⟩
      · rw [e, clamp_m1] at hi
        exact absurd hi (by omega)
      · have hi' : i < n := by rw [e, tNn (by omega)] at hi; exact hi
        unfold wp_X5_digest_B197
        rw [tNn (by omega), eqT p hp, e, show (60 : Int32) = nI 60 from rfl, pk_mul, nI_add, tNn (by omega), clT p n i hp hn e hi', nI_1, nI_1]
        exact ⟨v4, fun c => absurd c (nI_ge hi' (by omega)), fun _ => ⟨vp_in_nI (by omega) (by decide), hK3 _ _ _ ⟨rfl, rfl, by rw [← e]; rfl⟩⟩⟩
    · rintro K3 y q z' ⟨rfl, rfl, rfl⟩
      unfold wp_X5_digest_B197
      rw [tNn (by omega), eqT p hp, nI_1]
      refine ⟨v4, fun _ => hK _ _ ⟨rfl, rfl⟩, fun c => absurd ?_ c⟩
      rcases h.1.2.2.1.x p hp with e | ⟨n, hn, e⟩
      · rw [e, clamp_m1]; exact m1_le0
      · rw [e, tNn (by omega)]; exact Int32.le_refl _
  rintro - y v ⟨rfl, rfl⟩
  unfold wp_X5_digest_B175
  exact ⟨fun _ => h2 _ hIz, fun c => absurd (Int32.le_refl _) c⟩
