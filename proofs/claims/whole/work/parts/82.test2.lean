/-! PURE: test -/
theorem knd_lt (b : Bd) (m : Mt) (i N : Nat) (x : Nat → Nat) : kndF b m i N x 6 < 64 := maskF_lt _ 6
theorem s_toldOfN {b : Bd} {m : Mt} {s0 s : Nat} {u : St} {Q : Int32 → St → Prop} (hb : bdOk b) (hm : mtOk m) (hs : s < 128) (hT : TM b m s0 u) (h : ∀ v, Same (fun k => k ≠ 53 ∧ k ≠ 57) u v → TM b m s v → Q (nI (toldF b m s)) v) : wp_X5_toldOf (nI s) u Q := by
  unfold wp_X5_toldOf
  simp only [nxt]
  rw [show Int32.toNatClampNeg 0 = 0 from rfl]
  have hT2 : TM b m s (si u 53 0 (nI s)) := by
    obtain ⟨t1, t2, t3, t4, t5, t6⟩ := hT
    refine ⟨by rw [gi_nk (by decide)]; exact t1, fun i hi => ?_, gi_same, by rw [gi_ni (by decide)]; exact t4, by rw [gi_ni (by decide)]; exact t5, fun i hi => by rw [gi_ni (by omega)]; exact t6 i hi⟩
    rw [gi_nk (by decide), gi_nk (by decide), gi_nk (by decide), gi_nk (by decide)]
    exact t2 i hi
  refine ⟨v0_10, s_X5_toldBy hb hm hs hT2 (fun w ht => h w ?_ (hT2.same ht (by decide)))⟩
  exact Same.trans (Same.si (Same.rfl' (u := u)) (by omega)) (ht.weak (fun k hk => by omega))
theorem sm_N {u v : St} (h : Same (fun k => k ≠ 53 ∧ k ≠ 57) u v) : SM u v := h.weak (fun k hk => by omega)
theorem p_test {a r : Int32} {u : St} (h : Inv u) {K1 : Int32 → St → Prop} (hK : ∀ x u1, Nx (wp_X5_test a r u1) x → K1 x u1) : wp_X4_test a r u K1 := by
  obtain ⟨b, m, nd, hN⟩ := h.now
  have hn := hN.1.1
  have h7 := two7 hn
  unfold wp_X4_test
  refine pairs2 h hN (WM := wp_X5_test a r) (RM := fun K u5 => wp_X5_kindsBy a r u5 (fun r7 u7 => ∃ n, wp_X5_test_L48 a r K n r7 (-9) 7 0 u7)) (fun v K q => q) hK (fun i j N x hi ea er hP hPM => ?_)
  subst ea; subst er
  have kl := knd_lt b m i N x
  have p0 : 0 < 2 ^ bN b := Nat.two_pow_pos _
  obtain ⟨F, eF⟩ : ∃ F, F = kndF b m i N x 6 := ⟨_, rfl⟩
  have ref : ∀ (w2 : St) (K2 : Int32 → St → Prop), Now b m nd w2 → PR 41 42 j N (2 ^ bN b) x w2 → (∀ y, SM w2 y → (F = 0 → K2 (-9) y) ∧ (F ≠ 0 → K2 (oI (tstF b m i F (2 ^ bN b)).2) (si y 39 2 (nI (tstF b m i F (2 ^ bN b)).1)))) → wp_X5_test (nI i) (nI j) w2 K2 := by
    intro w2 K2 hNw hPw h2
    refine pM_ok hNw hi hPw (s_kindsM hNw hi hPw (fun y hy => ?_))
    rw [← eF] at kl ⊢
    simp only [wp_X5_test_L48]
    refine lc4 (2 ^ bN b) (fun s f p q z => f = nI F ∧ p = oI (tstF b m i F s).2 ∧ q = nI (tstF b m i F s).1 ∧ SM w2 z ∧ (0 < s → F ≠ 0)) ⟨rfl, rfl, rfl, hy, fun q => absurd q (by omega)⟩ ?_ ?_
    · rintro K s f p q z hs ⟨rfl, rfl, rfl, hz, hs0⟩ hK
      have hNz := hNw.sm hz
      have tl := tst_le b m i F s
      have gl : tstG b m i F s ≤ 6 := grt_le _ _ _
      unfold wp_X5_test_B48
      rw [hNz.bm.1, nI_one (by omega)]
      refine ⟨fun c => absurd c (nI_ge hs (by omega)), fun _ => ⟨fun c => ?_, fun c => ?_⟩⟩
      · have F0 : F = 0 := (nI_eq (b := 0) (by omega) (by decide)).mp c
        have s0 : s = 0 := Nat.eq_zero_of_not_pos (fun q => hs0 q F0)
        subst s0
        unfold wp_X5_test_J241
        exact ⟨fun _ => (h2 z hz).1 F0, fun q => absurd rfl q⟩
      have F0 : F ≠ 0 := fun q => c (by rw [q]; rfl)
      refine hNz.take (fun z1 hs1 hT => ?_)
      simp only [wp_X5_test_L71]
      have tb : ∀ k, toldF (trnF b i k) m s < 128 := fun k => Nat.lt_of_lt_of_le (toldF_lt (trnF b i k) m s) (two7 (show bN (trnF b i k) ≤ 7 from hn))
      refine lc5 6 (fun k f p q t y => f = nI F ∧ p = oI (tstF b m i F s).2 ∧ q = nI (tstF b m i F s).1 ∧ t = nI s ∧ SM w2 y ∧ (∃ k' s', TM (trnF b i k') m s' y) ∧ ∀ o, o < k → gi y 59 o = nI (toldF (trnF b i o) m s)) ⟨rfl, rfl, rfl, rfl, hz.trans hs1, ⟨bK b i, _, by rw [trn_self]; exact hT⟩, fun o ho => absurd ho (by omega)⟩ ?_ ?_
      · rintro K3 k f p q t y hk ⟨rfl, rfl, rfl, rfl, hy, ⟨k', s', hT⟩, hr⟩ hK3
        have tok := trn_ok (i := i) hN.1 hk
        unfold wp_X5_test_B71
        simp only [nxt]
        rw [tNn (by omega), tNn (by omega), nI_1]
        refine ⟨fun c => absurd ((nI_ltI (a := 5) (by decide) (by omega)).mp c) (by omega), fun _ => ⟨vp_in_nI (by omega) (by decide), ?_⟩⟩
        have hT2 := hT.turn (i := i) (k := k)
        rw [trn_trn] at hT2
        refine s_toldOfN tok hN.mt (by omega) hT2 (fun y2 hy2 hT3 => ⟨vp_in_nI hk (by decide), hK3 _ _ _ _ _ ⟨rfl, rfl, rfl, rfl, (hy.trans ((SM.wr (k := 54) Same.rfl' (by omega)).trans (sm_N hy2))).wr (by omega), ⟨k, s, ?_⟩, fun o ho => ?_⟩⟩)
        · exact hT3.same (Same.si (P := fun q => q ≠ 59) Same.rfl' (fun q => q rfl)) (by decide)
        · by_cases e : o = k
          · subst e; rw [gi_same]
          · rw [gi_ni e, hy2.1 _ _ (by omega), gi_nk (by decide)]
            exact hr o (by omega)
      · rintro K3 f p q t y ⟨rfl, rfl, rfl, rfl, hy, -, hr⟩
        unfold wp_X5_test_B71
        refine ⟨fun _ => ?_, fun c => absurd (by decide) c⟩
        simp only [wp_X5_test_L110]
        refine lc6 6 (fun k f p q t g z => f = nI F ∧ p = oI (tstF b m i F s).2 ∧ q = nI (tstF b m i F s).1 ∧ t = nI s ∧ g = nI (grtF F (fun k => toldF (trnF b i k) m s) k) ∧ z = y) ⟨rfl, rfl, rfl, rfl, rfl, rfl⟩ ?_ ?_
        · rintro K4 k f p q t g z hk ⟨rfl, rfl, rfl, rfl, rfl, rfl⟩ hK4
          have ggl := grt_le F (fun k => toldF (trnF b i k) m s) k
          unfold wp_X5_test_B110
          refine ⟨fun c => absurd ((nI_ltI (a := 5) (by decide) (by omega)).mp c) (by omega), fun _ => ?_⟩
          simp only [wp_X5_test_L122]
          refine lc8 6 (fun o f p q t g d e x => f = nI F ∧ p = oI (tstF b m i F s).2 ∧ q = nI (tstF b m i F s).1 ∧ t = nI s ∧ g = nI (grtF F (fun k => toldF (trnF b i k) m s) k) ∧ d = nI k ∧ e = nI (prtF F (fun k => toldF (trnF b i k) m s) k o) ∧ x = z) ⟨rfl, rfl, rfl, rfl, rfl, rfl, rfl, rfl⟩ ?_ ?_
          · rintro K5 o f p q t g d e x ho ⟨rfl, rfl, rfl, rfl, rfl, rfl, rfl, rfl⟩ hK5
            have ps := prt_s F (fun k => toldF (trnF b i k) m s) k o
            have pl := prt_le F (fun k => toldF (trnF b i k) m s) k o
            unfold wp_X5_test_B122 wp_X5_test_J171 wp_X5_test_J172
            rw [nI_1, nI_1, tNn (by omega), tNn (by omega)]
            have fin : ∀ t, t = (F.testBit k && (F.testBit o && decide (toldF (trnF b i o) m s = toldF (trnF b i k) m s))).toNat → K5 (nI F) (oI (tstF b m i F s).2) (nI (tstF b m i F s).1) (nI s) (nI (grtF F (fun k => toldF (trnF b i k) m s) k)) (nI k) (nI (prtF F (fun k => toldF (trnF b i k) m s) k o) + nI t) (nI (o + 1)) x := fun t et => hK5 _ _ _ _ _ _ _ _ ⟨rfl, rfl, rfl, rfl, rfl, rfl, by rw [nI_add, ps, et], rfl⟩
            refine ⟨fun c => absurd ((nI_ltI (a := 5) (by decide) (by omega)).mp c) (by omega), fun _ => s_X5_has (by omega) (by omega) ?_⟩
            cases ek : F.testBit k with
            | false => exact ⟨fun _ => fin 0 (by rw [ek]; rfl), fun q => absurd rfl q⟩
            | true =>
              refine ⟨fun q => absurd q (by decide), fun _ => s_X5_has (by omega) (by omega) ?_⟩
              cases eo : F.testBit o with
              | false => exact ⟨fun _ => fin 0 (by rw [ek, eo]; rfl), fun q => absurd rfl q⟩
              | true =>
                refine ⟨fun q => absurd q (by decide), fun _ => ⟨vp_in_nI hk (by decide), vp_in_nI ho (by decide), ?_⟩⟩
                rw [hr k hk, hr o ho]
                refine ⟨fun c => fin 0 ?_, fun c => fin 1 ?_⟩
                · rw [ek, eo, decide_eq_false (fun z => c (by rw [z]))]; rfl
                · rw [ek, eo, decide_eq_true ((nI_eq (by have := tb k; omega) (by have := tb o; omega)).mp c).symm]; rfl
          · rintro K5 f p q t g d e x ⟨rfl, rfl, rfl, rfl, rfl, rfl, rfl, rfl⟩
            have pl := prt_le F (fun k => toldF (trnF b i k) m s) k 6
            unfold wp_X5_test_B122
            rw [nI_1]
            refine ⟨fun _ => ⟨fun c => hK4 _ _ _ _ _ _ ⟨rfl, rfl, rfl, rfl, ?_, rfl⟩, fun c => hK4 _ _ _ _ _ _ ⟨rfl, rfl, rfl, rfl, ?_, rfl⟩⟩, fun c => absurd (by decide) c⟩
            · rw [grtF, if_neg (Nat.not_lt.mpr ((nI_leI (by omega) (by omega)).mp c))]
            · rw [grtF, if_pos (Nat.not_le.mp (fun q => c ((nI_leI (by omega) (by omega)).mpr q)))]
        · rintro K4 f p q t g z ⟨rfl, rfl, rfl, rfl, rfl, rfl⟩
          unfold wp_X5_test_B110 wp_X5_test_J217
          rw [nI_1]
          refine ⟨fun _ => ?_, fun c => absurd (by decide) c⟩
          show ((nI (tstF b m i F s).1 ≤ nI (tstG b m i F s) → _) ∧ (¬ nI (tstF b m i F s).1 ≤ nI (tstG b m i F s) → _))
          refine ⟨fun c => ⟨fun _ => hK _ _ _ _ ⟨rfl, ?_, ?_, hy, fun _ => F0⟩, fun q => absurd c q⟩, fun c => ⟨fun q => absurd q c, fun _ => hK _ _ _ _ ⟨rfl, ?_, ?_, hy, fun _ => F0⟩⟩⟩
          · rw [tstF, if_pos ((nI_leI (by omega) (by omega)).mp c)]
          · rw [tstF, if_pos ((nI_leI (by omega) (by omega)).mp c)]
          · rw [tstF, if_neg (fun q => c ((nI_leI (by omega) (by omega)).mpr q))]; rfl
          · rw [tstF, if_neg (fun q => c ((nI_leI (by omega) (by omega)).mpr q))]; rfl
    · rintro K f p q z ⟨rfl, rfl, rfl, hz, hs0⟩
      have hNz := hNw.sm hz
      have F0 := hs0 p0
      obtain ⟨s', e1, e2⟩ := tst_some b m i F (2 ^ bN b - 1)
      rw [show 2 ^ bN b - 1 + 1 = 2 ^ bN b by omega] at e1
      unfold wp_X5_test_B48 wp_X5_test_J241 wp_X5_tellAsked
      rw [hNz.bm.1, nI_one (by omega)]
      refine ⟨fun _ => ⟨fun q => absurd q ?_, fun _ => ?_⟩, fun c => absurd (Int32.le_refl _) c⟩
      · rw [e1]; exact nI_ne_m9 (by omega)
      · simp only [nxt]
        exact (h2 z hz).2 F0
  refine s_kindsX h.1.1 hN hi hP (fun v hv => ?_)
  rw [← eF] at kl ⊢
  have hNv := hN.sx hv
  refine ⟨fun c => ?_, fun c => ?_⟩
  · have F0 : F ≠ 0 := fun q => c (by rw [q]; rfl)
    refine s_byKind hNv hi (by omega) (fun w hw hr => s_sets hN.1 (hNv.sx hw).lx.1 ?_)
    have hx := hv.trans hw
    simp only [wp_X4_test_L55]
    refine lc5 (2 ^ bN b) (fun s f d p q y => y = w ∧ f = nI F ∧ d = nI (2 ^ bN b) ∧ p = nI (tstF b m i F s).1 ∧ q = nI ((tstF b m i F s).2.getD 0)) ⟨rfl, rfl, rfl, rfl, rfl⟩ ?_ ?_
    · rintro K s f d p q y hs ⟨rfl, rfl, rfl, rfl, rfl⟩ hK
      have tl := tst_le b m i F s
      have gl : tstG b m i F s ≤ 6 := grt_le _ _ _
      unfold wp_X4_test_B55
      rw [nI_1]
      refine ⟨fun c => absurd c (nI_ge hs (by omega)), fun _ => s_great (T := fun k => toldF (trnF b i k) m s) (by omega) (by omega) (fun k => Nat.lt_of_lt_of_le (toldF_lt (trnF b i k) m s) (two7 (show bN (trnF b i k) ≤ 7 from hn))) (fun k hk ek => hr k hk ek s hs) ?_⟩
      show ((nI (tstF b m i F s).1 ≤ nI (tstG b m i F s) → _) ∧ (¬ nI (tstF b m i F s).1 ≤ nI (tstG b m i F s) → _))
      refine ⟨fun c => hK _ _ _ _ _ ⟨rfl, rfl, rfl, ?_, ?_⟩, fun c => hK _ _ _ _ _ ⟨rfl, rfl, rfl, ?_, ?_⟩⟩
      · rw [tstF, if_pos ((nI_leI (by omega) (by omega)).mp c)]
      · rw [tstF, if_pos ((nI_leI (by omega) (by omega)).mp c)]
      · rw [tstF, if_neg (fun q => c ((nI_leI (by omega) (by omega)).mpr q))]; rfl
      · rw [tstF, if_neg (fun q => c ((nI_leI (by omega) (by omega)).mpr q))]; rfl
    · rintro K f d p q y ⟨rfl, rfl, rfl, rfl, rfl⟩
      unfold wp_X4_test_B55
      refine ⟨fun _ => ?_, fun c => absurd (Int32.le_refl _) c⟩
      simp only [nxt]
      obtain ⟨s', e1, e2⟩ := tst_some b m i F (2 ^ bN b - 1)
      rw [show 2 ^ bN b - 1 + 1 = 2 ^ bN b by omega] at e1
      have eo : nI ((tstF b m i F (2 ^ bN b)).2.getD 0) = oI (tstF b m i F (2 ^ bN b)).2 := by rw [e1]; rfl
      rw [eo]
      exact hK _ _ (fun K2 h2 => ref _ K2 (hN.sx hx).a0 (hPM.mx hx).a0 (fun z hz => ⟨fun q => absurd q F0, fun _ => h2 _ (h.ans hx hz)⟩))
  · have F0 : F = 0 := (nI_eq (b := 0) (by omega) (by decide)).mp c
    exact hK _ _ (fun K2 h2 => ref _ K2 hNv (hPM.mx hv) (fun z hz => ⟨fun _ => h2 _ ((h.sx hv).sm hz), fun q => absurd F0 q⟩))
