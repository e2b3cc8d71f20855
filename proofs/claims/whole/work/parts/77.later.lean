/-! PURE: later -/
noncomputable def latT (b : Bd) (m : Mt) (s : Nat) : Nat := toldF b (passK s m) (mP m)
def newB (T : Nat → Nat) (k : Nat) : Bool := decide (∀ s, s < k → T s ≠ T k)
def difF (T : Nat → Nat) (k : Nat) : Nat := sumN (fun s => (newB T s).toNat) 0 k
theorem dif_s (T : Nat → Nat) (k : Nat) : difF T (k + 1) = difF T k + (newB T k).toNat := by
  have := sumN_s (fun s => (newB T s).toNat) 0 k
  rw [Nat.zero_add] at this
  exact this
theorem dif_le (T : Nat → Nat) (k : Nat) : difF T k ≤ k := by
  have h : ∀ x : Bool, x.toNat ≤ 1 := by decide
  have := sumN_le (f := fun s => (newB T s).toNat) (B := 1) (fun s => h _) 0 k
  unfold difF
  omega
theorem s_among {d : Nat} {x : Int32} {u : St} {Q : Int32 → St → Prop} (hd : d ≤ 100) (hy : (∃ j, j < d ∧ gi u 30 j = x) → Q 1 u) (hn : (∀ j, j < d → gi u 30 j ≠ x) → Q 0 u) : wp_X4_isAmongFirst (nI d) x u Q := by
  unfold wp_X4_isAmongFirst
  simp only [wp_X4_isAmongFirst_L2]
  refine lc1 d (fun j w => w = u ∧ ∀ i, i < j → gi u 30 i ≠ x) ⟨rfl, fun i hi => absurd hi (by omega)⟩ ?_ ?_
  · rintro K j w hj ⟨rfl, hr⟩ hK
    unfold wp_X4_isAmongFirst_B2
    rw [tNn (by omega), nI_1]
    refine ⟨fun c => absurd c (nI_ge hj (by omega)), fun _ => ⟨fun c => absurd c (nI_ge (b := 128) (by omega) (by decide)), fun _ => ⟨vp_in_nI (by omega) (by decide), fun c => hK _ ⟨rfl, fun i hi => ?_⟩, fun c => hy ⟨j, hj, c⟩⟩⟩⟩
    by_cases e : i = j
    · subst e; exact c
    · exact hr i (by omega)
  · rintro K w ⟨rfl, hr⟩
    unfold wp_X4_isAmongFirst_B2
    exact ⟨fun _ => hn hr, fun c => absurd (Int32.le_refl _) c⟩
theorem TM.mv {b : Bd} {m : Mt} {u : St} (hT : TM b m (mP m) u) : ∀ j, j < 10 → gi u 53 (0 + j) = nI (mtv m j) := fun j hj => by
  obtain ⟨t1, t2, t3, t4, t5, t6⟩ := hT
  rw [Nat.zero_add]
  unfold mtv
  by_cases e0 : j = 0
  · subst e0; exact t3
  · by_cases e1 : j = 1
    · subst e1; exact t4
    · by_cases e2 : j = 2
      · subst e2; exact t5
      · rw [if_neg e0, if_neg e1, if_neg e2, ← t6 (j - 3) (by omega), show 3 + (j - 3) = j by omega]
theorem TM.pass {b : Bd} {m m2 : Mt} {u v : St} {s : Nat} (hT : TM b m s u) (hv : ∀ j, j < 10 → gi v 53 (0 + j) = nI (mtv m2 j)) (hs : ∀ k i, k ≠ 53 → gi v k i = gi u k i) : TM b m2 (mP m2) v := by
  obtain ⟨t1, t2, t3, t4, t5, t6⟩ := hT
  refine ⟨(hs _ _ (by decide)).trans t1, fun i hi => ?_, hv 0 (by decide), hv 1 (by decide), hv 2 (by decide), fun i hi => ?_⟩
  · rw [hs _ _ (by decide), hs _ _ (by decide), hs _ _ (by decide), hs _ _ (by decide)]; exact t2 i hi
  · have := hv (3 + i) (by omega)
    rw [Nat.zero_add] at this
    rw [this]
    unfold mtv
    rw [if_neg (by omega), if_neg (by omega), if_neg (by omega), show 3 + i - 3 = i by omega]
theorem p_later {a : Int32} {u : St} (h : Inv u) {K1 : Int32 → St → Prop} (hK : ∀ r u1, Nx (wp_X5_later a u1) r → K1 r u1) : wp_X4_later a u K1 := by
  obtain ⟨b, m, nd, hN⟩ := h.now
  have hn := hN.1.1
  have tl : ∀ s, latT b m s < 128 := fun s => toldF_lt7 hN.1 _ _
  unfold wp_X4_later
  have bad : (a < 0 ∨ nI 21 ≤ a) → Nx (wp_X5_later a u) (-1) := fun z K2 h2 => by
    unfold wp_X5_later
    exact in_bad (P := 21) (by decide) (by decide) rfl z ⟨fun q => absurd rfl q, fun _ => h2 u h⟩
  rcases pk_ix a (n := 21) (by decide) with z | z | ⟨n, hn21, rfl⟩
  · exact ⟨fun _ => hK _ _ (bad (Or.inl z)), fun q => absurd z q⟩
  · exact ⟨fun q => absurd q (ge_nlt0 (by decide) z), fun _ => ⟨fun q => absurd q (ge_nle (k := 20) (by decide) z), fun _ => hK _ _ (bad (Or.inr z))⟩⟩
  refine ⟨fun q => absurd q (nI_pos (by omega)), fun _ => ⟨fun _ => ⟨fun c0 => ?_, fun c0 => hK _ _ (fun K2 h2 => ?_)⟩, fun q => absurd ((nI_leI (b := 20) (by omega) (by decide)).mpr (by omega)) q⟩⟩
  · have mk : ∀ k, k ≤ 30 → mtOk (passK k m) := fun k hk => hN.mk (by omega)
    have told2 : ∀ {k : Nat} {w : St} {Q : Int32 → St → Prop}, k ≤ 30 → SX u w → MX 22 (passK k m) w → (∀ w', SX u w' → MX 22 (passK k m) w' → (∀ j, gi w' 30 j = gi w 30 j) → Q (nI (latT b m k)) w') → wp_X4_toldAt 22 w Q := by
      intro k w Q hk hx hm hq
      unfold wp_X4_toldAt
      refine s_X3_attach (Or.inl rfl) (Or.inr rfl) (hN.sx hx).lx hm hN.1 (mk k hk) (fun v hw hs => ?_)
      rw [(hm.same hs (mom_notW (Or.inr rfl))).2.1, passK_P]
      refine s_X3_toldOf hN.1 hN.mt.2.2.1 hw (fun w' ht => hq w' ((hx.trans (sx_W hs)).trans (sx_T ht)) ((hm.same hs (mom_notW (Or.inr rfl))).same ht (fun j hj => by unfold notT; omega)) (fun j => ?_))
      rw [ht.1 _ _ (by unfold notT; omega), hs.1 _ _ (by unfold notW; omega)]
    refine s_copyM hN.mx (fun v hm hs => told2 (k := 0) (by decide) (sx_M hs) hm (fun w hw hm2 _ => ⟨vp_in_nI (n := 0) (by decide) (by decide), ?_⟩))
    simp only [nxt, wp_X4_later_L57]
    rw [show Int32.toNatClampNeg 0 = 0 from rfl]
    have d1 : difF (latT b m) 1 = 1 := by
      have : newB (latT b m) 0 = true := decide_eq_true (fun s hs => absurd hs (by omega))
      rw [dif_s, this]; rfl
    refine lc3 n (fun k x y w => x = nI (latT b m k) ∧ y = nI (difF (latT b m) (k + 1)) ∧ SX u w ∧ MX 22 (passK k m) w ∧ (∀ j, j < difF (latT b m) (k + 1) → ∃ s, s ≤ k ∧ gi w 30 j = nI (latT b m s)) ∧ ∀ s, s ≤ k → ∃ j, j < difF (latT b m) (k + 1) ∧ gi w 30 j = nI (latT b m s)) ⟨rfl, by rw [d1]; rfl, hw.wr (by omega), hm2.same (Same.si (P := fun q => q ≠ 30) Same.rfl' (fun q => q rfl)) (fun j hj => by omega), fun j hj => ⟨0, Nat.le_refl _, ?_⟩, fun s hs => ⟨0, by rw [d1]; decide, ?_⟩⟩ ?_ ?_
    · rw [d1] at hj
      obtain rfl : j = 0 := by omega
      rw [gi_same]
    · obtain rfl : s = 0 := by omega
      rw [gi_same]
    · rintro K k x y w hk ⟨rfl, rfl, hx, hm, hA, hB⟩ hK
      have dl := dif_le (latT b m) (k + 1)
      have ds := dif_s (latT b m) (k + 1)
      unfold wp_X4_later_B57
      refine ⟨fun c => absurd c (nI_ge hk (by omega)), fun _ => s_passScan (Or.inr rfl) (mk k (by omega)) hm (fun w1 hm1 hs1 => ?_)⟩
      refine told2 (k := k + 1) (by omega) (hx.trans (sx_M hs1)) hm1 (fun w2 hx2 hm2 h30 => ⟨fun c => absurd c (nI_ge (b := 128) (by omega) (by decide)), fun _ => ?_⟩)
      have h30' : ∀ j, gi w2 30 j = gi w 30 j := fun j => (h30 j).trans (hs1.1 _ _ (by unfold momO; omega))
      rw [nI_1, nI_1]
      refine s_among (by omega) (fun hy => ⟨fun _ => ?_, fun q => absurd q (by decide)⟩) (fun hno => ⟨fun q => absurd rfl q, fun _ => ⟨vp_in_nI (by omega) (by decide), ?_⟩⟩)
      · obtain ⟨j, hj, ej⟩ := hy
        obtain ⟨s, hs, es⟩ := hA j hj
        have e : latT b m s = latT b m (k + 1) := (nI_eq (by have := tl s; omega) (by have := tl (k + 1); omega)).mp (by rw [← es, ← h30' j, ej])
        have nb : newB (latT b m) (k + 1) = false := decide_eq_false (fun q => q s (by omega) e)
        rw [nb] at ds
        have ds' : difF (latT b m) (k + 1 + 1) = difF (latT b m) (k + 1) := ds
        refine hK _ _ _ ⟨rfl, by rw [ds'], hx2, hm2, fun j hj => ?_, fun s2 hs2 => ?_⟩
        · rw [ds'] at hj
          obtain ⟨s, hs, es⟩ := hA j hj
          exact ⟨s, by omega, (h30' j).trans es⟩
        · rw [ds']
          by_cases e2 : s2 ≤ k
          · obtain ⟨j, hj, ej⟩ := hB s2 e2
            exact ⟨j, hj, (h30' j).trans ej⟩
          · obtain rfl : s2 = k + 1 := by omega
            exact ⟨j, hj, ej⟩
      · have nb : newB (latT b m) (k + 1) = true := decide_eq_true (fun s hs e => by
          obtain ⟨j, hj, ej⟩ := hB s (by omega)
          exact hno j hj (by rw [h30' j, ej, e]))
        rw [nb] at ds
        have ds' : difF (latT b m) (k + 1 + 1) = difF (latT b m) (k + 1) + 1 := ds
        simp only [nxt]
        rw [tNn (by omega)]
        refine hK _ _ _ ⟨rfl, by rw [ds'], hx2.wr (by omega), hm2.same (Same.si (P := fun q => q ≠ 30) Same.rfl' (fun q => q rfl)) (fun j hj => by omega), fun j hj => ?_, fun s2 hs2 => ?_⟩
        · rw [ds'] at hj
          by_cases e : j = difF (latT b m) (k + 1)
          · subst e
            exact ⟨k + 1, Nat.le_refl _, gi_same⟩
          · obtain ⟨s, hs, es⟩ := hA j (by omega)
            exact ⟨s, by omega, by rw [gi_ni e, h30' j]; exact es⟩
        · rw [ds']
          by_cases e2 : s2 ≤ k
          · obtain ⟨j, hj, ej⟩ := hB s2 e2
            exact ⟨j, by omega, by rw [gi_ni (by omega), h30' j]; exact ej⟩
          · obtain rfl : s2 = k + 1 := by omega
            exact ⟨_, Nat.lt_succ_self _, gi_same⟩
    · rintro K x y w ⟨rfl, rfl, hx, -, -, -⟩
      unfold wp_X4_later_B57
      refine ⟨fun _ => ?_, fun c => absurd (Int32.le_refl _) c⟩
      simp only [nxt]
      refine hK _ _ (fun K2 h2 => ?_)
      have hNw := (hN.sx hx).a0 (x := nI (difF (latT b m) (n + 1)))
      unfold wp_X5_later
      refine in_ok (P := 21) hn21 (by decide) rfl ⟨fun _ => ⟨fun _ => hNw.take (fun v hv hT => ?_), fun q => absurd ((nkX hN).mpr ((nkM hNw).mp q)) c0⟩, fun q => absurd q (by decide)⟩
      simp only [wp_X5_later_L30]
      refine lc2 (n + 1) (fun k x y => x = nI (difF (latT b m) k) ∧ SM (si w 0 12 (nI (difF (latT b m) (n + 1)))) y ∧ TM b (passK k m) (mP m) y ∧ ∀ s, s < k → gi y 58 s = nI (latT b m s)) ⟨rfl, hv, hT, fun s hs => absurd hs (by omega)⟩ ?_ ?_
      · rintro K k x y hk ⟨rfl, hy, hT, hr⟩ hK
        unfold wp_X5_later_B30
        refine ⟨fun c => absurd ((nI_ltI (by omega) (by omega)).mp c) (by omega), fun _ => s_X5_toldBy hN.1 (mk k (by omega)) hN.mt.2.2.1 hT (fun y1 ht => ⟨vp_in_nI (by omega) (by decide), ?_⟩)⟩
        simp only [nxt, wp_X5_later_L51]
        rw [tNn (by omega), show nI (toldF b (passK k m) (mP m)) = nI (latT b m k) from rfl]
        have hS : Same (fun k => k ≠ 57 ∧ k ≠ 58) y (si y1 58 k (nI (latT b m k))) := Same.si (ht.weak (fun k hk => hk.1)) (by omega)
        have hT2 : TM b (passK k m) (mP (passK k m)) (si y1 58 k (nI (latT b m k))) := by rw [passK_P]; exact hT.same hS (by decide)
        have hr2 : ∀ s, s < k + 1 → gi (si y1 58 k (nI (latT b m k))) 58 s = nI (latT b m s) := fun s hs => by
          by_cases e : s = k
          · subst e; rw [gi_same]
          · rw [gi_ni e, ht.1 _ _ (by decide)]; exact hr s (by omega)
        generalize si y1 58 k (nI (latT b m k)) = y2 at hS hT2 hr2
        have fin : ∀ t, t = (newB (latT b m) k).toNat → wp_X5_later_J102 (nI n) K2 K (nI k) (nI t) (nI (difF (latT b m) k)) y2 := fun t et => by
          unfold wp_X5_later_J102
          refine s_passOn (K0 := 53) (at0 := 0) (n := bN b) (m := passK k m) (Or.inr rfl) (by decide) hn (mk k (by omega)) (by rw [passK_P]; exact hN.2.2.2.1.2.2.1) hT2.1 hT2.mv (fun y3 q1 q2 q3 => ?_)
          rw [nI_add, nI_1, et, ← dif_s]
          have hT3 : TM b (passK (k + 1) m) (mP (passK (k + 1) m)) y3 := hT2.pass q1 (fun k i hk => q2 k i (fun z => hk z.1))
          rw [passK_P] at hT3
          refine hK _ _ ⟨rfl, hy.trans (Same.trans (hS.weak (fun k hk => by omega)) ⟨fun k i hk => q2 k i (by omega), fun k i _ => q3 k i⟩), hT3, fun s hs => ?_⟩
          rw [q2 _ _ (by omega)]; exact hr2 s hs
        refine lc4 k (fun j p q f y => p = nI (difF (latT b m) k) ∧ q = nI k ∧ f = nI (decide (∀ s, s < j → latT b m s ≠ latT b m k)).toNat ∧ y = y2) ⟨rfl, rfl, ?_, rfl⟩ ?_ ?_
        · rw [decide_eq_true (fun s hs => absurd hs (Nat.not_lt_zero _))]; rfl
        · rintro K3 j p q f y hj ⟨rfl, rfl, rfl, rfl⟩ hK3
          unfold wp_X5_later_B51 wp_X5_later_J82
          rw [tNn (by omega), tNn (by omega), hr2 j (by omega), hr2 k (by omega), nI_1]
          refine ⟨fun c => absurd c (nI_ge hj (by omega)), fun _ => ⟨fun c => hK3 _ _ _ _ ⟨rfl, rfl, ?_, rfl⟩, fun c => ⟨vp_in_nI (by omega) (by decide), vp_in_nI (by omega) (by decide), fun c2 => hK3 _ _ _ _ ⟨rfl, rfl, ?_, rfl⟩, fun c2 => hK3 _ _ _ _ ⟨rfl, rfl, ?_, rfl⟩⟩⟩⟩
          · have := (tb_toNat0 _).mp c
            rw [decide_eq_false (fun z => (of_decide_eq_false this) (fun s hs => z s (by omega)))]; rfl
          · rw [decide_eq_false (fun z => z j (Nat.lt_succ_self _) ((nI_eq (by have := tl j; omega) (by have := tl k; omega)).mp c2))]; rfl
          · have : ∀ s, s < j → latT b m s ≠ latT b m k := by
              by_cases z : ∀ s, s < j → latT b m s ≠ latT b m k
              · exact z
              · exact absurd (by rw [decide_eq_false z]; rfl) c
            rw [decide_eq_true (fun s hs => ?_)]; rfl
            by_cases e : s = j
            · subst e; exact fun z => c2 (by rw [z])
            · exact this s (by omega)
        · rintro K3 p q f y ⟨rfl, rfl, rfl, rfl⟩
          unfold wp_X5_later_B51
          refine ⟨fun _ => ?_, fun c => absurd (Int32.le_refl _) c⟩
          show (nI (newB (latT b m) k).toNat = 0 → _) ∧ (¬ nI (newB (latT b m) k).toNat = 0 → _)
          refine ⟨fun c => fin 0 ?_, fun c => fin 1 ?_⟩
          · rw [(tb_toNat0 _).mp c]; rfl
          · cases e : newB (latT b m) k with
            | false => rw [e] at c; exact absurd rfl c
            | true => rfl
      · rintro K x y ⟨rfl, hy, hT, hr⟩
        unfold wp_X5_later_B30 wp_X5_tellAsked
        refine ⟨fun _ => ?_, fun c => absurd ((nI_ltI (by omega) (by omega)).mpr (Nat.lt_succ_self _)) c⟩
        simp only [nxt]
        rw [tNn (by omega), gi_nk (by decide), hr n (Nat.lt_succ_self _)]
        exact ⟨vp_in_nI (by omega) (by decide), h2 _ (h.ans hx hy)⟩
  · unfold wp_X5_later
    exact in_ok (P := 21) hn21 (by decide) rfl ⟨fun _ => ⟨fun q => absurd ((nkM hN).mpr ((nkX hN).mp c0)) q, fun _ => h2 u h⟩, fun q => absurd q (by decide)⟩
