/-! PURE: alike, haunts -/
noncomputable def eqF (b : Bd) (m : Mt) (t s : Nat) : Bool := decide (toldF b m s = t)
theorem lqd {A B C : Type} {F : (A → B → C → Int32 → St → Prop) → A → B → C → Int32 → St → Prop} {z : A → B → C → Int32 → St → Prop} (e : Nat) (J : Nat → A → B → C → St → Prop) {a : A} {b : B} {c : C} {u : St} (h0 : J e a b c u) (hs : ∀ (K : A → B → C → Int32 → St → Prop) (i : Nat) (a : A) (b : B) (c : C) (u : St), i < e → J (i + 1) a b c u → (∀ a' b' c' u', J i a' b' c' u' → K a' b' c' (nI i - 1) u') → F K a b c (nI i) u) (hx : ∀ (K : A → B → C → Int32 → St → Prop) (a : A) (b : B) (c : C) (u : St), J 0 a b c u → F K a b c (-1) u) : ∃ n, lpN F z n a b c (nI e - 1) u := by
  have key : ∀ (n i : Nat) (a : A) (b : B) (c : C) (u : St), i < n → i ≤ e → J i a b c u → lpN F z n a b c (nI i - 1) u := by
    intro n
    induction n with
    | zero => intro i a b c u h; exact absurd h (Nat.not_lt_zero _)
    | succ n ih =>
      intro i a b c u hm hi hJ
      cases i with
      | zero => exact hx _ a b c u hJ
      | succ i =>
        rw [nI_m1 (by omega), show i + 1 - 1 = i by omega]
        exact hs _ i a b c u (by omega) hJ (fun a' b' c' u' hJ' => ih i a' b' c' u' (by omega) (by omega) hJ')
  exact ⟨e + 1, key _ e a b c u (by omega) (Nat.le_refl _) h0⟩
theorem p_alike {u : St} (h : Inv u) {K1 : Int32 → St → Prop} (hK : ∀ r u1, Nx (wp_X5_alike u1) r → K1 r u1) : wp_X4_alike u K1 := by
  obtain ⟨b, m, nd, hN⟩ := h.now
  have hn := hN.1.1
  have h7 := two7 hn
  have tn := toldF_lt7 hN.1 m (mP m)
  unfold wp_X4_alike
  refine ⟨fun c0 => ?_, fun c0 => hK _ _ (fun K2 h2 => ?_)⟩
  · refine s_fill hN (fun v hs hr => s_sets hN.1 (hN.sx hs).lx.1 ?_)
    unfold wp_X4_toldNow wp_X4_toldAt
    have hNv := hN.sx hs
    refine s_X3_attach (Or.inl rfl) (Or.inl rfl) hNv.lx hNv.mx hN.1 hN.mt (fun v1 hw hs1 => ?_)
    rw [(hNv.sx (sx_W hs1)).mx.2.1]
    refine s_X3_toldOf hN.1 hN.mt.2.2.1 hw (fun v2 ht => ?_)
    have hsx : SX u v2 := (hs.trans (sx_W hs1)).trans (sx_T ht)
    have hr2 : ∀ s, s < 2 ^ bN b → gi v2 30 s = nI (toldF b m s) := fun s q => by rw [ht.1 _ _ (by unfold notT; omega), hs1.1 _ _ (by unfold notW; omega)]; exact hr s q
    simp only [wp_X4_alike_L39]
    refine lc5 (2 ^ bN b) (fun k a t x y w => w = v2 ∧ a = nI (2 ^ bN b) ∧ t = nI (toldF b m (mP m)) ∧ x = low (eqF b m (toldF b m (mP m))) 0 k ∧ y = nI (sumN (fun s => (eqF b m (toldF b m (mP m)) s).toNat) 0 k)) ⟨rfl, rfl, rfl, rfl, rfl⟩ ?_ ?_
    · rintro K k a t x y w hk ⟨rfl, rfl, rfl, rfl, rfl⟩ hK
      have tl := toldF_lt7 hN.1 m k
      have e2 := sumN_s (fun s => (eqF b m (toldF b m (mP m)) s).toNat) 0 k
      have e3 := low_s (eqF b m (toldF b m (mP m))) 0 k (by omega)
      rw [Nat.zero_add] at e2 e3
      unfold wp_X4_alike_B39 wp_X4_alike_J68
      rw [tNn (by omega), hr2 k hk, nI_1, nI_1]
      refine ⟨fun c => absurd c (nI_ge hk (by omega)), fun _ => ⟨vp_in_nI (by omega) (by decide), fun c => hK _ _ _ _ _ ⟨rfl, rfl, rfl, ?_, ?_⟩, fun c => ?_⟩⟩
      · have ef : eqF b m (toldF b m (mP m)) k = false := decide_eq_false (fun q => c (by rw [q]))
        rw [e3, ef]
        by_cases z : low (eqF b m (toldF b m (mP m))) 0 k = -9
        · rw [if_pos z, z]; rfl
        · rw [if_neg z]
      · have ef : eqF b m (toldF b m (mP m)) k = false := decide_eq_false (fun q => c (by rw [q]))
        rw [e2, ef]; rfl
      · have et : eqF b m (toldF b m (mP m)) k = true := decide_eq_true ((nI_eq (by omega) (by omega)).mp c)
        refine ⟨fun z => hK _ _ _ _ _ ⟨rfl, rfl, rfl, ?_, ?_⟩, fun z => hK _ _ _ _ _ ⟨rfl, rfl, rfl, ?_, ?_⟩⟩
        · rw [e3, if_neg z]
        · rw [e2, et]; rfl
        · rw [e3, if_pos z, et]; rfl
        · rw [e2, et]; rfl
    · rintro K a t x y w ⟨rfl, rfl, rfl, rfl, rfl⟩
      unfold wp_X4_alike_B39
      refine ⟨fun _ => ?_, fun c => absurd (Int32.le_refl _) c⟩
      simp only [nxt]
      refine hK _ _ (fun K2 h2 => ?_)
      have hNw := (hN.sx hsx).a0 (x := low (eqF b m (toldF b m (mP m))) 0 (2 ^ bN b))
      unfold wp_X5_alike
      refine ⟨fun _ => hNw.toldM (fun x hx hT => ?_), fun q => absurd ((nkX hN).mpr ((nkM hNw).mp q)) c0⟩
      rw [hT.1, nI_one (by omega)]
      simp only [wp_X5_alike_L30]
      refine lqd (2 ^ bN b) (fun k t y z x => t = nI (toldF b m (mP m)) ∧ z = low (eqF b m (toldF b m (mP m))) k (2 ^ bN b - k) ∧ y = nI (sumN (fun s => (eqF b m (toldF b m (mP m)) s).toNat) k (2 ^ bN b - k)) ∧ SM (si w 0 12 (low (eqF b m (toldF b m (mP m))) 0 (2 ^ bN b))) x ∧ ∃ s, TM b m s x) ⟨rfl, ?_, ?_, hx, _, hT⟩ ?_ ?_
      · rw [Nat.sub_self]; rfl
      · rw [Nat.sub_self]; rfl
      · rintro K k t y z x hk ⟨rfl, rfl, rfl, hy, s, hT⟩ hK
        have tl := toldF_lt7 hN.1 m k
        have ek : 2 ^ bN b - k = (2 ^ bN b - (k + 1)) + 1 := by omega
        unfold wp_X5_alike_B30
        rw [← Int32.sub_eq_add_neg]
        refine ⟨fun c => absurd c (nI_pos (by omega)), fun _ => s_toldOfM hN.1 hN.mt (by omega) hT (fun z hz hT2 => ⟨fun c => hK _ _ _ _ ⟨rfl, ?_, ?_, hy.trans hz, k, hT2⟩, fun c => hK _ _ _ _ ⟨rfl, ?_, ?_, hy.trans hz, k, hT2⟩⟩)⟩
        · have ef : eqF b m (toldF b m (mP m)) k = false := decide_eq_false (fun q => c (by rw [q]))
          rw [ek]
          show _ = if eqF b m (toldF b m (mP m)) k = true then _ else _
          rw [ef]; rfl
        · have ef : eqF b m (toldF b m (mP m)) k = false := decide_eq_false (fun q => c (by rw [q]))
          rw [ek]
          show _ = nI ((eqF b m (toldF b m (mP m)) k).toNat + _)
          rw [ef]
          show _ = nI (0 + _)
          rw [Nat.zero_add]
        · have et : eqF b m (toldF b m (mP m)) k = true := decide_eq_true ((nI_eq (by omega) (by omega)).mp c)
          rw [ek]
          show _ = if eqF b m (toldF b m (mP m)) k = true then _ else _
          rw [et]; rfl
        · have et : eqF b m (toldF b m (mP m)) k = true := decide_eq_true ((nI_eq (by omega) (by omega)).mp c)
          rw [ek]
          show _ = nI ((eqF b m (toldF b m (mP m)) k).toNat + _)
          rw [et, nI_1]
          show _ = nI (1 + _)
          rw [Nat.add_comm 1]
      · rintro K t y z x ⟨rfl, rfl, rfl, hy, s, hT⟩
        unfold wp_X5_alike_B30 wp_X5_tellAsked
        refine ⟨fun _ => ?_, fun c => absurd (by decide) c⟩
        simp only [nxt]
        exact h2 _ (h.ans hsx hy)
  · unfold wp_X5_alike
    exact ⟨fun q => absurd ((nkM hN).mpr ((nkX hN).mp c0)) q, fun _ => h2 u h⟩
/-! haunts -/
noncomputable def hauC (b : Bd) (m : Mt) (i k : Nat) (o : Option Nat) : Bool := !k.testBit i && (decide (popc k < (o.elim 8 popc)) && (toldF b m k).testBit i)
noncomputable def hauF (b : Bd) (m : Mt) (i : Nat) : Nat → Option Nat
  | 0 => none
  | k + 1 => if hauC b m i k (hauF b m i k) = true then some k else hauF b m i k
def oI (o : Option Nat) : Int32 := o.elim (-9) nI
theorem hau_b (b : Bd) (m : Mt) (i k : Nat) : ∀ s, hauF b m i k = some s → s < k := by
  induction k with
  | zero => intro s h; cases h
  | succ k ih =>
    intro s h
    unfold hauF at h
    split at h
    · cases h; omega
    · have := ih s h; omega
theorem p_haunts {a : Int32} {u : St} (h : Inv u) {K1 : Int32 → St → Prop} (hK : ∀ r u1, Nx (wp_X5_haunts a u1) r → K1 r u1) : wp_X4_haunts a u K1 := by
  obtain ⟨b, m, nd, hN⟩ := h.now
  have hn := hN.1.1
  have h7 := two7 hn
  unfold wp_X4_haunts
  refine hasX hN.1 hN.lx (fun c => ⟨fun q => absurd rfl q, fun _ => hK _ _ (fun K2 h2 => ?_)⟩) (fun i hi e => ⟨fun _ => ?_, fun q => absurd q (by decide)⟩)
  · unfold wp_X5_haunts
    exact keyM hN.1 hN.bm (fun _ => ⟨fun q => absurd rfl q, fun _ => h2 u h⟩) (fun i hi e => absurd c (by rw [e]; exact fun q => q.elim (nI_pos (by omega)) (nI_ge hi (by omega))))
  subst e
  refine s_sets hN.1 hN.lx.1 ?_
  refine s_X3_attach (Or.inl rfl) (Or.inl rfl) hN.lx hN.mx hN.1 hN.mt (fun v hw hs => ?_)
  simp only [wp_X4_haunts_L46]
  have step : ∀ k, k < 2 ^ bN b → hauF b m i (k + 1) = if hauC b m i k (hauF b m i k) = true then some k else hauF b m i k := fun k _ => rfl
  refine lc4 (2 ^ bN b) (fun k a x y w => a = nI (2 ^ bN b) ∧ x = nI ((hauF b m i k).elim 8 popc) ∧ y = oI (hauF b m i k) ∧ SX u w ∧ WR b m w) ⟨rfl, rfl, rfl, sx_W hs, hw⟩ ?_ ?_
  · rintro K k a x y w hk ⟨rfl, rfl, rfl, hx, hw⟩ hK
    have tl := toldF_lt7 hN.1 m k
    have pl := popc_le k
    have ol : (hauF b m i k).elim 8 popc ≤ 8 := by cases hauF b m i k with
      | none => exact Nat.le_refl _
      | some s => exact popc_le s
    unfold wp_X4_haunts_B46
    refine ⟨fun c => absurd c (nI_ge hk (by omega)), fun _ => s_bitCount (by omega) (s_X4_holds (by omega) (by omega) ?_)⟩
    rw [nI_1]
    cases hb1 : k.testBit i with
    | true =>
      refine ⟨fun _ => hK _ _ _ _ ⟨rfl, ?_, ?_, hx, hw⟩, fun q => absurd q (by decide)⟩ <;> (rw [step k hk]; unfold hauC; rw [hb1]; rfl)
    | false =>
      refine ⟨fun q => absurd rfl q, fun _ => ⟨fun c => hK _ _ _ _ ⟨rfl, ?_, ?_, hx, hw⟩, fun c => s_X3_toldOf hN.1 (by omega) hw (fun w' ht => s_X4_holds (by omega) (by omega) ?_)⟩⟩
      · rw [step k hk]; unfold hauC; rw [decide_eq_false (Nat.not_lt.mpr ((nI_leI (by omega) (by omega)).mp c)), Bool.false_and, Bool.and_false]; rfl
      · rw [step k hk]; unfold hauC; rw [decide_eq_false (Nat.not_lt.mpr ((nI_leI (by omega) (by omega)).mp c)), Bool.false_and, Bool.and_false]; rfl
      · have cl : popc k < (hauF b m i k).elim 8 popc := Nat.not_le.mp (fun q => c ((nI_leI (by omega) (by omega)).mpr q))
        have ec : hauC b m i k (hauF b m i k) = (toldF b m k).testBit i := by unfold hauC; rw [hb1, decide_eq_true cl]; cases (toldF b m k).testBit i <;> rfl
        have st := step k hk
        rw [ec] at st
        cases hb2 : (toldF b m k).testBit i with
        | false =>
          rw [hb2] at st
          exact ⟨fun _ => hK _ _ _ _ ⟨rfl, by rw [st]; rfl, by rw [st]; rfl, hx.trans (sx_T ht), hw.t ht⟩, fun q => absurd rfl q⟩
        | true =>
          rw [hb2] at st
          exact ⟨fun q => absurd q (by decide), fun _ => hK _ _ _ _ ⟨rfl, by rw [st]; rfl, by rw [st]; rfl, hx.trans (sx_T ht), hw.t ht⟩⟩
  · rintro K a x y w ⟨rfl, rfl, rfl, hx, hw⟩
    unfold wp_X4_haunts_B46
    refine ⟨fun _ => ?_, fun c => absurd (Int32.le_refl _) c⟩
    /- the reference, from any state -/
    have ref : ∀ (w2 : St) (K2 : Int32 → St → Prop), Now b m nd w2 → (∀ y, SM w2 y → (hauF b m i (2 ^ bN b) = none → K2 (-9) y) ∧ ∀ s, hauF b m i (2 ^ bN b) = some s → K2 (nI s) (si y 39 2 (nI (popc s)))) → wp_X5_haunts (nI i) w2 K2 := by
      intro w2 K2 hNw h2
      unfold wp_X5_haunts
      refine keyM hN.1 hNw.bm (fun c => absurd c (fun q => q.elim (nI_pos (by omega)) (nI_ge hi (by omega)))) (fun i' hi' e' => ⟨fun _ => hNw.take (fun x hx hT => ?_), fun q => absurd q (by decide)⟩)
      simp only [wp_X5_haunts_L19]
      refine lc2 (2 ^ bN b) (fun k a y => a = oI (hauF b m i k) ∧ SM w2 y ∧ ∃ s, TM b m s y) ⟨rfl, hx, _, hT⟩ ?_ ?_
      · rintro K k a y hk ⟨rfl, hy, s, hT⟩ hK
        have e1 : gi y 39 10 = nI (bN b) := hT.1
        have tl := toldF_lt7 hN.1 m k
        have pl := popc_n k (by omega)
        unfold wp_X5_haunts_B19
        rw [e1, nI_one (by omega)]
        refine ⟨fun c => absurd c (nI_ge hk (by omega)), fun _ => s_X5_has (by omega) (by omega) ?_⟩
        have st := step k hk
        unfold wp_X5_haunts_J58 wp_X5_haunts_J54
        have no : hauC b m i k (hauF b m i k) = false → ∀ y, SM w2 y → (∃ s, TM b m s y) → wp_X5_haunts_J82 (nI i) K2 K (oI (hauF b m i k)) (nI k) y := fun e y hy hT => by
          rw [e] at st
          unfold wp_X5_haunts_J82
          rw [nI_1]
          exact hK _ _ ⟨by rw [st]; rfl, hy, hT⟩
        have n0 : hauC b m i k (hauF b m i k) = false → ∀ y, SM w2 y → (∃ s, TM b m s y) → wp_X5_haunts_J59 (nI i) K2 K (oI (hauF b m i k)) (nI k) 0 y := fun e y hy hT => by
          unfold wp_X5_haunts_J59
          exact ⟨fun _ => no e y hy hT, fun q => absurd rfl q⟩
        cases hb1 : k.testBit i with
        | true => exact ⟨fun _ => n0 (by unfold hauC; rw [hb1]; rfl) y hy ⟨s, hT⟩, fun q => absurd q (by decide)⟩
        | false =>
          have y1 : popc k < (hauF b m i k).elim 8 popc → ∀ y s, SM w2 y → TM b m s y → wp_X5_haunts_J59 (nI i) K2 K (oI (hauF b m i k)) (nI k) 1 y := fun cl y s hy hT => by
            have ec : hauC b m i k (hauF b m i k) = (toldF b m k).testBit i := by unfold hauC; rw [hb1, decide_eq_true cl]; cases (toldF b m k).testBit i <;> rfl
            unfold wp_X5_haunts_J59
            refine ⟨fun q => absurd q (by decide), fun _ => s_toldOfM hN.1 hN.mt (by omega) hT (fun z hz hT2 => s_X5_has (by omega) (by omega) ?_)⟩
            cases hb2 : (toldF b m k).testBit i with
            | false => exact ⟨fun _ => no (ec.trans hb2) z (hy.trans hz) ⟨k, hT2⟩, fun q => absurd rfl q⟩
            | true =>
              rw [ec, hb2] at st
              refine ⟨fun q => absurd q (by decide), fun _ => ?_⟩
              rw [nI_1]
              exact hK _ _ ⟨by rw [st]; rfl, hy.trans hz, k, hT2⟩
          refine ⟨fun q => absurd rfl q, fun _ => ?_⟩
          cases ho : hauF b m i k with
          | none =>
            rw [ho] at y1
            exact ⟨fun _ => y1 (show popc k < 8 by omega) y s hy hT, fun q => absurd rfl q⟩
          | some s1 =>
            have sl := hau_b b m i k s1 ho
            have pl1 := popc_le s1
            rw [ho] at y1 n0
            refine ⟨fun q => absurd q (nI_ne_m9 (by omega)), fun _ => s_bitsOf (by omega) (s_bitsOf (s := s1) (by omega) ⟨fun c => n0 ?_ y hy ⟨s, hT⟩, fun c => y1 ?_ y s hy hT⟩)⟩
            · unfold hauC
              rw [decide_eq_false (Nat.not_lt.mpr (show (some s1).elim 8 popc ≤ popc k from (nI_leI (a := popc s1) (by omega) (by omega)).mp c)), Bool.false_and, Bool.and_false]
            · exact Nat.not_le.mp (fun q => c ((nI_leI (by omega) (by omega)).mpr q))
      · rintro K a y ⟨rfl, hy, s, hT⟩
        have e1 : gi y 39 10 = nI (bN b) := hT.1
        unfold wp_X5_haunts_B19 wp_X5_tellAsked
        rw [e1, nI_one (by omega)]
        refine ⟨fun _ => ?_, fun c => absurd (Int32.le_refl _) c⟩
        cases ho : hauF b m i (2 ^ bN b) with
        | none => exact ⟨fun _ => (h2 y hy).1 ho, fun q => absurd rfl q⟩
        | some s1 =>
          have sl := hau_b b m i _ s1 ho
          refine ⟨fun q => absurd q (nI_ne_m9 (by omega)), fun _ => s_bitsOf (s := s1) (by omega) ?_⟩
          simp only [nxt]
          exact (h2 y hy).2 s1 ho
    cases ho : hauF b m i (2 ^ bN b) with
    | none =>
      refine ⟨fun _ => hK _ _ (fun K2 h2 => ref w K2 (hN.sx hx) (fun y hy => ⟨fun _ => h2 y ((h.sx hx).sm hy), fun s q => by rw [ho] at q; cases q⟩)), fun q => absurd rfl q⟩
    | some s1 =>
      have sl := hau_b b m i _ s1 ho
      refine ⟨fun q => absurd q (nI_ne_m9 (by omega)), fun _ => ?_⟩
      simp only [nxt]
      refine hK _ _ (fun K2 h2 => ref _ K2 (hN.sx hx).a0 (fun y hy => ⟨fun q => (by rw [ho] at q; cases q), fun s q => ?_⟩))
      rw [ho] at q
      cases q
      exact h2 _ (h.ans hx hy)
