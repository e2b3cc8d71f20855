/-! PURE: the reference's readBy, toldBy, toldOf, take -/
theorem popc_or0 : ∀ a, a < 64 → ∀ i, i < 6 → a.testBit i = false → popc (a ||| 2 ^ i) = popc a + 1 := by decide +kernel
theorem popc_or {a i : Nat} (ha : a < 64) (hi : i < 6) (h : a.testBit i = false) : popc (a ||| 2 ^ i) = popc a + 1 := popc_or0 a ha i hi h
theorem bit_or_self (a i : Nat) : (a ||| 2 ^ i).testBit i = true := by rw [Nat.testBit_or, bit_pow]; simp
/-- lines and columns that a current comes to, for certain -/
def sndM (b : Bd) (m : Mt) (s l0 L X : Nat) : Prop := ∀ LS CS : Nat → Prop, closedF b m s l0 LS CS → (∀ j, L.testBit j = true → LS j) ∧ ∀ c, X.testBit c = true → CS c
theorem sndM_L {b : Bd} {m : Mt} {s l0 L X i : Nat} (h : sndM b m s l0 L X) (hi : i < bN b) (hl : liveF b m s i = true) (ho : oneF b i = false) (hc : X.testBit (bC b i) = true) : sndM b m s l0 (L ||| 2 ^ bL b i) X := fun LS CS hcl => ⟨fun j hj => by
    rw [Nat.testBit_or, Bool.or_eq_true, bit_pow, decide_eq_true_eq] at hj
    rcases hj with q | q
    · exact (h LS CS hcl).1 j q
    · rw [← q]; exact hcl.2.2 i hi hl ho ((h LS CS hcl).2 _ hc), (h LS CS hcl).2⟩
theorem sndM_X {b : Bd} {m : Mt} {s l0 L X i : Nat} (h : sndM b m s l0 L X) (hi : i < bN b) (hl : liveF b m s i = true) (hc : L.testBit (bL b i) = true) : sndM b m s l0 L (X ||| 2 ^ bC b i) := fun LS CS hcl => ⟨(h LS CS hcl).1, fun j hj => by
    rw [Nat.testBit_or, Bool.or_eq_true, bit_pow, decide_eq_true_eq] at hj
    rcases hj with q | q
    · exact (h LS CS hcl).2 j q
    · rw [← q]; exact hcl.2.1 i hi hl ((h LS CS hcl).1 _ hc)⟩
/-- nothing more by the first k keys -/
def cloM (b : Bd) (m : Mt) (s k L X : Nat) : Prop := ∀ i, i < k → liveF b m s i = true → (L.testBit (bL b i) = true → X.testBit (bC b i) = true) ∧ (oneF b i = false → X.testBit (bC b i) = true → L.testBit (bL b i) = true)
/-- a pass, at its k-th key: what it has made of lines and columns, whether it did -/
def pasM (b : Bd) (m : Mt) (s l0 L0 X0 k L X mo : Nat) : Prop := L < 16 ∧ X < 64 ∧ L.testBit l0 = true ∧ sndM b m s l0 L X ∧ ((mo = 0 ∧ L = L0 ∧ X = X0 ∧ cloM b m s k L X) ∨ (mo = 1 ∧ popc L0 + popc X0 < popc L + popc X))
theorem pasM_keep {b : Bd} {m : Mt} {s l0 L0 X0 k L X mo : Nat} (h : pasM b m s l0 L0 X0 k L X mo) (hc : liveF b m s k = true → (L.testBit (bL b k) = true → X.testBit (bC b k) = true) ∧ (oneF b k = false → X.testBit (bC b k) = true → L.testBit (bL b k) = true)) : pasM b m s l0 L0 X0 (k + 1) L X mo := by
  obtain ⟨h1, h2, h3, h4, h5⟩ := h
  refine ⟨h1, h2, h3, h4, ?_⟩
  rcases h5 with ⟨q1, q2, q3, q4⟩ | q
  · refine Or.inl ⟨q1, q2, q3, fun i hi hl => ?_⟩
    rcases Nat.lt_or_ge i k with z | z
    · exact q4 i z hl
    · have : i = k := by omega
      subst this
      exact hc hl
  · exact Or.inr q
theorem pasM_1 {b : Bd} {m : Mt} {s l0 L0 X0 k k' L X mo L' X' : Nat} (h : pasM b m s l0 L0 X0 k L X mo) (h1 : L' < 16) (h2 : X' < 64) (h3 : L'.testBit l0 = true) (h4 : sndM b m s l0 L' X') (h5 : popc L + popc X < popc L' + popc X') : pasM b m s l0 L0 X0 k' L' X' 1 := by
  refine ⟨h1, h2, h3, h4, Or.inr ⟨rfl, ?_⟩⟩
  rcases h.2.2.2.2 with ⟨_, q2, q3, _⟩ | ⟨_, q⟩
  · rw [← q2, ← q3]; exact h5
  · omega
section RB
variable {b : Bd} {m : Mt} {s l0 L0 X0 : Nat} {u : St} {p1 : Int32} {Q : Int32 → St → Prop} {K9 : Int32 → Int32 → Int32 → St → Prop} {K : Int32 → Int32 → Int32 → Int32 → St → Prop} {i : Nat}
theorem rb_127 (hb : bdOk b) (hi : i < bN b) (hl : liveF b m s i = true) (hT : TM b m s u) (hK : ∀ L X mo, pasM b m s l0 L0 X0 (i + 1) L X mo → K (nI L) (nI X) (nI mo) (nI (i + 1)) u) {L X mo : Nat} (h : pasM b m s l0 L0 X0 i L X mo) (hX : L.testBit (bL b i) = true → X.testBit (bC b i) = true) : wp_X5_readBy_J127 p1 Q K9 K (nI L) (nI X) (nI mo) (nI i) (nI (!oneF b i).toNat) u := by
  have hn := hb.1
  obtain ⟨k1, k2, k3, k4⟩ := hb.2 i hi
  obtain ⟨e54, e55, e56, e49⟩ := hT.2.1 i hi
  have v7 : vp_in (nI i) 7 := vp_in_nI (by omega) (by omega)
  obtain ⟨hL16, hX64, -⟩ := id h
  unfold wp_X5_readBy_J127
  rw [tNn (show i < 2 ^ 31 by omega), e56, nI_1]
  cases e : oneF b i
  · refine ⟨fun c => absurd c (by decide), fun _ => ⟨v7, s_X5_has (by omega) (by omega) ?_⟩⟩
    cases e2 : X.testBit (bC b i)
    · refine ⟨fun _ => hK _ _ _ (pasM_keep h (fun _ => ⟨hX, fun _ q => by rw [e2] at q; cases q⟩)), fun c => absurd rfl c⟩
    · refine ⟨fun c => absurd c (by decide), fun _ => ⟨v7, ?_⟩⟩
      rw [e55]
      refine s_X5_has (by omega) (by omega) ?_
      cases e3 : L.testBit (bL b i)
      · refine ⟨fun c => absurd rfl c, fun _ => ⟨v7, ?_⟩⟩
        rw [e55, nI_one (show bL b i < 31 by omega), nI_or]
        refine hK _ _ 1 (pasM_1 h (or_lt (n := 4) hL16 (Nat.pow_lt_pow_right (by decide : 1 < 2) k2 : 2 ^ bL b i < 2 ^ 4)) hX64 ?_ (sndM_L h.2.2.2.1 hi hl e e2) ?_)
        · rw [Nat.testBit_or, h.2.2.1]; rfl
        · have := popc_or (show L < 64 by omega) (show bL b i < 6 by omega) e3
          omega
      · exact ⟨fun _ => hK _ _ _ (pasM_keep h (fun _ => ⟨hX, fun _ _ => e3⟩)), fun c => absurd c (by decide)⟩
  · exact ⟨fun _ => hK _ _ _ (pasM_keep h (fun _ => ⟨hX, fun q => by rw [e] at q; cases q⟩)), fun c => absurd rfl c⟩
theorem rb_100 (hb : bdOk b) (hi : i < bN b) (hl : liveF b m s i = true) (hT : TM b m s u) (hK : ∀ L X mo, pasM b m s l0 L0 X0 (i + 1) L X mo → K (nI L) (nI X) (nI mo) (nI (i + 1)) u) {L X mo : Nat} (h : pasM b m s l0 L0 X0 i L X mo) (hX : L.testBit (bL b i) = true → X.testBit (bC b i) = true) : wp_X5_readBy_J100 p1 Q K9 K (nI L) (nI X) (nI mo) (nI i) u := by
  have hn := hb.1
  obtain ⟨k1, k2, k3, k4⟩ := hb.2 i hi
  obtain ⟨e54, e55, e56, e49⟩ := hT.2.1 i hi
  have v7 : vp_in (nI i) 7 := vp_in_nI (by omega) (by omega)
  have key := rb_127 (p1 := p1) (Q := Q) (K9 := K9) hb hi hl hT hK h hX
  unfold wp_X5_readBy_J100 wp_X5_readBy_J126
  rw [tNn (show i < 2 ^ 31 by omega), e54]
  refine ⟨v7, fun c => ?_, fun c => ⟨v7, fun c2 => ?_, fun c2 => ?_⟩⟩
  · have q : bK b i = 1 := (nI_eq (by omega) (by decide)).mp c
    rw [show oneF b i = true by simp [oneF, q]] at key
    exact key
  · have q : bK b i = 4 := (nI_eq (by omega) (by decide)).mp c2
    rw [show oneF b i = true by simp [oneF, q]] at key
    exact key
  · have q : bK b i ≠ 1 := fun z => c (by rw [z]; rfl)
    have q2 : bK b i ≠ 4 := fun z => c2 (by rw [z]; rfl)
    rw [show oneF b i = false by simp [oneF, q, q2]] at key
    exact key
theorem rb_20 (hb : bdOk b) (hm : mtOk m) (hs : s < 128) (hi : i < bN b) (hT : TM b m s u) (hK : ∀ L X mo, pasM b m s l0 L0 X0 (i + 1) L X mo → K (nI L) (nI X) (nI mo) (nI (i + 1)) u) {L X mo : Nat} (h : pasM b m s l0 L0 X0 i L X mo) : wp_X5_readBy_B20 p1 Q K9 K (nI L) (nI X) (nI mo) (nI i) u := by
  have hn := hb.1
  have hcut := hm.2.1
  obtain ⟨k1, k2, k3, k4⟩ := hb.2 i hi
  obtain ⟨e54, e55, e56, e49⟩ := hT.2.1 i hi
  have v7 : vp_in (nI i) 7 := vp_in_nI (by omega) (by omega)
  obtain ⟨hL16, hX64, -⟩ := id h
  unfold wp_X5_readBy_B20
  rw [tNn (show i < 2 ^ 31 by omega), e55, hT.1, nI_1, show Int32.toNatClampNeg 2 = 2 from rfl, hT.2.2.2.2.1]
  refine ⟨fun c => absurd c (nI_ge hi (by omega)), fun _ => ⟨v2_10, v7, s_X5_has (by omega) (by omega) ?_⟩⟩
  cases ec : (mC m).testBit (bL b i)
  · refine ⟨fun c => absurd rfl c, fun _ => s_X5_conducts hb hm hs hi hT ?_⟩
    cases eq : condF (bK b i) (bD b i) (mH m i) (mS m) (s.testBit i)
    · refine ⟨fun _ => hK _ _ _ (pasM_keep h (fun q => ?_)), fun c => absurd rfl c⟩
      simp [liveF, eq] at q
    · have hl : liveF b m s i = true := by simp [liveF, ec, eq]
      refine ⟨fun c => absurd c (by decide), fun _ => ⟨v7, ?_⟩⟩
      rw [e55]
      refine s_X5_has (by omega) (by omega) ?_
      cases e3 : L.testBit (bL b i)
      · exact ⟨fun _ => rb_100 hb hi hl hT hK h (fun q => by rw [e3] at q; cases q), fun c => absurd rfl c⟩
      · refine ⟨fun c => absurd c (by decide), fun _ => ⟨v7, ?_⟩⟩
        rw [e56]
        refine s_X5_has (by omega) (by omega) ?_
        cases e4 : X.testBit (bC b i)
        · refine ⟨fun c => absurd rfl c, fun _ => ⟨v7, ?_⟩⟩
          rw [e56, nI_one (show bC b i < 31 by omega), nI_or]
          refine rb_100 (mo := 1) hb hi hl hT hK (pasM_1 h hL16 (or_lt (n := 6) hX64 (pow6 k3)) h.2.2.1 (sndM_X h.2.2.2.1 hi hl e3) ?_) (fun _ => bit_or_self _ _)
          have := popc_or hX64 k3 e4
          omega
        · exact ⟨fun _ => rb_100 hb hi hl hT hK h (fun _ => e4), fun c => absurd c (by decide)⟩
  · refine ⟨fun _ => hK _ _ _ (pasM_keep h (fun q => ?_)), fun c => absurd c (by decide)⟩
    simp [liveF, ec] at q
end RB
theorem s_X5_readBy {b : Bd} {m : Mt} {s l : Nat} {u : St} {Q : Int32 → St → Prop} (hb : bdOk b) (hm : mtOk m) (hs : s < 128) (hl : l < 4) (hT : TM b m s u) (h : Q (nI (readF b m s l)) u) : wp_X5_readBy (nI l) u Q := by
  have hp : 2 ^ l < 16 := (Nat.pow_lt_pow_right (by decide : 1 < 2) hl : 2 ^ l < 2 ^ 4)
  unfold wp_X5_readBy
  rw [nI_one (by omega)]
  simp only [wp_X5_readBy_L9]
  refine lq3 (I := fun a b' c v => v = u ∧ ∃ L X mo, a = nI L ∧ b' = nI X ∧ c = nI mo ∧ L < 16 ∧ X < 64 ∧ L.testBit l = true ∧ sndM b m s l L X ∧ (mo = 1 ∨ (mo = 0 ∧ cloM b m s (bN b) L X))) (μ := fun a b' c _ => 2 * (16 - (popc a.toNatClampNeg + popc b'.toNatClampNeg)) + c.toNatClampNeg) ?_ ?_
  · rintro K a b' c v ⟨rfl, L, X, mo, rfl, rfl, rfl, hL, hX, hLl, hsn, hmo⟩ hK
    unfold wp_X5_readBy_B9
    rcases hmo with rfl | ⟨rfl, hcl⟩
    · refine ⟨fun c => absurd c (by decide), fun _ => ?_⟩
      simp only [wp_X5_readBy_L20]
      refine lc4 (bN b) (fun i a b' c w => w = v ∧ ∃ L' X' mo', a = nI L' ∧ b' = nI X' ∧ c = nI mo' ∧ pasM b m s l L X i L' X' mo') ⟨rfl, L, X, 0, rfl, rfl, rfl, hL, hX, hLl, hsn, Or.inl ⟨rfl, rfl, rfl, fun i hi => absurd hi (by omega)⟩⟩ ?_ ?_
      · rintro K2 i a b' c w hi ⟨rfl, L', X', mo', rfl, rfl, rfl, hps⟩ hK2
        exact rb_20 hb hm hs hi hT (fun L2 X2 mo2 h2 => hK2 _ _ _ _ ⟨rfl, L2, X2, mo2, rfl, rfl, rfl, h2⟩) hps
      · rintro K2 a b' c w ⟨rfl, L', X', mo', rfl, rfl, rfl, hps⟩
        unfold wp_X5_readBy_B20
        refine ⟨fun _ => ?_, fun c => absurd (by rw [hT.1]; exact Int32.le_refl _) c⟩
        obtain ⟨g1, g2, g3, g4, g5⟩ := hps
        have p1 := popc_le L
        have p2 := popc_le X
        have p3 := popc_le L'
        have p4 := popc_le X'
        refine hK _ _ _ _ ⟨rfl, L', X', mo', rfl, rfl, rfl, g1, g2, g3, g4, ?_⟩ ?_
        · rcases g5 with ⟨q1, q2, q3, q4⟩ | ⟨q1, q2⟩
          · exact Or.inr ⟨q1, q4⟩
          · exact Or.inl q1
        · rw [tNn (by omega), tNn (by omega), tNn (by omega), tNn (by omega), tNn (by rcases g5 with ⟨q1, -⟩ | ⟨q1, -⟩ <;> omega), tNn (by omega)]
          rcases g5 with ⟨q1, q2, q3, q4⟩ | ⟨q1, q2⟩
          · subst q2; subst q3; omega
          · omega
    · refine ⟨fun _ => ?_, fun c => absurd rfl c⟩
      rw [read_char (b := b) (m := m) (s := s) (l0 := l) (L := L) hX (fun LS CS hc c hbit => (hsn LS CS hc).2 c hbit) ⟨hLl, fun i i1 i2 i3 => (hcl i i1 i2).1 i3, fun i i1 i2 i3 i4 => (hcl i i1 i2).2 i3 i4⟩]
      exact h
  · refine ⟨rfl, 2 ^ l, 0, 1, rfl, rfl, rfl, hp, by decide, by rw [bit_pow]; simp, fun LS CS hcl => ⟨fun j hj => ?_, fun c hc => by simp at hc⟩, Or.inl rfl⟩
    rw [bit_pow, decide_eq_true_eq] at hj
    rw [← hj]
    exact hcl.1
theorem s_X5_toldBy {b : Bd} {m : Mt} {s : Nat} {u : St} {Q : Int32 → St → Prop} (hb : bdOk b) (hm : mtOk m) (hs : s < 128) (hT : TM b m s u) (h : ∀ u', Same (fun k => k ≠ 57) u u' → Q (nI (toldF b m s)) u') : wp_X5_toldBy u Q := by
  have hn := hb.1
  have hp : (39 : Nat) ≠ 57 ∧ (49 : Nat) ≠ 57 ∧ (53 : Nat) ≠ 57 ∧ (54 : Nat) ≠ 57 ∧ (55 : Nat) ≠ 57 ∧ (56 : Nat) ≠ 57 := by decide
  unfold wp_X5_toldBy
  simp only [wp_X5_toldBy_L2]
  refine lc1 4 (fun l v => Same (fun k => k ≠ 57) u v ∧ ∀ j, j < l → gi v 57 j = nI (readF b m s j)) ⟨Same.rfl', fun j hj => absurd hj (by omega)⟩ ?_ ?_
  · rintro K l v hl ⟨hS, hr⟩ hK
    have v4 : vp_in (nI l) 4 := vp_in_nI hl (by decide)
    unfold wp_X5_toldBy_B2
    refine ⟨fun c => absurd c (nI_ge hl (by decide)), fun _ => ?_⟩
    refine s_X5_readBy hb hm hs hl (hT.same hS hp) ⟨v4, ?_⟩
    simp only [nxt]
    rw [tNn (by omega), nI_1]
    refine hK _ ⟨hS.si (fun q => q rfl), fun j hj => ?_⟩
    rcases Nat.lt_or_ge j l with q | q
    · rw [gi_ni (by omega)]; exact hr j q
    · have : j = l := by omega
      subst this
      rw [gi_same]
  · rintro K v ⟨hS, hr⟩
    unfold wp_X5_toldBy_B2
    refine ⟨fun _ => ?_, fun c => absurd (Int32.le_refl _) c⟩
    have hTv := hT.same hS hp
    simp only [wp_X5_toldBy_L28]
    refine lc2 (bN b) (fun i a w => w = v ∧ a = nI (bitsP (fun i => readsP b m s (bL b i) (bC b i)) i)) ⟨rfl, rfl⟩ ?_ ?_
    · rintro K2 i a w hi ⟨rfl, rfl⟩ hK2
      have v7 : vp_in (nI i) 7 := vp_in_nI (by omega) (by omega)
      obtain ⟨k1, k2, k3, k4⟩ := hb.2 i hi
      have v4 : vp_in (nI (bL b i)) 4 := vp_in_nI k2 (by decide)
      obtain ⟨e54, e55, e56, e49⟩ := hTv.2.1 i hi
      have hlt := readF_lt b m s (bL b i)
      unfold wp_X5_toldBy_B28 wp_X5_toldBy_J67
      rw [tNn (show i < 2 ^ 31 by omega), e55, e56, hTv.1, tNn (show bL b i < 2 ^ 31 by omega), hr _ k2, nI_1, nI_one (show i < 31 by omega), nI_or, show (0 : Int32) = nI 0 from rfl, nI_or]
      refine ⟨fun c => absurd c (nI_ge hi (by omega)), fun _ => ⟨v7, v4, v7, s_X5_has (by omega) (by omega) ?_⟩⟩
      by_cases hP : readsP b m s (bL b i) (bC b i)
      · rw [(read_bit k3).mpr hP]
        refine ⟨fun c => absurd c (by decide), fun _ => hK2 _ _ ⟨rfl, ?_⟩⟩
        rw [told_step, if_pos hP]
      · have e : (readF b m s (bL b i)).testBit (bC b i) = false := by
          cases q : (readF b m s (bL b i)).testBit (bC b i)
          · rfl
          · exact absurd ((read_bit k3).mp q) hP
        rw [e]
        refine ⟨fun _ => hK2 _ _ ⟨rfl, ?_⟩, fun c => absurd rfl c⟩
        rw [told_step, if_neg hP]
    · rintro K2 a w ⟨rfl, rfl⟩
      unfold wp_X5_toldBy_B28
      exact ⟨fun _ => h _ hS, fun c => absurd (by rw [hTv.1]; exact Int32.le_refl _) c⟩
