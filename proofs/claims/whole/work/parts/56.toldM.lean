/-! PURE: Wires.toldOf; the reference's take, readBy, toldBy -/
def notT (k : Nat) : Prop := k ≠ 27 ∧ k ≠ 28 ∧ k ≠ 29
theorem notT29 : ¬ notT 29 := fun h => h.2.2 rfl
theorem notT_C {k : Nat} (h : notT k) : notC k := ⟨h.1, h.2.1⟩
theorem CNk.same {P : Nat → Prop} {u v : St} {k : Nat} {b : Bd} {m : Mt} {s : Nat} (h : CNk k b m s u) (hs : Same P u v) (h7 : P 27) (h8 : P 28) : CNk k b m s v := fun l hl => ⟨(hs.1 _ _ h7).trans (h l hl).1, (hs.1 _ _ h8).trans (h l hl).2⟩
theorem s_X3_columnsReadBy {b : Bd} {m : Mt} {s l : Nat} {u : St} {Q : Int32 → St → Prop} (hb : bdOk b) (hs : s < 128) (hl : l < 4) (hw : WR b m u) (h : ∀ u', Same notC u u' → Q (nI (readF b m s l)) u') : wp_X3_columnsReadBy (nI l) (nI s) u Q := by
  unfold wp_X3_columnsReadBy
  exact s_X3_connect hb hs hw (fun u' hc hS => s_X3_columnsFrom hb hl hc (h u' hS))
theorem told_step {b : Bd} {m : Mt} {s k : Nat} : bitsP (fun i => readsP b m s (bL b i) (bC b i)) (k + 1) = bitsP (fun i => readsP b m s (bL b i) (bC b i)) k ||| (@ite Nat (readsP b m s (bL b k) (bC b k)) (Classical.propDecidable _) (2 ^ k) 0) := rfl
theorem s_X3_toldOf {b : Bd} {m : Mt} {s : Nat} {u : St} {Q : Int32 → St → Prop} (hb : bdOk b) (hs : s < 128) (hw : WR b m u) (h : ∀ u', Same notT u u' → Q (nI (toldF b m s)) u') : wp_X3_toldOf (nI s) u Q := by
  have hn := hb.1
  unfold wp_X3_toldOf
  refine s_X3_connect hb hs hw (fun u1 hc1 hS1 => ?_)
  simp only [wp_X3_toldOf_L7]
  have hS1' : Same notT u u1 := hS1.weak (fun k hk => notT_C hk)
  refine lc1 4 (fun l v => CNk (bN b) b m s v ∧ Same notT u v ∧ ∀ j, j < l → gi v 29 j = nI (readF b m s j)) ⟨hc1, hS1', fun j hj => absurd hj (by omega)⟩ ?_ ?_
  · rintro K l v hl ⟨hc, hS, hr⟩ hK
    have v4 : vp_in (nI l) 4 := vp_in_nI hl (by decide)
    unfold wp_X3_toldOf_B7
    refine ⟨fun c => absurd c (nI_ge hl (by decide)), fun _ => ?_⟩
    refine s_X3_columnsFrom hb hl hc ⟨v4, ?_⟩
    simp only [nxt]
    rw [tNn (by omega), nI_1]
    refine hK _ ⟨hc.same (P := fun k => k ≠ 29) (Same.rfl'.si (fun q => q rfl)) (by decide) (by decide), hS.si notT29, fun j hj => ?_⟩
    rcases Nat.lt_or_ge j l with q | q
    · rw [gi_ni (by omega)]; exact hr j q
    · have : j = l := by omega
      subst this
      rw [gi_same]
  · rintro K v ⟨hc, hS, hr⟩
    unfold wp_X3_toldOf_B7
    refine ⟨fun _ => ?_, fun c => absurd (Int32.le_refl _) c⟩
    have hwv := hw.same hS ⟨by decide, by decide, by decide⟩ ⟨by decide, by decide, by decide⟩ ⟨by decide, by decide, by decide⟩
    simp only [wp_X3_toldOf_L33]
    refine lc2 (bN b) (fun i a w => w = v ∧ a = nI (bitsP (fun i => readsP b m s (bL b i) (bC b i)) i)) ⟨rfl, rfl⟩ ?_ ?_
    · rintro K2 i a w hi ⟨rfl, rfl⟩ hK2
      have v7 : vp_in (nI i) 7 := vp_in_nI (by omega) (by omega)
      obtain ⟨k1, k2, k3, k4⟩ := hb.2 i hi
      have v4 : vp_in (nI (bL b i)) 4 := vp_in_nI k2 (by decide)
      obtain ⟨e25, e26⟩ := hwv.2.1 i hi
      have hlt := readF_lt b m s (bL b i)
      unfold wp_X3_toldOf_B33
      simp only [tNn (show i < 2 ^ 31 by omega), e25, e26, hwv.1, tNn (show bL b i < 2 ^ 31 by omega), hr _ k2, nI_and, nI_1, and_pow]
      refine ⟨fun c => absurd c (nI_ge hi (by omega)), fun _ => ⟨fun c => absurd c (nI_ge (a := i) (b := 7) (by omega) (by decide)), fun _ => ⟨v7, fun c => absurd c (nI_pos (by omega)), fun _ => ⟨fun c => absurd c (nI_ge k2 (by decide)), fun _ => ⟨v4, v7, ?_⟩⟩⟩⟩⟩
      rw [nI_one (by omega), nI_or]
      by_cases hP : readsP b m s (bL b i) (bC b i)
      · rw [if_pos ((read_bit k3).mpr hP)]
        refine ⟨fun c => absurd ((nI_eq (by have := pow6 k3; omega) (by decide)).mp c) (Nat.pos_iff_ne_zero.mp (Nat.two_pow_pos _)), fun _ => hK2 _ _ ⟨rfl, ?_⟩⟩
        rw [told_step, if_pos hP]
      · rw [if_neg (fun q => hP ((read_bit k3).mp q))]
        refine ⟨fun _ => hK2 _ _ ⟨rfl, ?_⟩, fun c => absurd rfl c⟩
        rw [told_step, if_neg hP, Nat.or_zero]
    · rintro K2 a w ⟨rfl, rfl⟩
      unfold wp_X3_toldOf_B33
      exact ⟨fun _ => h _ hS, fun c => absurd (by rw [hwv.1]; exact Int32.le_refl _) c⟩
/-! the reference -/
/-- what is tried: a board (its delays are the true ones), a moment, a set -/
def TM (b : Bd) (m : Mt) (s : Nat) (u : St) : Prop := gi u 39 10 = nI (bN b) ∧ (∀ i, i < bN b → gi u 54 i = nI (bK b i) ∧ gi u 55 i = nI (bL b i) ∧ gi u 56 i = nI (bC b i) ∧ gi u 49 i = nI (bD b i)) ∧ gi u 53 0 = nI s ∧ gi u 53 1 = nI (mS m) ∧ gi u 53 2 = nI (mC m) ∧ ∀ i, i < 7 → gi u 53 (3 + i) = nI (mH m i)
theorem TM.same {P : Nat → Prop} {u v : St} {b : Bd} {m : Mt} {s : Nat} (h : TM b m s u) (hs : Same P u v) (hp : P 39 ∧ P 49 ∧ P 53 ∧ P 54 ∧ P 55 ∧ P 56) : TM b m s v :=
  ⟨(hs.1 _ _ hp.1).trans h.1, fun i hi => ⟨(hs.1 _ _ hp.2.2.2.1).trans (h.2.1 i hi).1, (hs.1 _ _ hp.2.2.2.2.1).trans (h.2.1 i hi).2.1, (hs.1 _ _ hp.2.2.2.2.2).trans (h.2.1 i hi).2.2.1, (hs.1 _ _ hp.2.1).trans (h.2.1 i hi).2.2.2⟩, (hs.1 _ _ hp.2.2.1).trans h.2.2.1, (hs.1 _ _ hp.2.2.1).trans h.2.2.2.1, (hs.1 _ _ hp.2.2.1).trans h.2.2.2.2.1, fun i hi => (hs.1 _ _ hp.2.2.1).trans (h.2.2.2.2.2 i hi)⟩
theorem s_X5_has {s i : Nat} {u : St} {Q : Int32 → St → Prop} (hs : s < 2 ^ 31) (hi : i < 32) (h : Q (nI (s.testBit i).toNat) u) : wp_X5_has (nI s) (nI i) u Q := by
  unfold wp_X5_has
  simp (disch := omega) only [lit, nI_bit1, tb_toNat1]
  generalize s.testBit i = x at h ⊢
  cases x <;> simpa using h
theorem nI_toInt' {n : Nat} (h : n < 2 ^ 31) : (nI n).toInt = (n : Int) := nI_toInt h
theorem s_X5_doesBy {k d h sc : Nat} {u : St} {Q : Int32 → St → Prop} (hk : k < 6) (hd : d < 10) (hh : h ≤ 9) (hsc : sc ≤ 100) (hk3 : k ≠ 3) (hq : Q (nI (condF k d h sc true).toNat) u) : wp_X5_doesBy (nI k) (nI h) (nI sc) (nI d) u Q := by
  have hr1 := pk_rem (a := sc) (d := 2) (by omega) (by omega) (by omega)
  obtain ⟨z, hz⟩ : ∃ z, z = sc % (d + 1) := ⟨_, rfl⟩
  have hzl : z ≤ sc := by rw [hz]; exact Nat.mod_le _ _
  have hr2 : nI sc - nI sc / nI (d + 1) * nI (d + 1) = nI z := by rw [hz]; exact pk_rem (by omega) (by omega) (by omega)
  unfold wp_X5_doesBy
  simp (disch := omega) only [lit, nI_ltI, nI_eq, nI_add, hr1, hr2, nI_toInt']
  unfold condF at hq
  rw [← hz] at hq
  have hk6 : k = 0 ∨ k = 1 ∨ k = 2 ∨ k = 4 ∨ k = 5 := by omega
  rcases hk6 with rfl | rfl | rfl | rfl | rfl <;> simp at hq ⊢ <;> by_cases h1 : sc % 2 = 0 <;> by_cases h2 : d ≤ h <;> by_cases h3 : z = 0 <;> simp_all <;> omega
theorem v0_10 : vp_in 0 10 := vp_in_nI (n := 0) (by decide) (by decide)
theorem v1_10 : vp_in 1 10 := vp_in_nI (n := 1) (by decide) (by decide)
theorem v2_10 : vp_in 2 10 := vp_in_nI (n := 2) (by decide) (by decide)
theorem s_X5_conducts {b : Bd} {m : Mt} {s i : Nat} {u : St} {Q : Int32 → St → Prop} (hb : bdOk b) (hm : mtOk m) (hs : s < 128) (hi : i < bN b) (hT : TM b m s u) (h : Q (nI (condF (bK b i) (bD b i) (mH m i) (mS m) (s.testBit i)).toNat) u) : wp_X5_conducts (nI i) u Q := by
  have hn := hb.1
  obtain ⟨k1, k2, k3, k4⟩ := hb.2 i hi
  obtain ⟨e54, e55, e56, e49⟩ := hT.2.1 i hi
  have e53 := hT.2.2.2.2.2 i (by omega)
  have v7 : vp_in (nI i) 7 := vp_in_nI (by omega) (by omega)
  have v14 : vp_in (nI i) 14 := vp_in_nI (by omega) (by omega)
  have v10 : vp_in (nI (3 + i)) 10 := vp_in_nI (by omega) (by omega)
  unfold wp_X5_conducts
  rw [show (3 : Int32) + nI i = nI (3 + i) from nI_add 3 i, tNn (show i < 2 ^ 31 by omega), tNn (show 3 + i < 2 ^ 31 by omega), show Int32.toNatClampNeg 0 = 0 from rfl, show Int32.toNatClampNeg 1 = 1 from rfl]
  rw [e54, hT.2.2.1]
  refine ⟨v7, fun c => ?_, fun c => ⟨v0_10, ?_⟩⟩
  · have hk : bK b i = 3 := (nI_eq (by omega) (by decide)).mp c
    rw [hk] at h
    have h2 : Q (nI 1) u := by simpa [condF] using h
    exact h2
  · have hk : bK b i ≠ 3 := fun q => c (by rw [q]; rfl)
    refine s_X5_has (by omega) (by omega) ?_
    cases e : s.testBit i
    · rw [e] at h
      refine ⟨fun _ => ?_, fun c => absurd rfl c⟩
      have h2 : Q (nI 0) u := by simpa [condF, hk] using h
      exact h2
    · rw [e] at h
      refine ⟨fun c => absurd c (by decide), fun _ => ⟨v7, v10, v1_10, v14, ?_⟩⟩
      rw [e54, e53, hT.2.2.2.1, e49]
      refine s_X5_doesBy k1 k4 (hm.2.2.2 i) hm.1 hk ?_
      cases e2 : condF (bK b i) (bD b i) (mH m i) (mS m) true
      · rw [e2] at h; exact ⟨fun _ => h, fun c => absurd rfl c⟩
      · rw [e2] at h; exact ⟨fun c => absurd c (by decide), fun _ => h⟩
