/-! PURE: mark, later -/
theorem in15_bad {p : Int32} {u : St} {Q : Int32 → St → Prop} (hb : p ≤ 0 ∨ ¬ p < 6) (h : Q 0 u) : wp_X5_in p 1 5 u Q := by
  unfold wp_X5_in
  refine ⟨fun _ => h, fun c => ⟨fun _ => h, fun c2 => absurd hb (fun q => ?_)⟩⟩
  have a0 : (0 : Int32).toInt = 0 := by decide
  have a1 : (1 : Int32).toInt = 1 := by decide
  have a5 : (5 : Int32).toInt = 5 := by decide
  have a6 : (6 : Int32).toInt = 6 := by decide
  rw [Int32.lt_iff_toInt_lt] at c c2
  rw [Int32.le_iff_toInt_le, Int32.lt_iff_toInt_lt] at q
  omega
theorem in15_ok {o : Nat} {u : St} {Q : Int32 → St → Prop} (h1 : 1 ≤ o) (h5 : o ≤ 5) (h : Q 1 u) : wp_X5_in (nI o) 1 5 u Q := by
  unfold wp_X5_in
  exact ⟨fun c => absurd ((nI_ltI (b := 1) (by omega) (by decide)).mp c) (by omega), fun _ => ⟨fun c => absurd ((nI_ltI (a := 5) (by decide) (by omega)).mp c) (by omega), fun _ => h⟩⟩
theorem tight_eq (d t : Nat) (hd : d < 2 ^ 31) (ht : t < 2 ^ 31) : (if (0 : Int32) < nI d - nI t then nI d - nI t else 0) = if t ≤ d then nI d - nI t else 0 := by
  by_cases c : t ≤ d
  · rw [if_pos c]
    by_cases e : t = d
    · subst e
      rw [Int32.sub_self]; rfl
    · rw [if_pos]
      rw [Int32.lt_iff_toInt_lt, sub_toInt hd ht]
      have : (0 : Int32).toInt = 0 := by decide
      omega
  · rw [if_neg c, if_neg]
    rw [Int32.lt_iff_toInt_lt, sub_toInt hd ht]
    have : (0 : Int32).toInt = 0 := by decide
    omega
/-- what the mark is -/
noncomputable def markF (b : Bd) (m : Mt) (i o : Nat) : Int32 := if o = 1 then 10 + nI (popc (toldF (trnF b i 0) m (mP m))) - nI (popc (toldF b m (mP m))) else if o = 2 then nI (scnF (bK b i) (bD b i) (mS m)) else if o = 3 then 10 + nI (popc (toldF b m (mP m))) - nI (popc (toldF (trnF b i 0) m (mP m))) else if o = 4 then (if mH m i ≤ bD b i then nI (bD b i) - nI (mH m i) else 0) else nI (scnF 2 (bD b i) (mS m)) - nI (scnF 5 (bD b i) (mS m))
def likeF (b : Bd) (i o : Nat) : Prop := bK b i = o ∨ (bK b i = 4 ∧ o = 1) ∨ (bK b i = 5 ∧ o = 2)
theorem s_mark65 {b : Bd} {m : Mt} {nd i o : Nat} {u : St} {Q : Int32 → St → Prop} (hN : Now b m nd u) (hi : i < bN b) (h1 : 1 ≤ o) (h5 : o ≤ 5) (hl : likeF b i o) (h : ∀ v, SM u v → Q (markF b m i o) v) : wp_X5_mark_J65 (nI i) (nI o) Q u := by
  have hn := hN.1.1
  have h0 := h u Same.rfl'
  obtain ⟨k1, k2, k3, k4⟩ := hN.1.2 i hi
  obtain ⟨e1, e2, e3, e4⟩ := hN.bm.2 i hi
  have hh := hN.mt.2.2.2 i
  have v14 : vp_in (nI i) 14 := vp_in_nI (by omega) (by decide)
  have ho : o = 1 ∨ o = 2 ∨ o = 3 ∨ o = 4 ∨ o = 5 := by omega
  have em : mtv m (3 + i) = mH m i := by unfold mtv; rw [if_neg (by omega), if_neg (by omega), if_neg (by omega), show 3 + i - 3 = i by omega]
  unfold wp_X5_mark_J65
  rcases ho with rfl | rfl | rfl | rfl | rfl
  · exact ⟨fun _ => s_plainM hN hi (fun _ => h) (fun q => absurd rfl q), fun q => absurd rfl q⟩
  · refine ⟨fun q => absurd q (by decide), fun _ => ⟨fun _ => ⟨fun _ => s_scansM (o := 2) hN hi (Or.inl ⟨rfl, ?_⟩) h0, fun q => absurd q (by decide)⟩, fun q => absurd q (by decide)⟩⟩
    unfold likeF at hl; omega
  · exact ⟨fun q => absurd q (by decide), fun _ => ⟨fun q => absurd rfl q, fun _ => s_plainM hN hi (fun q => absurd q (by decide)) (fun _ => h)⟩⟩
  · refine ⟨fun q => absurd q (by decide), fun _ => ⟨fun _ => ⟨fun q => absurd rfl q, fun _ => ⟨v14, ?_⟩⟩, fun q => absurd q (by decide)⟩⟩
    rw [show (3 : Int32) + nI i = nI (3 + i) from nI_add 3 i, tNn (by omega), e4]
    refine hN.nowM (by omega) ?_
    rw [em]
    have h0' : Q (if mH m i ≤ bD b i then nI (bD b i) - nI (mH m i) else 0) u := h0
    have el : (0 : Int32) ≤ nI (bD b i) - nI (mH m i) ↔ mH m i ≤ bD b i := by
      have := le_sub (a := bD b i) (b := mH m i) (n := 0) (by omega) (by omega) (by omega)
      exact this
    refine ⟨fun c => ?_, fun c => ?_⟩
    · rw [if_pos (el.mp c)] at h0'; exact h0'
    · rw [if_neg (fun q => c (el.mpr q))] at h0'; exact h0'
  · refine ⟨fun q => absurd q (by decide), fun _ => ⟨fun _ => ⟨fun _ => s_scansM (o := 5) hN hi (Or.inr ⟨rfl, ?_⟩) h0, fun q => absurd q (by decide)⟩, fun q => absurd q (by decide)⟩⟩
    unfold likeF at hl; omega
theorem p_mark {a c : Int32} {u : St} (h : Inv u) {K1 : Int32 → St → Prop} (hK : ∀ r u1, Nx (wp_X5_mark a c u1) r → K1 r u1) : wp_X4_mark a c u K1 := by
  obtain ⟨b, m, nd, hN⟩ := h.now
  have hn := hN.1.1
  unfold wp_X4_mark
  refine hasX hN.1 hN.lx (fun c => ⟨fun _ => hK _ _ (fun K2 h2 => ?_), fun q => absurd rfl q⟩) (fun i hi e => ⟨fun q => absurd q (by decide), fun _ => ?_⟩)
  · unfold wp_X5_mark
    exact keyM hN.1 hN.bm (fun _ => ⟨fun _ => h2 u h, fun q => absurd rfl q⟩) (fun i hi e => absurd c (by rw [e]; exact fun q => q.elim (nI_pos (by omega)) (nI_ge hi (by omega))))
  subst e
  have bad : (c ≤ 0 ∨ ¬ c < 6) → Nx (wp_X5_mark (nI i) c u) (-1) := fun z K2 h2 => by
    unfold wp_X5_mark
    exact keyY hN.1 hN.bm hi ⟨fun q => absurd q (by decide), fun _ => in15_bad z ⟨fun q => absurd rfl q, fun _ => h2 u h⟩⟩
  refine ⟨fun z => hK _ _ (bad (Or.inl z)), fun z1 => ⟨fun z2 => ?_, fun z => hK _ _ (bad (Or.inr z))⟩⟩
  obtain ⟨k1, k2, k3, k4⟩ := hN.1.2 i hi
  have v14 : vp_in (nI i) 14 := vp_in_nI (by omega) (by decide)
  rcases pk_ix c (n := 6) (by decide) with z | z | ⟨o, ho, rfl⟩
  · exact absurd (lt0_le (k := 0) (by decide) z) z1
  · exact absurd z2 (Int32.not_lt.mpr z)
  have ho1 : 1 ≤ o := Nat.pos_of_ne_zero (fun q => z1 (by rw [q]; exact Int32.le_refl _))
  refine s_kindOf hN.1 hN.lx hi (s_X4_isOf k1 ho ?_)
  have hlk : decide (bK b i = o ∨ (bK b i = 4 ∧ o = 1) ∨ (bK b i = 5 ∧ o = 2) ∨ ((bK b i = 1 ∨ bK b i = 2 ∨ bK b i = 3) ∧ o = 0)) = true ↔ likeF b i o := by
    rw [decide_eq_true_iff]
    unfold likeF
    omega
  generalize decide (bK b i = o ∨ (bK b i = 4 ∧ o = 1) ∨ (bK b i = 5 ∧ o = 2) ∨ ((bK b i = 1 ∨ bK b i = 2 ∨ bK b i = 3) ∧ o = 0)) = x at hlk ⊢
  cases x with
  | false =>
    have nl : ¬ likeF b i o := fun q => absurd (hlk.mpr q) (by decide)
    refine ⟨fun q => absurd rfl q, fun _ => found_ok (f := 3) (by decide) (hK _ _ (fun K2 h2 => ?_))⟩
    have e1 : gi (fX 3 u) 46 i = nI (bK b i) := by rw [fX_m _ _ _ (by decide) (by decide)]; exact (hN.bm.2 i hi).1
    have hB : BM b (fX 3 u) := ⟨by rw [fX_m _ _ _ (by decide) (by decide)]; exact hN.bm.1, fun j hj => by rw [fX_m _ _ _ (by decide) (by decide), fX_m _ _ _ (by decide) (by decide), fX_m _ _ _ (by decide) (by decide), fX_m _ _ _ (by decide) (by decide)]; exact hN.bm.2 j hj⟩
    unfold wp_X5_mark wp_X5_mark_J44 wp_X5_mark_J59
    refine keyY hN.1 hB hi ⟨fun q => absurd q (by decide), fun _ => in15_ok ho1 (by omega) ⟨fun _ => ⟨v14, ?_⟩, fun q => absurd q (by decide)⟩⟩
    rw [tNn (by omega), e1]
    have fin : wp_X5_find 3 (fX 3 u) (fun r13 u13 => K2 r13 u13) := find_ok (f := 3) (by decide) (h2 _ (inv_found (by decide) h))
    unfold likeF at nl
    refine ⟨fun q => absurd ((nI_eq (by omega) (by omega)).mp q) (by omega), fun _ => ⟨fun q1 => ⟨fun _ => fin, fun q2 => ⟨v14, fun q => absurd ((nI_eq (b := 5) (by omega) (by decide)).mp q) (fun z => ?_), fun _ => fin⟩⟩, fun q1 => ⟨v14, fun q => absurd ((nI_eq (b := 4) (by omega) (by decide)).mp q) (fun z => ?_), fun _ => ⟨fun _ => fin, fun q2 => absurd (q1.symm.trans q2) (by decide)⟩⟩⟩⟩
    · have := (nI_eq (b := 2) (by omega) (by decide)).mp q2
      omega
    · have := (nI_eq (b := 1) (by omega) (by decide)).mp q1
      omega
  | true =>
    have yl : likeF b i o := hlk.mp rfl
    refine ⟨fun _ => ?_, fun q => absurd q (by decide)⟩
    have ref : ∀ v, SX u v → K1 (markF b m i o) v := fun v hv => hK _ _ (fun K2 h2 => by
      have hNv := hN.sx hv
      have j65 : wp_X5_mark_J65 (nI i) (nI o) K2 v := s_mark65 hNv hi ho1 (by omega) yl (fun w hw => h2 w ((h.sx hv).sm hw))
      have e1 : gi v 46 i = nI (bK b i) := (hNv.bm.2 i hi).1
      unfold wp_X5_mark wp_X5_mark_J44
      refine keyY hN.1 hNv.bm hi ⟨fun q => absurd q (by decide), fun _ => in15_ok ho1 (by omega) ⟨fun _ => ⟨v14, ?_⟩, fun q => absurd q (by decide)⟩⟩
      rw [tNn (by omega), e1]
      unfold likeF at yl
      refine ⟨fun _ => j65, fun q0 => ?_⟩
      have n0 : ¬ bK b i = o := fun q => q0 (by rw [q])
      refine ⟨fun q1 => ⟨fun q2 => absurd yl (fun z => ?_), fun _ => ⟨v14, fun _ => j65, fun q5 => absurd yl (fun z => ?_)⟩⟩, fun q1' => ⟨v14, fun _ => j65, fun q4 => absurd yl (fun z => ?_)⟩⟩
      · rcases z with z | ⟨z, z2⟩ | ⟨z, z2⟩
        · exact n0 z
        · exact q1 (by rw [z2]; rfl)
        · exact q2 (by rw [z2]; rfl)
      · rcases z with z | ⟨z, z2⟩ | ⟨z, z2⟩
        · exact n0 z
        · exact q1 (by rw [z2]; rfl)
        · exact q5 (by rw [z]; rfl)
      · rcases z with z | ⟨z, z2⟩ | ⟨z, z2⟩
        · exact n0 z
        · exact q4 (by rw [z]; rfl)
        · rw [z2] at q1'
          exact absurd q1' (by decide))
    have tl := toldF_lt7 hN.1 m (mP m)
    refine ⟨fun q => ?_, fun q => ?_, fun q => ?_, fun q => ?_, fun q => ?_⟩
    · obtain rfl : o = 1 := (nI_eq (b := 1) (by omega) (by decide)).mp q
      exact s_plain hN hi (fun v hv => (hN.sx hv).toldX (fun w hw => s_bitCount (by omega) (ref w (hv.trans hw))))
    · obtain rfl : o = 2 := (nI_eq (b := 2) (by omega) (by decide)).mp q
      exact s_kindOf hN.1 hN.lx hi (s_scans hN hi (by unfold likeF at yl; omega) ref)
    · obtain rfl : o = 3 := (nI_eq (b := 3) (by omega) (by decide)).mp q
      exact hN.toldX (fun w hw => s_bitCount (by omega) (s_plain (hN.sx hw) hi (fun v hv => ref v (hw.trans hv))))
    · obtain rfl : o = 4 := (nI_eq (b := 4) (by omega) (by decide)).mp q
      have hh := hN.mt.2.2.2 i
      refine s_delayOf hN.1 hN.lx hi (s_heldFor hN.mx (by omega) ?_)
      rw [tight_eq _ _ (by omega) (by omega)]
      exact ref u Same.rfl'
    · rw [nI_toInt (by omega)] at q
      obtain rfl : o = 5 := by omega
      exact s_scans (k := 2) hN hi (Or.inl rfl) (fun v hv => s_scans (k := 5) (hN.sx hv) hi (Or.inr rfl) (fun w hw => ref w (hv.trans hw)))
