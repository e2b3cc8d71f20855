/-! PURE: deeds, on both sides -/
def momO (mb : Nat) (k : Nat) : Prop := k ≠ mb ∧ k ≠ mb + 1
theorem mOk7 {m : Mt} (h : mtOk m) : mP m < 2 ^ 7 := h.2.2.1
/-- a scan goes by, in the class -/
theorem s_passScan {mb : Nat} {m : Mt} {u : St} {Q : St → Prop} (hmb : isMom mb) (hm : mtOk m) (hM : MX mb m u) (h : ∀ v, MX mb (passF m) v → Same (momO mb) u v → Q v) : wp_X1_passScan mb u Q := by
  have hmb' : mb = 20 ∨ mb = 22 := hmb
  have hp := hm.2.2.1
  unfold wp_X1_passScan
  simp only [nxt, wp_X1_passScan_L12]
  rw [hM.1, nI_1]
  refine lc1 7 (fun i v => Same (momO mb) u v ∧ gi v mb 1 = nI (mS m + 1) ∧ gi v mb 2 = nI (mP m) ∧ gi v mb 3 = nI (mC m) ∧ (∀ j, j < i → gi v (mb + 1) j = nI (mH (passF m) j)) ∧ ∀ j, i ≤ j → j < 7 → gi v (mb + 1) j = nI (mH m j)) ⟨Same.rfl'.si (fun q => q.1 rfl), gi_same, by rw [gi_ni (by decide)]; exact hM.2.1, by rw [gi_ni (by decide)]; exact hM.2.2.1, fun j hj => absurd hj (by omega), fun j _ hj => by rw [gi_nk (by omega)]; exact hM.2.2.2 j hj⟩ ?_ ?_
  · rintro K i v hi ⟨s1, s2, s3, s4, s5, s6⟩ hK
    have hh := hm.2.2.2 i
    unfold wp_X1_passScan_B12
    refine ⟨fun c => absurd c (nI_ge hi (by decide)), fun _ => ?_⟩
    rw [s3]
    refine s_X4_holds (by omega) (by omega) ?_
    have e6 := s6 i (Nat.le_refl _) hi
    cases e : (mP m).testBit i
    · refine ⟨fun _ => ?_, fun c => absurd rfl c⟩
      rw [nI_1]
      refine hK _ ⟨s1, s2, s3, s4, fun j hj => ?_, fun j hj hj7 => s6 j (by omega) hj7⟩
      rcases Nat.lt_or_ge j i with q | q
      · exact s5 j q
      · have : j = i := by omega
        subst this
        rw [e6]
        show _ = nI (if (mP m).testBit j = true then _ else _)
        rw [e]
        rfl
    · refine ⟨fun c => absurd c (by decide), fun _ => ⟨vp_in_nI hi (by decide), vp_in_nI hi (by decide), ?_⟩⟩
      simp only [nxt]
      rw [tNn (by omega), e6, nI_1, nI_1]
      have ev : (if nI (mH m i + 1) < 9 then nI (mH m i + 1) else 9) = nI (mH (passF m) i) := by
        show _ = nI (if (mP m).testBit i = true then (if mH m i < 9 then mH m i + 1 else 9) else mH m i)
        rw [e, if_pos rfl, show (9 : Int32) = nI 9 from rfl]
        by_cases z : mH m i + 1 < 9
        · rw [if_pos ((nI_ltI (b := 9) (by omega) (by decide)).mpr z), if_pos (by omega)]
        · rw [if_neg (fun q => z ((nI_ltI (b := 9) (by omega) (by decide)).mp q))]
          by_cases z2 : mH m i < 9
          · rw [if_pos z2, show mH m i + 1 = 9 by omega]
          · rw [if_neg z2]
      rw [ev]
      refine hK _ ⟨s1.si (fun q => q.2 rfl), by rw [gi_nk (by omega)]; exact s2, by rw [gi_nk (by omega)]; exact s3, by rw [gi_nk (by omega)]; exact s4, fun j hj => ?_, fun j hj hj7 => by rw [gi_ni (by omega)]; exact s6 j (by omega) hj7⟩
      rcases Nat.lt_or_ge j i with q | q
      · rw [gi_ni (by omega)]; exact s5 j q
      · have : j = i := by omega
        subst this
        rw [gi_same]
  · rintro K v ⟨s1, s2, s3, s4, s5, s6⟩
    unfold wp_X1_passScan_B12
    exact ⟨fun _ => h v ⟨s2, s3, s4, s5⟩ s1, fun c => absurd (by decide) c⟩
theorem s_undergo {mb d : Nat} {m : Mt} {u : St} {Q : St → Prop} (hmb : isMom mb) (hm : mtOk m) (hM : MX mb m u) (hd : d < 12) (h : ∀ v, MX mb (deedF d m) v → Same (momO mb) u v → Q v) : wp_X1_undergo mb (nI d) u Q := by
  have hmb' : mb = 20 ∨ mb = 22 := hmb
  have hp := hm.2.2.1
  have hcut := hm.2.1
  unfold wp_X1_undergo
  refine ⟨fun c => ?_, fun c => ?_⟩
  · have hd7 : d ≠ 7 := fun q => c (by rw [q]; rfl)
    by_cases h8 : 8 ≤ d
    · rw [show (8 : Int32) = nI 8 from rfl, pk_sub h8]
      refine w_ok (P := 4) (show d - 8 < 4 by omega) (by decide) ⟨fun c => absurd c (by decide), fun _ => ?_⟩
      simp only [nxt]
      rw [hM.2.2.1, nI_one (show d - 8 < 31 by omega), nI_xor]
      refine h _ ?_ (Same.rfl'.si (fun q => q.1 rfl))
      unfold deedF
      rw [if_neg hd7, if_pos h8]
      exact ⟨by rw [gi_ni (by decide)]; exact hM.1, by rw [gi_ni (by decide)]; exact hM.2.1, gi_same, fun i hi => by rw [gi_nk (by omega)]; exact hM.2.2.2 i hi⟩
    · have hlt : nI d - nI 8 < 0 := pk_sneg (by decide) (by omega)
      refine w_bad (Or.inl hlt) ⟨fun _ => ?_, fun c => absurd rfl c⟩
      refine w_ok (P := 7) (show d < 7 by omega) (by decide) ⟨fun c => absurd c (by decide), fun _ => ?_⟩
      simp only [nxt]
      rw [hM.2.1, nI_one (show d < 31 by omega), nI_xor, tNn (by omega)]
      refine ⟨vp_in_nI (by omega) (by decide), h _ ?_ ((Same.rfl'.si (fun q => q.1 rfl)).si (fun q => q.2 rfl))⟩
      unfold deedF
      rw [if_neg hd7, if_neg h8]
      refine ⟨by rw [gi_nk (by omega), gi_ni (by decide)]; exact hM.1, by rw [gi_nk (by omega), gi_same]; rfl, by rw [gi_nk (by omega), gi_ni (by decide)]; exact hM.2.2.1, fun i hi => ?_⟩
      show _ = nI (if i = d then 0 else mH m i)
      by_cases e : i = d
      · subst e
        rw [gi_same, if_pos rfl]; rfl
      · rw [gi_ni e, gi_nk (by omega), if_neg e]; exact hM.2.2.2 i hi
  · have hd7 : d = 7 := (nI_eq (b := 7) (by omega) (by decide)).mp c
    refine s_passScan hmb hm hM (fun v hv hs => h v ?_ hs)
    unfold deedF
    rw [if_pos hd7]
    exact hv
theorem s_perform {nd d : Nat} {m : Mt} {u : St} {Q : St → Prop} (hC : iC u) (hnd : nd < 40) (e8 : gi u 8 3 = nI nd) (hm : mtOk m) (hM : MX 20 m u) (hd : d < 12)
    (h : ∀ v, gi v 8 3 = nI (nd + 1) → gi v 9 (120 + nd) = nI d → MX 20 (deedF d m) v → (∀ k i, k ≠ 20 → k ≠ 21 → ¬ (k = 8 ∧ i = 3) → ¬ (k = 9 ∧ i = 120 + nd) → gi v k i = gi u k i) → (∀ k i, k ≠ 20 → k ≠ 21 → gl v k i = gl u k i) → Q v) : wp_X4_perform (nI d) u Q := by
  unfold wp_X4_perform wp_X2_add
  refine size_ok (Sh7 hC) (show 3 < 4 by decide) ?_
  rw [show gi u (7 + 1) 3 = nI nd from e8, hC.2.2.2.2.2]
  refine w_ok hnd (by decide) ⟨fun c => absurd c (by decide), fun _ => ⟨vp_in_nI (n := 3) (by decide) (by decide), ?_⟩⟩
  simp only [nxt]
  rw [show Int32.toNatClampNeg 3 = 3 from rfl, gi_nk (show (7 : Nat) ≠ 7 + 1 by decide), hC.2.2.2.2.2, show (3 : Int32) = nI 3 from rfl, pk_mul, nI_add, tNn (by omega), nI_1]
  refine ⟨vp_in_nI (show 3 * 40 + nd < shC 7 by show _ < 160; omega) (by decide), ?_⟩
  refine s_undergo (Or.inl rfl) hm ?_ hd (fun v hv hs => h v ?_ ?_ hv (fun k i h0 h1 h2 h3 => ?_) (fun k i h0 h1 => hs.2 _ _ ⟨h0, h1⟩))
  · exact ⟨by rw [gi_nk (by decide), gi_nk (by decide)]; exact hM.1, by rw [gi_nk (by decide), gi_nk (by decide)]; exact hM.2.1, by rw [gi_nk (by decide), gi_nk (by decide)]; exact hM.2.2.1, fun i hi => by rw [gi_nk (by decide), gi_nk (by decide)]; exact hM.2.2.2 i hi⟩
  · rw [hs.1 _ _ ⟨by decide, by decide⟩, gi_nk (by decide), gi_same]
  · rw [hs.1 _ _ ⟨by decide, by decide⟩, show 120 + nd = 3 * 40 + nd by omega, gi_same]
  · rw [hs.1 _ _ ⟨h0, h1⟩, gi_if, if_neg (by omega), gi_if, if_neg (by omega)]
theorem room_ok {nd n : Nat} {u : St} {Q : Int32 → St → Prop} (hC : iC u) (hnd : nd ≤ 40) (hn : n ≤ 1000) (e8 : gi u 8 3 = nI nd) (h : Q (if nd + n ≤ 40 then 0 else 1) u) : wp_X4_hasNoRoomFor (nI n) u Q := by
  unfold wp_X4_hasNoRoomFor
  refine size_ok (Sh7 hC) (show 3 < 4 by decide) ?_
  rw [show gi u (7 + 1) 3 = nI nd from e8, nI_add]
  by_cases z : nd + n ≤ 40
  · rw [if_pos z] at h
    exact ⟨fun _ => h, fun c => absurd (nI_le (b := 40) z (by decide)) c⟩
  · rw [if_neg z] at h
    exact ⟨fun c => absurd ((nI_leI (b := 40) (by omega) (by decide)).mp c) z, fun _ => h⟩
/-! the reference -/
def newM (nd : Nat) (f : Nat → Nat) (u v : St) : Prop := gi v 39 16 = nI (nd + 1) ∧ (∀ j, j < 10 → gi v 50 (10 * (nd + 1) + j) = nI (f j)) ∧ (∀ k i, ¬ (k = 39 ∧ i = 16) → ¬ (k = 50 ∧ 10 * (nd + 1) ≤ i ∧ i < 10 * (nd + 1) + 10) → gi v k i = gi u k i) ∧ ∀ k i, gl v k i = gl u k i
theorem s_begin {nd : Nat} {f : Nat → Nat} {u : St} {Q : St → Prop} (hnd : nd < 40) (e : gi u 39 16 = nI nd) (hf : ∀ j, j < 10 → gi u 50 (10 * nd + j) = nI (f j)) (h : ∀ v, newM nd f u v → Q v) : wp_X5_begin u Q := by
  unfold wp_X5_begin
  simp only [wp_X5_begin_L2]
  refine lc1 10 (fun i v => (∀ j, j < i → gi v 50 (10 * (nd + 1) + j) = nI (f j)) ∧ (∀ k x, ¬ (k = 50 ∧ 10 * (nd + 1) ≤ x ∧ x < 10 * (nd + 1) + 10) → gi v k x = gi u k x) ∧ ∀ k x, gl v k x = gl u k x) ⟨fun j hj => absurd hj (by omega), fun _ _ _ => rfl, fun _ _ => rfl⟩ ?_ ?_
  · rintro K i v hi ⟨s1, s2, s3⟩ hK
    unfold wp_X5_begin_B2
    simp only [nxt]
    rw [s2 39 16 (by omega), e, nI_1, show (10 : Int32) = nI 10 from rfl, pk_mul, pk_mul, nI_add, nI_add, tNn (by omega), tNn (by omega), s2 50 _ (by omega), hf i hi, nI_1]
    refine ⟨fun c => absurd c (nI_ge hi (by decide)), fun _ => ⟨vp_in_nI (by omega) (by decide), vp_in_nI (by omega) (by decide), hK _ ⟨fun j hj => ?_, fun k x hx => ?_, fun k x => gl_si.trans (s3 k x)⟩⟩⟩
    · rw [gi_if]
      by_cases z : j = i
      · subst z; rw [if_pos ⟨rfl, rfl⟩]
      · rw [if_neg (by omega)]; exact s1 j (by omega)
    · rw [gi_if, if_neg (by omega)]; exact s2 k x hx
  · rintro K v ⟨s1, s2, s3⟩
    unfold wp_X5_begin_B2
    simp only [nxt]
    refine ⟨fun _ => h _ ⟨?_, fun j hj => ?_, fun k x h1 h2 => ?_, fun k x => gl_si.trans (s3 k x)⟩, fun c => absurd (Int32.le_refl _) c⟩
    · rw [gi_same, s2 39 16 (by omega), e, nI_1]
    · rw [gi_nk (by decide)]; exact s1 j hj
    · rw [gi_if, if_neg h1]; exact s2 k x h2
/-- a place of the newest moment is written -/
theorem newM.wr {nd j x : Nat} {f : Nat → Nat} {u v : St} (h : newM nd f u v) (hj : j < 10) : newM nd (fun k => if k = j then x else f k) u (si v 50 (10 * (nd + 1) + j) (nI x)) := by
  refine ⟨by rw [gi_nk (by decide)]; exact h.1, fun k hk => ?_, fun k i h1 h2 => ?_, fun k i => gl_si.trans (h.2.2.2 k i)⟩
  · show _ = nI (if k = j then x else f k)
    rw [gi_if]
    by_cases e : k = j
    · rw [if_pos (by omega), if_pos e]
    · rw [if_neg (by omega), if_neg e]; exact h.2.1 k hk
  · rw [gi_if, if_neg (by omega)]; exact h.2.2.1 k i h1 h2
theorem newM.to {nd : Nat} {f g : Nat → Nat} {u v : St} (h : newM nd f u v) (e : ∀ j, j < 10 → f j = g j) : newM nd g u v := ⟨h.1, fun j hj => by rw [← e j hj]; exact h.2.1 j hj, h.2.2⟩
theorem newM.now {nd j : Nat} {f : Nat → Nat} {u v : St} {Q : Int32 → St → Prop} (h : newM nd f u v) (hnd : nd < 40) (hj : j < 10) (hq : Q (nI (f j)) v) : wp_X5_now (nI j) v Q := by
  unfold wp_X5_now
  rw [h.1, show (10 : Int32) = nI 10 from rfl, pk_mul, nI_add, tNn (by omega), h.2.1 j hj]
  exact ⟨vp_in_nI (by omega) (by decide), hq⟩
theorem flip_eq {s k : Nat} (hs : s < 128) (hk : k < 7) : (if s.testBit k = true then ndf s (2 ^ k) else s ||| 2 ^ k) = s ^^^ 2 ^ k := by
  apply Nat.eq_of_testBit_eq
  intro i
  rw [Nat.testBit_xor, bit_pow]
  split
  · rename_i h
    rw [ndf_bit, bit_pow]
    by_cases e : k = i
    · subst e; simp [h]
    · simp [e]
  · rename_i h
    rw [Nat.testBit_or, bit_pow]
    by_cases e : k = i
    · subst e
      cases hb : s.testBit k
      · simp
      · exact absurd hb h
    · simp [e]
theorem s_flipped {s k : Nat} {u : St} {Q : Int32 → St → Prop} (hs : s < 128) (hk : k < 7) (h : Q (nI (s ^^^ 2 ^ k)) u) : wp_X5_flipped (nI s) (nI k) u Q := by
  unfold wp_X5_flipped
  rw [nI_one (by omega), nI_or, nI_ndf]
  refine s_X5_has (by omega) (by omega) ?_
  rw [← flip_eq hs hk] at h
  cases e : s.testBit k
  · rw [e] at h
    exact ⟨fun _ => by simpa using h, fun c => absurd rfl c⟩
  · rw [e] at h
    exact ⟨fun c => absurd c (by decide), fun _ => by simpa using h⟩
/-- a scan goes by, in the reference: in a row of numbers, from a place on -/
theorem s_passOn {K0 at0 n : Nat} {m : Mt} {u : St} {Q : St → Prop} (hK0 : isPas K0) (hat : at0 + 10 ≤ paN K0) (hn : n ≤ 7) (hm : mtOk m) (hp : mP m < 2 ^ n) (e39 : gi u 39 10 = nI n) (hv : ∀ j, j < 10 → gi u K0 (at0 + j) = nI (mtv m j)) (h : ∀ v, (∀ j, j < 10 → gi v K0 (at0 + j) = nI (mtv (passF m) j)) → (∀ k i, ¬ (k = K0 ∧ at0 ≤ i ∧ i < at0 + 10) → gi v k i = gi u k i) → (∀ k i, gl v k i = gl u k i) → Q v) : wp_X5_passOn K0 (nI at0) u Q := by
  have hK0' : K0 = 50 ∨ K0 = 53 := hK0
  have hpa : paN K0 ≤ 410 := by rcases hK0' with rfl | rfl <;> decide
  have hp7 := hm.2.2.1
  have hsc := hm.1
  have mv3 : ∀ m : Mt, ∀ i, mtv m (3 + i) = mH m i := fun m i => by
    unfold mtv
    rw [if_neg (by omega), if_neg (by omega), if_neg (by omega), show 3 + i - 3 = i by omega]
  unfold wp_X5_passOn
  simp only [wp_X5_passOn_L2]
  refine lc1 n (fun i v => (∀ j, j < 3 → gi v K0 (at0 + j) = nI (mtv m j)) ∧ (∀ j, j < 7 → gi v K0 (at0 + (3 + j)) = nI (if j < i then mH (passF m) j else mH m j)) ∧ (∀ k x, ¬ (k = K0 ∧ at0 ≤ x ∧ x < at0 + 10) → gi v k x = gi u k x) ∧ ∀ k x, gl v k x = gl u k x) ⟨fun j hj => hv j (by omega), fun j hj => by rw [hv (3 + j) (by omega), mv3, if_neg (by omega)], fun _ _ _ => rfl, fun _ _ => rfl⟩ ?_ ?_
  · rintro K i v hi ⟨s1, s2, s3, s4⟩ hK
    have hh := hm.2.2.2 i
    have e3 : gi v K0 (at0 + 3 + i) = nI (mH m i) := by rw [Nat.add_assoc, s2 i (by omega), if_neg (by omega)]
    have e0 : gi v K0 at0 = nI (mP m) := s1 0 (by decide)
    have v1 : vp_in (nI (at0 + 3 + i)) (paN K0) := vp_in_nI (by omega) (by omega)
    have v2 : vp_in (nI at0) (paN K0) := vp_in_nI (by omega) (by omega)
    unfold wp_X5_passOn_B2 wp_X5_passOn_J46
    rw [s3 39 10 (by omega), e39, show nI at0 + (0 : Int32) = nI at0 from nI_add at0 0, show nI at0 + (3 : Int32) = nI (at0 + 3) from nI_add at0 3, nI_add, tNn (show at0 + 3 + i < 2 ^ 31 by omega), tNn (show at0 < 2 ^ 31 by omega), e3, e0]
    have fin : ∀ x : Nat, mH m i + x = mH (passF m) i → wp_X5_passOn_J47 K0 (nI at0) Q K (nI i) (nI x) (nI (mH m i)) (nI (at0 + 3 + i)) v := by
      intro x hx
      unfold wp_X5_passOn_J47
      simp only [nxt]
      rw [tNn (by omega), nI_add, hx, nI_1]
      refine ⟨v1, hK _ ⟨fun j hj => by rw [gi_ni (by omega)]; exact s1 j hj, fun j hj => ?_, fun k q hq => by rw [gi_if, if_neg (by omega)]; exact s3 k q hq, fun k q => gl_si.trans (s4 k q)⟩⟩
      by_cases e : j = i
      · subst e
        rw [show at0 + (3 + j) = at0 + 3 + j by omega, gi_same, if_pos (by omega)]
      · rw [gi_ni (by omega), s2 j hj]
        by_cases z : j < i
        · rw [if_pos z, if_pos (by omega)]
        · rw [if_neg z, if_neg (by omega)]
    refine ⟨fun c => absurd c (nI_ge hi (by omega)), fun _ => ⟨v1, v2, s_X5_has (by omega) (by omega) ?_⟩⟩
    cases e : (mP m).testBit i
    · refine ⟨fun _ => fin 0 ?_, fun c => absurd rfl c⟩
      show _ = if (mP m).testBit i = true then _ else mH m i
      rw [e]; rfl
    · have ep : mH (passF m) i = if mH m i < 9 then mH m i + 1 else 9 := by
        show (if (mP m).testBit i = true then _ else mH m i) = _
        rw [e, if_pos rfl]
      refine ⟨fun c => absurd c (by decide), fun _ => ⟨v1, fun c => ?_, fun c => ?_⟩⟩
      · rw [e3] at c
        have := (nI_leI (a := 9) (by decide) (by omega)).mp c
        exact fin 0 (by rw [ep, if_neg (by omega)]; omega)
      · rw [e3] at c
        have : mH m i < 9 := by
          rcases Nat.lt_or_ge (mH m i) 9 with z | z
          · exact z
          · exact absurd (nI_le (a := 9) z (by omega)) c
        exact fin 1 (by rw [ep, if_pos this])
  · rintro K v ⟨s1, s2, s3, s4⟩
    unfold wp_X5_passOn_B2
    simp only [nxt]
    have v1 : vp_in (nI (at0 + 1)) (paN K0) := vp_in_nI (by omega) (by omega)
    rw [s3 39 10 (by omega), e39, nI_1, tNn (by omega), s1 1 (by decide)]
    refine ⟨fun _ => ⟨v1, v1, h _ (fun j hj => ?_) (fun k i hk => ?_) (fun k i => gl_si.trans (s4 k i))⟩, fun c => absurd (Int32.le_refl _) c⟩
    · by_cases e1 : j = 1
      · subst e1
        rw [gi_same]
        exact nI_1 _
      · rw [gi_ni (by omega)]
        by_cases e3 : j < 3
        · rw [s1 j e3]
          have : j = 0 ∨ j = 2 := by omega
          rcases this with rfl | rfl <;> rfl
        · obtain ⟨q, rfl⟩ : ∃ q, j = 3 + q := ⟨j - 3, by omega⟩
          rw [s2 q (by omega), mv3]
          by_cases z : q < n
          · rw [if_pos z]
          · rw [if_neg z]
            show _ = nI (if (mP m).testBit q = true then _ else mH m q)
            rw [bit_big hp (by omega)]
            rfl
    · rw [gi_if, if_neg (by omega)]; exact s3 k i hk
