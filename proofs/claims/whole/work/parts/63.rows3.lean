/-! PURE: copy, mean -/
theorem sub_toInt {a b : Nat} (ha : a < 2 ^ 31) (hb : b < 2 ^ 31) : (nI a - nI b).toInt = (a : Int) - b := by
  rw [Int32.toInt_sub, nI_toInt ha, nI_toInt hb]
  apply Int.bmod_eq_of_le <;> omega
theorem sub_lt {a b n : Nat} (ha : a < 2 ^ 31) (hb : b < 2 ^ 31) (hn : n < 2 ^ 31) : nI a - nI b < nI n ↔ a < b + n := by
  rw [Int32.lt_iff_toInt_lt, sub_toInt ha hb, nI_toInt hn]
  omega
theorem le_sub {a b n : Nat} (ha : a < 2 ^ 31) (hb : b < 2 ^ 31) (hn : n < 2 ^ 31) : nI n ≤ nI a - nI b ↔ b + n ≤ a := by
  rw [Int32.le_iff_toInt_le, sub_toInt ha hb, nI_toInt hn]
  omega
theorem reach_ok {b P w j m i n : Nat} {u : St} {Q : Int32 → St → Prop} (hs : Sh b P w u) (hj : j < P) (hm : gi u (b + 1) j = nI m) (hmw : m ≤ w) (hin : i + n ≤ m) (h : Q 1 u) : wp_X2_reaches b (nI j) (nI i) (nI n) u Q := by
  have := hs.2.2.2.2.2.2
  unfold wp_X2_reaches
  refine ⟨fun c => absurd c (nI_pos (by omega)), fun _ => ⟨fun c => absurd c (nI_pos (by omega)), fun _ => size_ok hs hj ?_⟩⟩
  rw [hm]
  exact ⟨fun c => absurd ((sub_lt (by omega) (by omega) (by omega)).mp c) (by omega), fun _ => h⟩
theorem reach_no {b P w j m n : Nat} {i : Int32} {u : St} {Q : Int32 → St → Prop} (hs : Sh b P w u) (hj : j < P) (hm : gi u (b + 1) j = nI m) (hmw : m ≤ w) (hn : n < 2 ^ 31) (hb : ∀ k, i = nI k → k < 2 ^ 31 → m < k + n) (h : Q 0 u) : wp_X2_reaches b (nI j) i (nI n) u Q := by
  have := hs.2.2.2.2.2.2
  unfold wp_X2_reaches
  refine ⟨fun _ => h, fun c => ⟨fun c2 => absurd c2 (nI_pos hn), fun _ => size_ok hs hj ?_⟩⟩
  obtain ⟨k, hk, rfl⟩ := nI_of c
  rw [hm]
  exact ⟨fun _ => h, fun c => absurd ((sub_lt (by omega) hk hn).mpr (hb k rfl hk)) c⟩
theorem move_ok {b P w j m i j2 m2 i2 n : Nat} {u : St} {Q : St → Prop} (hs : Sh b P w u) (hj : j < P) (hm : gi u (b + 1) j = nI m) (hmw : m ≤ w) (hin : i + n ≤ m) (hj2 : j2 < P) (hm2 : gi u (b + 1) j2 = nI m2) (hmw2 : m2 ≤ w) (hin2 : i2 + n ≤ m2) (h : Q (sc u (b + 2) (w * j + i) (w * j2 + i2) n)) : wp_X2_move b (nI j) (nI i) (nI j2) (nI i2) (nI n) u Q := by
  obtain ⟨h0, h1, h2, h3, h4, h5, h6⟩ := id hs
  have b1 := shS_le b
  have b2 := shC_le b
  have a1 : j * w + w ≤ P * w := by
    have := Nat.mul_le_mul_right w (show j + 1 ≤ P by omega)
    rw [Nat.add_mul] at this
    omega
  have a2 : j2 * w + w ≤ P * w := by
    have := Nat.mul_le_mul_right w (show j2 + 1 ≤ P by omega)
    rw [Nat.add_mul] at this
    omega
  unfold wp_X2_move
  refine reach_ok hs hj hm hmw hin ⟨fun c => absurd c (by decide), fun _ => reach_ok hs hj2 hm2 hmw2 hin2 ⟨fun c => absurd c (by decide), fun _ => ?_⟩⟩
  rw [h1, pk_mul, pk_mul, nI_add, nI_add, tNn (by omega), tNn (by omega), tNn (by omega)]
  refine ⟨nI_pos (by omega), nI_pos (by omega), nI_pos (by omega), by omega, by omega, ?_⟩
  simp only [nxt]
  rw [Nat.mul_comm j w, Nat.mul_comm j2 w]
  exact h
theorem cp_bey {r i t j n : Int32} {u : St} {K2 : Int32 → St → Prop} (h : K2 (-3) (fM 2 u)) : wp_X5_copy_J87 r i t j n K2 u := find_ok (f := 2) (by decide) h
theorem cp_not {r i t j n : Int32} {u : St} {K2 : Int32 → St → Prop} (h : K2 (-3) (fM 1 u)) : wp_X5_copy_J45 r i t j n K2 u := find_ok (f := 1) (by decide) h
/-- the reference's copy, once both rows are there -/
theorem cpM {j1 m1 j2 m2 n : Nat} {i j : Int32} {u : St} {Q : Int32 → St → Prop} (hj1 : j1 < 6) (hj2 : j2 < 6) (hn : n < 2 ^ 31) (e1 : gi u 41 j1 = nI m1) (h1 : m1 ≤ 40) (e2 : gi u 41 j2 = nI m2) (h2 : m2 ≤ 40)
    (bey : (∀ k, i = nI k → k < 2 ^ 31 → m1 < k + n) ∨ (∀ k, j = nI k → k < 2 ^ 31 → m2 < k + n) → Q (-3) (fM 2 u))
    (ok : ∀ a b, i = nI a → j = nI b → a + n ≤ m1 → b + n ≤ m2 → ∀ v, (∀ k q, k ≠ 45 → k ≠ 42 → gi v k q = gi u k q) → (∀ k q, gl v k q = gl u k q) → (∀ q, gi v 42 q = if 40 * j2 + b ≤ q ∧ q < 40 * j2 + b + n then gi u 42 (40 * j1 + a + (q - (40 * j2 + b))) else gi u 42 q) → Q 1 v) : wp_X5_copy (nI j1) i (nI j2) j (nI n) u Q := by
  unfold wp_X5_copy
  refine row_ok hj1 ⟨fun c => absurd c (by decide), fun _ => row_ok hj2 ⟨fun _ => ⟨fun _ => ⟨vp_in_nI hj1 (by decide), ?_⟩, fun c => absurd (nI_pos' hn) c⟩, fun c => absurd c (by decide)⟩⟩
  rw [tNn (by omega), tNn (by omega), e1, e2]
  refine ⟨fun c => absurd c (nI_pos (by omega)), fun _ => ⟨vp_in_nI hj2 (by decide), fun _ => ⟨fun c => cp_bey (bey (Or.inl (fun k hk hl => absurd (hk ▸ c) (nI_pos hl)))), fun c => ?_⟩, fun c => absurd (nI_pos' (by omega)) c⟩⟩
  obtain ⟨a, ha, rfl⟩ := nI_of c
  refine ⟨vp_in_nI hj1 (by decide), fun c => cp_bey (bey (Or.inl (fun k hk hl => ?_))), fun c1 => ?_⟩
  · have : a = k := (nI_eq ha hl).mp hk
    subst this
    have := (sub_lt (by omega) hn ha).mp c
    omega
  · have q1 : a + n ≤ m1 := by
      rcases Nat.lt_or_ge m1 (n + a) with z | z
      · exact absurd ((sub_lt (by omega) hn ha).mpr z) c1
      · omega
    refine ⟨fun c => cp_bey (bey (Or.inr (fun k hk hl => absurd (hk ▸ c) (nI_pos hl)))), fun c => ?_⟩
    obtain ⟨b, hb, rfl⟩ := nI_of c
    refine ⟨vp_in_nI hj2 (by decide), fun c2 => ?_, fun c2 => cp_bey (bey (Or.inr (fun k hk hl => ?_)))⟩
    · have q2 := (le_sub (by omega) hn hb).mp c2
      simp only [wp_X5_copy_L96]
      refine lc1 n (fun q v => (∀ k x, k ≠ 45 → gi v k x = gi u k x) ∧ (∀ k x, gl v k x = gl u k x) ∧ ∀ x, x < q → gi v 45 x = gi u 42 (40 * j1 + a + x)) ⟨fun _ _ _ => rfl, fun _ _ => rfl, fun x hx => absurd hx (by omega)⟩ ?_ ?_
      · rintro K q v hq ⟨s1, s2, s3⟩ hK
        unfold wp_X5_copy_B96
        simp only [nxt]
        rw [show (40 : Int32) = nI 40 from rfl, pk_mul, nI_add, nI_add, tNn (by omega), tNn (by omega), nI_1]
        refine ⟨fun c => absurd c (nI_ge hq hn), fun _ => ⟨vp_in_nI (by omega) (by decide), vp_in_nI (by omega) (by decide), hK _ ⟨fun k x hk => ?_, fun k x => gl_si.trans (s2 k x), fun x hx => ?_⟩⟩⟩
        · rw [gi_nk hk]; exact s1 k x hk
        · rw [gi_if]
          by_cases e : x = q
          · subst e
            rw [if_pos ⟨rfl, rfl⟩]; exact s1 _ _ (by decide)
          · rw [if_neg (by omega)]; exact s3 x (by omega)
      · rintro K v ⟨s1, s2, s3⟩
        unfold wp_X5_copy_B96
        refine ⟨fun _ => ?_, fun c => absurd (Int32.le_refl _) c⟩
        simp only [wp_X5_copy_L133]
        refine lc1 n (fun q w => (∀ k x, k ≠ 42 → gi w k x = gi v k x) ∧ (∀ k x, gl w k x = gl v k x) ∧ ∀ x, gi w 42 x = if 40 * j2 + b ≤ x ∧ x < 40 * j2 + b + q then gi u 42 (40 * j1 + a + (x - (40 * j2 + b))) else gi u 42 x) ⟨fun _ _ _ => rfl, fun _ _ => rfl, fun x => by rw [if_neg (by omega)]; exact s1 _ _ (by decide)⟩ ?_ ?_
        · rintro K q w hq ⟨t1, t2, t3⟩ hK
          unfold wp_X5_copy_B133
          simp only [nxt]
          rw [show (40 : Int32) = nI 40 from rfl, pk_mul, nI_add, nI_add, tNn (by omega), tNn (by omega), nI_1]
          refine ⟨fun c => absurd c (nI_ge hq hn), fun _ => ⟨vp_in_nI (by omega) (by decide), vp_in_nI (by omega) (by decide), hK _ ⟨fun k x hk => ?_, fun k x => gl_si.trans (t2 k x), fun x => ?_⟩⟩⟩
          · rw [gi_nk hk]; exact t1 k x hk
          · rw [gi_if]
            by_cases e : x = 40 * j2 + b + q
            · rw [if_pos ⟨rfl, e⟩, if_pos (by omega), t1 _ _ (by decide), s3 q hq]
              congr 1
              omega
            · rw [if_neg (by omega), t3 x]
              by_cases z : 40 * j2 + b ≤ x ∧ x < 40 * j2 + b + q
              · rw [if_pos z, if_pos (by omega)]
              · rw [if_neg z, if_neg (by omega)]
        · rintro K w ⟨t1, t2, t3⟩
          unfold wp_X5_copy_B133
          exact ⟨fun _ => ok a b rfl rfl q1 (by omega) w (fun k q h45 h42 => (t1 k q h42).trans (s1 k q h45)) (fun k q => (t2 k q).trans (s2 k q)) t3, fun c => absurd (Int32.le_refl _) c⟩
    · have : b = k := (nI_eq hb hl).mp hk
      subst this
      rcases Nat.lt_or_ge m2 (b + n) with z | z
      · exact z
      · exact absurd ((le_sub (by omega) hn hb).mpr (by omega)) c2
theorem p_copy {r i t j n : Int32} {u : St} (h : Inv u) {K1 : Int32 → St → Prop} (hK : ∀ x u1, Nx (wp_X5_copy r i t j n u1) x → K1 x u1) : wp_X4_copy r i t j n u K1 := by
  have hC := h.1.1
  have hR := h.1.2.1
  unfold wp_X4_copy
  have badr : (r < 0 ∨ nI 6 ≤ r) → Nx (wp_X5_copy r i t j n u) (-1) := fun c K2 h2 => by
    unfold wp_X5_copy
    exact row_bad c ⟨fun _ => h2 u h, fun q => absurd rfl q⟩
  rcases pk_ix r (n := 6) (by decide) with c | c | ⟨j1, hj1, rfl⟩
  · exact w_bad (Or.inl c) ⟨fun _ => hK _ _ (badr (Or.inl c)), fun q => absurd rfl q⟩
  · exact w_bad (Or.inr c) ⟨fun _ => hK _ _ (badr (Or.inr c)), fun q => absurd rfl q⟩
  · refine w_ok (P := 6) hj1 (by decide) ⟨fun q => absurd q (by decide), fun _ => ?_⟩
    have badt : (t < 0 ∨ nI 6 ≤ t) → Nx (wp_X5_copy (nI j1) i t j n u) (-1) := fun c K2 h2 => by
      unfold wp_X5_copy
      exact row_ok hj1 ⟨fun q => absurd q (by decide), fun _ => row_bad c ⟨fun q => absurd rfl q, fun _ => h2 u h⟩⟩
    rcases pk_ix t (n := 6) (by decide) with c | c | ⟨j2, hj2, rfl⟩
    · exact w_bad (Or.inl c) ⟨fun q => absurd rfl q, fun _ => hK _ _ (badt (Or.inl c))⟩
    · exact w_bad (Or.inr c) ⟨fun q => absurd rfl q, fun _ => hK _ _ (badt (Or.inr c))⟩
    · refine w_ok (P := 6) hj2 (by decide) ⟨fun _ => ⟨fun c => ?_, fun c => found_ok (f := 5) (by decide) (hK _ _ (fun K2 h2 => ?_))⟩, fun q => absurd q (by decide)⟩
      · obtain ⟨n, hn, rfl⟩ := nI_of (Int32.not_lt.mpr c)
        have nothing : gi u 2 j1 = -1 ∨ gi u 2 j2 = -1 → Nx (wp_X5_copy (nI j1) i (nI j2) j (nI n) (fX 1 u)) (-3) := fun c' K2 h2 => by
          unfold wp_X5_copy
          refine row_ok hj1 ⟨fun q => absurd q (by decide), fun _ => row_ok hj2 ⟨fun _ => ⟨fun _ => ⟨vp_in_nI hj1 (by decide), ?_⟩, fun q => absurd c q⟩, fun q => absurd q (by decide)⟩⟩
          rw [tNn (by omega), tNn (by omega), fX_m 1 u j1 (by decide) (by decide), fX_m 1 u j2 (by decide) (by decide)]
          have fin := cp_not (r := nI j1) (i := i) (t := nI j2) (j := j) (n := nI n) (h2 _ (inv_found (f := 1) (by decide) h))
          rcases hR.x j1 hj1 with e | ⟨m1, hm1, e⟩
          · have := hR.m1 (by decide) hj1 e
            rw [this]
            exact ⟨fun _ => fin, fun q => absurd m1_lt0 q⟩
          · rw [(hR.mn (by decide) hj1 hm1 e).1]
            refine ⟨fun q => absurd q (nI_pos (by omega)), fun _ => ⟨vp_in_nI hj2 (by decide), ?_⟩⟩
            have e2 : gi u 2 j2 = -1 := c'.elim (fun z => absurd (e.symm.trans z) (nI_ne_m1 (by omega))) id
            rw [hR.m1 (by decide) hj2 e2]
            exact ⟨fun q => absurd q (by decide), fun _ => fin⟩
        rcases hR.x j1 hj1 with e1 | ⟨m1, hm1, e1⟩
        · exact has_no (Sh1 hC) hj1 e1 ⟨fun _ => found_ok (f := 1) (by decide) (hK _ _ (nothing (Or.inl e1))), fun q => absurd rfl q⟩
        · refine has_yes (Sh1 hC) hj1 hm1 e1 ⟨fun q => absurd q (by decide), fun _ => ?_⟩
          rcases hR.x j2 hj2 with e2 | ⟨m2, hm2, e2⟩
          · exact has_no (Sh1 hC) hj2 e2 ⟨fun q => absurd rfl q, fun _ => found_ok (f := 1) (by decide) (hK _ _ (nothing (Or.inr e2)))⟩
          · refine has_yes (Sh1 hC) hj2 hm2 e2 ⟨fun _ => ?_, fun q => absurd q (by decide)⟩
            obtain ⟨em1, ec1⟩ := hR.mn (by decide) hj1 hm1 e1
            obtain ⟨em2, ec2⟩ := hR.mn (by decide) hj2 hm2 e2
            have beyond : (∀ k, i = nI k → k < 2 ^ 31 → m1 < k + n) ∨ (∀ k, j = nI k → k < 2 ^ 31 → m2 < k + n) → Nx (wp_X5_copy (nI j1) i (nI j2) j (nI n) (fX 2 u)) (-3) := fun c' K2 h2 => by
              refine cpM hj1 hj2 hn (by rw [fX_m 2 u j1 (by decide) (by decide)]; exact em1) hm1 (by rw [fX_m 2 u j2 (by decide) (by decide)]; exact em2) hm2 (fun _ => h2 _ (inv_found (f := 2) (by decide) h)) (fun a b ei ej ha hb v _ _ _ => ?_)
              rcases c' with z | z
              · exact absurd (z a ei (by omega)) (by omega)
              · exact absurd (z b ej (by omega)) (by omega)
            by_cases q1 : ∃ a, i = nI a ∧ a + n ≤ m1
            · obtain ⟨a, rfl, ha⟩ := q1
              refine reach_ok (Sh1 hC) hj1 e1 hm1 ha ⟨fun q => absurd q (by decide), fun _ => ?_⟩
              by_cases q2 : ∃ b, j = nI b ∧ b + n ≤ m2
              · obtain ⟨b, rfl, hb⟩ := q2
                refine reach_ok (Sh1 hC) hj2 e2 hm2 hb ⟨fun _ => ?_, fun q => absurd q (by decide)⟩
                refine move_ok (Sh1 hC) hj1 e1 hm1 ha hj2 e2 hm2 hb (hK _ _ (fun K2 h2 => ?_))
                have s3 : ∀ k x, k ≠ 3 → gi (sc u (1 + 2) (40 * j1 + a) (40 * j2 + b) n) k x = gi u k x := fun k x hk => by rw [gi_sc, if_neg (by omega)]
                refine cpM hj1 hj2 hn (by rw [s3 _ _ (by decide)]; exact em1) hm1 (by rw [s3 _ _ (by decide)]; exact em2) hm2 (fun c' => ?_) (fun a' b' ei ej ha' hb' v v1 v2 v3 => ?_)
                · rcases c' with z | z
                  · exact absurd (z a rfl (by omega)) (by omega)
                  · exact absurd (z b rfl (by omega)) (by omega)
                · have : a = a' := (nI_eq (by omega) (by omega)).mp ei
                  subst this
                  have : b = b' := (nI_eq (by omega) (by omega)).mp ej
                  subst this
                  refine h2 v ?_
                  have rd : ∀ k x, k ≠ 3 → k ≠ 45 → k ≠ 42 → gi v k x = gi u k x := fun k x h3 h45 h42 => (v1 k x h45 h42).trans (s3 k x h3)
                  have hs : Same (fun k => k ≠ 3 ∧ k ≠ 45 ∧ k ≠ 42) u v := ⟨fun k x hk => rd k x hk.1 hk.2.1 hk.2.2, fun k x _ => v2 k x⟩
                  obtain ⟨⟨c1, c2, c3, ⟨c4, c5⟩, bb, c6, ⟨ds, nd, c7⟩, c8⟩, a1, a2, a3⟩ := id h
                  refine ⟨⟨c1.same hs (by decide) (by decide) (by decide), ?_, c3.same hs (by decide) (by decide) (by decide) (by decide), ⟨?_, fun f hf => ?_⟩, bb, c6.same hs (hs.1 _ _ (by decide)) (by decide) (fun q hq => by omega), ⟨ds, nd, c7.same hs (hs.1 _ _ (by decide)) (by decide)⟩, c8.same hs (by decide)⟩, ?_, ?_, ?_⟩
                  · have e3 : ∀ x, gi v 3 x = gi (sc u (1 + 2) (40 * j1 + a) (40 * j2 + b) n) 3 x := fun x => v1 _ _ (by decide) (by decide)
                    refine hR.upd (j := j2) (n := m2) hm2 (by rw [rd _ _ (by decide) (by decide) (by decide)]; exact e2) (by rw [rd _ _ (by decide) (by decide) (by decide)]; exact em2) (fun x hx => ?_) (fun r hr hne => ⟨rd _ _ (by decide) (by decide) (by decide), rd _ _ (by decide) (by decide) (by decide), fun x hx => ⟨?_, ?_⟩⟩)
                    · rw [v3, s3 42 _ (by decide), s3 42 _ (by decide), e3, gi_sc]
                      by_cases z : 40 * j2 + b ≤ 40 * j2 + x ∧ 40 * j2 + x < 40 * j2 + b + n
                      · rw [if_pos z, if_pos ⟨rfl, z⟩]
                        have := ec1 (a + (40 * j2 + x - (40 * j2 + b))) (by omega)
                        rw [← Nat.add_assoc] at this
                        exact this
                      · rw [if_neg z, if_neg (fun q => z q.2)]
                        exact ec2 x hx
                    · have := apart (w := 40) (lo := 40) hx hne (by omega)
                      rw [e3, gi_sc, if_neg (by omega)]
                    · have := apart (w := 40) (lo := 40) hx hne (by omega)
                      rw [v3, if_neg (by omega), s3 _ _ (by decide)]
                  · rw [hs.1 _ _ (by decide), hs.1 _ _ (by decide)]; exact c4
                  · rw [hs.1 _ _ (by decide), hs.1 _ _ (by decide)]; exact c5 f hf
                  · rw [hs.1 _ _ (by decide), hs.1 _ _ (by decide)]; exact a1
                  · rw [hs.2 _ _ (by decide), hs.2 _ _ (by decide)]; exact a2
                  · rw [hs.2 _ _ (by decide), hs.2 _ _ (by decide)]; exact a3
              · have z : ∀ k, j = nI k → k < 2 ^ 31 → m2 < k + n := fun k hk hl => by
                  rcases Nat.lt_or_ge m2 (k + n) with y | y
                  · exact y
                  · exact absurd ⟨k, hk, y⟩ q2
                exact reach_no (Sh1 hC) hj2 e2 hm2 hn z ⟨fun q => absurd rfl q, fun _ => found_ok (f := 2) (by decide) (hK _ _ (beyond (Or.inr z)))⟩
            · have z : ∀ k, i = nI k → k < 2 ^ 31 → m1 < k + n := fun k hk hl => by
                rcases Nat.lt_or_ge m1 (k + n) with y | y
                · exact y
                · exact absurd ⟨k, hk, y⟩ q1
              exact reach_no (Sh1 hC) hj1 e1 hm1 hn z ⟨fun _ => found_ok (f := 2) (by decide) (hK _ _ (beyond (Or.inl z))), fun q => absurd rfl q⟩
      · unfold wp_X5_copy
        exact row_ok hj1 ⟨fun q => absurd q (by decide), fun _ => row_ok hj2 ⟨fun _ => ⟨fun q => absurd q c, fun _ => find_ok (f := 5) (by decide) (h2 _ (inv_found (by decide) h))⟩, fun q => absurd q (by decide)⟩⟩
/-! mean -/
def sumL (f : Nat → Int64) : Nat → Int64
  | 0 => 0
  | k + 1 => sumL f k + f k
theorem sumL_congr {f g : Nat → Int64} {k : Nat} (h : ∀ i, i < k → f i = g i) : sumL f k = sumL g k := by
  induction k with
  | zero => rfl
  | succ k ih => show sumL f k + f k = sumL g k + g k; rw [ih (fun i hi => h i (by omega)), h k (by omega)]
theorem sum_ok {b P w j n : Nat} {u : St} {Q : Int64 → St → Prop} (hs : Sh b P w u) (hj : j < P) (hn : n ≤ w) (hm : gi u (b + 1) j = nI n) (h : Q (sumL (fun i => (gi u (b + 2) (w * j + i)).toInt64) n) u) : wp_X2_sum b (nI j) u Q := by
  have := hs.2.2.2.2.2.2
  unfold wp_X2_sum
  refine size_ok hs hj ?_
  rw [hm]
  simp only [wp_X2_sum_L12]
  refine lc3 n (fun i a c v => v = u ∧ c = nI n ∧ a = sumL (fun i => (gi u (b + 2) (w * j + i)).toInt64) i) ⟨rfl, rfl, rfl⟩ ?_ ?_
  · rintro K i a c v hi ⟨rfl, rfl, rfl⟩ hK
    unfold wp_X2_sum_B12
    refine ⟨fun c => absurd c (nI_ge hi (by omega)), fun _ => get_ok hs hj hn hm hi ?_⟩
    rw [nI_1]
    exact hK _ _ _ ⟨rfl, rfl, rfl⟩
  · rintro K a c v ⟨rfl, rfl, rfl⟩
    unfold wp_X2_sum_B12
    exact ⟨fun _ => h, fun c => absurd (Int32.le_refl _) c⟩
theorem lN_ne0 {n : Nat} (h0 : 0 < n) (hn : n < 2 ^ 31) : ¬ (nI n).toInt64 = 0 := by
  rw [nI_l hn]
  intro e
  have := (lN_eq (a := n) (b := 0) hn (by decide)).mp e
  omega
theorem p_mean {a : Int32} {u : St} (h : Inv u) {K1 : Int32 → St → Prop} (hK : ∀ r u1, Nx (wp_X5_mean a u1) r → K1 r u1) : wp_X4_mean a u K1 := by
  have hC := h.1.1
  have hR := h.1.2.1
  unfold wp_X4_mean
  refine refS (Or.inl rfl) (Sh1 hC) hR.x (fun c => ⟨fun q => absurd q (by decide), fun _ => hK _ _ (fun K2 h2 => ?_)⟩) (fun j hj e1 e2 => ⟨fun q => absurd q (by decide), fun _ => hK _ _ (fun K2 h2 => ?_)⟩) (fun j n hj e1 hn e2 => ⟨fun _ => ?_, fun q => absurd rfl q⟩)
  · unfold wp_X5_mean
    exact row_bad c ⟨fun q => absurd rfl q, fun _ => h2 u h⟩
  · subst e1
    unfold wp_X5_mean
    refine row_ok hj ⟨fun _ => ⟨vp_in_nI hj (by decide), ?_⟩, fun q => absurd q (by decide)⟩
    rw [tNn (by omega), fX_m 1 u j (by decide) (by decide), hR.m1 (by decide) hj e2]
    exact ⟨fun q => absurd q (by decide), fun _ => find_ok (f := 1) (by decide) (h2 _ (inv_found (by decide) h))⟩
  · subst e1
    obtain ⟨em, ec⟩ := hR.mn (by decide) hj hn e2
    refine size_ok (Sh1 hC) hj ?_
    rw [e2]
    refine ⟨fun c => ?_, fun c => ?_⟩
    · have hn0 : 0 < n := (nI_ltI (a := 0) (by decide) (by omega)).mp c
      refine sum_ok (Sh1 hC) hj hn e2 ⟨lN_ne0 hn0 (by omega), ?_⟩
      simp only [nxt]
      refine hK _ _ (fun K2 h2 => ?_)
      unfold wp_X5_mean
      refine row_ok hj ⟨fun _ => ⟨vp_in_nI hj (by decide), ?_⟩, fun q => absurd q (by decide)⟩
      rw [tNn (by omega), gi_nk (show (41 : Nat) ≠ 0 by decide), em]
      refine ⟨fun _ => ⟨vp_in_nI hj (by decide), fun _ => ?_, fun q => absurd q (nI_ne0 hn0 (by omega))⟩, fun q => absurd (nI_pos' (by omega)) q⟩
      simp only [wp_X5_mean_L44]
      obtain ⟨u1, hu1⟩ : ∃ u1, u1 = si u 0 12 (sumL (fun i => (gi u (1 + 2) (40 * j + i)).toInt64) n / (nI n).toInt64).toInt32 := ⟨_, rfl⟩
      rw [← hu1]
      refine lc2 n (fun i x v => v = u1 ∧ x = sumL (fun i => (gi u 42 (40 * j + i)).toInt64) i) ⟨rfl, rfl⟩ ?_ ?_
      · rintro K i x v hi ⟨rfl, rfl⟩ hK'
        unfold wp_X5_mean_B44
        rw [tNn (by omega), show gi v 41 j = nI n by rw [hu1, gi_nk (by decide)]; exact em, show (40 : Int32) = nI 40 from rfl, pk_mul, nI_add, tNn (by omega), nI_1]
        refine ⟨vp_in_nI hj (by decide), fun c => absurd c (nI_ge hi (by omega)), fun _ => ⟨vp_in_nI (by omega) (by decide), hK' _ _ ⟨rfl, ?_⟩⟩⟩
        rw [show gi v 42 (40 * j + i) = gi u 42 (40 * j + i) by rw [hu1, gi_nk (by decide)]]
        rfl
      · rintro K x v ⟨rfl, rfl⟩
        unfold wp_X5_mean_B44 wp_X5_tellAsked
        rw [tNn (by omega), show gi v 41 j = nI n by rw [hu1, gi_nk (by decide)]; exact em]
        refine ⟨vp_in_nI hj (by decide), fun _ => ⟨vp_in_nI hj (by decide), lN_ne0 hn0 (by omega), ?_⟩, fun c => absurd (Int32.le_refl _) c⟩
        simp only [nxt]
        refine h2 _ ?_
        rw [sumL_congr (fun i hi => by rw [ec i hi]), hu1]
        refine ⟨h.1.frm ((Frm.rfl'.wr (by unfold pers; omega) (fun _ => by decide) (fun q => absurd q (by decide))).wr (by unfold pers; omega) (fun q => absurd q (by decide)) (fun _ => by decide)), ?_, h.2.2.1, h.2.2.2⟩
        rw [gi_same, gi_nk (by decide), gi_same]
    · have hn0 : n = 0 := by
        rcases Nat.eq_zero_or_pos n with z | z
        · exact z
        · exact absurd ((nI_ltI (a := 0) (by decide) (by omega)).mpr z) c
      subst hn0
      refine found_ok (f := 4) (by decide) (hK _ _ (fun K2 h2 => ?_))
      unfold wp_X5_mean
      refine row_ok hj ⟨fun _ => ⟨vp_in_nI hj (by decide), ?_⟩, fun q => absurd q (by decide)⟩
      rw [tNn (by omega), fX_m 4 u j (by decide) (by decide), em]
      exact ⟨fun _ => ⟨vp_in_nI hj (by decide), fun q => absurd rfl q, fun _ => find_ok (f := 4) (by decide) (h2 _ (inv_found (by decide) h))⟩, fun q => absurd (by decide) q⟩
