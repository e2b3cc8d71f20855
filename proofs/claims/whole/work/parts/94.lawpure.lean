/-! PURE: the law's loop -/
theorem law_lt {L p : Nat} (hL : L ≤ 3072) (hp : p < 2 ^ 31) : (Int32.ofNat L - 6 < nI p) ↔ L < p + 6 := by
  have e6 : (6 : Int32).toInt = 6 := by decide
  have eL : (Int32.ofNat L).toInt = (L : Int) := nI_toInt (n := L) (by omega)
  rw [Int32.lt_iff_toInt_lt, Int32.toInt_sub, eL, e6, nI_toInt hp, Int.bmod_eq_of_le (by omega) (by omega)]
  omega
theorem law_pure {L : Nat} {xs : Nat → Int32} {Q : Int32 → St → Prop} {u : St} (hL : L ≤ 3072) (h : Inv u) : ∃ n, wp_L_law_L18 L xs Q n 0 u := by
  simp only [wp_L_law_L18]
  refine lq1 (fun v3 u => ∃ p, v3 = nI p ∧ p ≤ L + 6 ∧ Inv u) (fun v3 _ => L + 12 - Int32.toNatClampNeg v3) ?_ ⟨0, rfl, Nat.zero_le _, h⟩
  rintro K v3 u ⟨p, rfl, hp, h⟩ hK
  unfold wp_L_law_B18
  refine ⟨fun _ => trivial, fun c => ?_⟩
  have hl : p + 6 ≤ L := Nat.not_lt.mp (fun q => c ((law_lt hL (by omega)).mpr q))
  have next : ∀ u', Inv u' → K (nI p + 6) u' := fun u' h' => by
    have e : nI p + (6 : Int32) = nI (p + 6) := nI_add p 6
    rw [e]
    refine hK _ _ ⟨p + 6, rfl, by omega, h'⟩ ?_
    show L + 12 - Int32.toNatClampNeg (nI (p + 6)) < L + 12 - Int32.toNatClampNeg (nI p)
    rw [tNn (by omega), tNn (by omega)]
    omega
  have v : ∀ k, k < 6 → vp_in (nI p + nI k) L := fun k hk => by
    rw [nI_add]
    exact vp_in_nI (by omega) (by omega)
  have v0 : vp_in (nI p) L := vp_in_nI (by omega) (by omega)
  have v1 : vp_in (nI p + 1) L := v 1 (by decide)
  have v2 : vp_in (nI p + 2) L := v 2 (by decide)
  have v3 : vp_in (nI p + 3) L := v 3 (by decide)
  have v4 : vp_in (nI p + 4) L := v 4 (by decide)
  have v5 : vp_in (nI p + 5) L := v 5 (by decide)
  exact ⟨v0, fun _ => ⟨v1, v2, p_row h (fun r u1 N => ⟨v1, v2, N _ (fun u2 h2 => ⟨fun _ => next u2 h2, fun q => q rfl⟩)⟩)⟩,
    fun _ => ⟨v1, v2, v3, p_lay h (fun r u1 N => ⟨v1, v2, v3, N _ (fun u2 h2 => ⟨fun _ => next u2 h2, fun q => q rfl⟩)⟩)⟩,
    fun _ => ⟨v1, v2, p_at h (fun r u1 N => ⟨v1, v2, N _ (fun u2 h2 => ⟨fun _ => next u2 h2, fun q => q rfl⟩)⟩)⟩,
    fun _ => ⟨v1, p_tear h (fun r u1 N => ⟨v1, N _ (fun u2 h2 => ⟨fun _ => next u2 h2, fun q => q rfl⟩)⟩)⟩,
    fun _ => ⟨v1, v2, v3, v4, v5, p_copy h (fun r u1 N => ⟨v1, v2, v3, v4, v5, N _ (fun u2 h2 => ⟨fun _ => next u2 h2, fun q => q rfl⟩)⟩)⟩,
    fun _ => ⟨v1, p_mean h (fun r u1 N => ⟨v1, N _ (fun u2 h2 => ⟨fun _ => next u2 h2, fun q => q rfl⟩)⟩)⟩,
    fun _ => ⟨v1, v2, p_text h (fun r u1 N => ⟨v1, v2, N _ (fun u2 h2 => ⟨fun _ => next u2 h2, fun q => q rfl⟩)⟩)⟩,
    fun _ => ⟨v1, v2, v3, p_put h (fun r u1 N => ⟨v1, v2, v3, N _ (fun u2 h2 => ⟨fun _ => next u2 h2, fun q => q rfl⟩)⟩)⟩,
    fun _ => ⟨v1, p_fault h (fun r u1 N => ⟨v1, N _ (fun u2 h2 => ⟨fun _ => next u2 h2, fun q => q rfl⟩)⟩)⟩,
    fun _ => ⟨v1, p_board h (fun r u1 N => ⟨v1, N _ (fun u2 h2 => ⟨fun _ => next u2 h2, fun q => q rfl⟩)⟩)⟩,
    fun _ => ⟨v1, v2, p_key h (fun r u1 N => ⟨v1, v2, N _ (fun u2 h2 => ⟨fun _ => next u2 h2, fun q => q rfl⟩)⟩)⟩,
    fun _ => ⟨v1, v2, p_mark h (fun r u1 N => ⟨v1, v2, N _ (fun u2 h2 => ⟨fun _ => next u2 h2, fun q => q rfl⟩)⟩)⟩,
    fun _ => ⟨v1, p_reads h (fun r u1 N => ⟨v1, N _ (fun u2 h2 => ⟨fun _ => next u2 h2, fun q => q rfl⟩)⟩)⟩,
    fun _ => ⟨v1, p_press h (fun r u1 N => ⟨v1, N _ (fun u2 h2 => ⟨fun _ => next u2 h2, fun q => q rfl⟩)⟩)⟩,
    fun _ => p_scan h (fun r u1 N => N _ (fun u2 h2 => ⟨fun _ => next u2 h2, fun q => q rfl⟩)),
    fun _ => ⟨v1, p_cut h (fun r u1 N => ⟨v1, N _ (fun u2 h2 => ⟨fun _ => next u2 h2, fun q => q rfl⟩)⟩)⟩,
    fun _ => ⟨v1, p_undo h (fun r u1 N => ⟨v1, N _ (fun u2 h2 => ⟨fun _ => next u2 h2, fun q => q rfl⟩)⟩)⟩,
    fun _ => ⟨v1, p_keep h (fun r u1 N => ⟨v1, N _ (fun u2 h2 => ⟨fun _ => next u2 h2, fun q => q rfl⟩)⟩)⟩,
    fun _ => ⟨v1, p_on h (fun r u1 N => ⟨v1, N _ (fun u2 h2 => ⟨fun _ => next u2 h2, fun q => q rfl⟩)⟩)⟩,
    fun _ => p_told h (fun r u1 N => N _ (fun u2 h2 => ⟨fun _ => next u2 h2, fun q => q rfl⟩)),
    fun _ => p_ghosts h (fun r u1 N => N _ (fun u2 h2 => ⟨fun _ => next u2 h2, fun q => q rfl⟩)),
    fun _ => ⟨v1, p_later h (fun r u1 N => ⟨v1, N _ (fun u2 h2 => ⟨fun _ => next u2 h2, fun q => q rfl⟩)⟩)⟩,
    fun _ => ⟨v1, p_would h (fun r u1 N => ⟨v1, N _ (fun u2 h2 => ⟨fun _ => next u2 h2, fun q => q rfl⟩)⟩)⟩,
    fun _ => ⟨v1, p_haunts h (fun r u1 N => ⟨v1, N _ (fun u2 h2 => ⟨fun _ => next u2 h2, fun q => q rfl⟩)⟩)⟩,
    fun _ => p_right h (fun r u1 N => N _ (fun u2 h2 => ⟨fun _ => next u2 h2, fun q => q rfl⟩)),
    fun _ => p_alike h (fun r u1 N => N _ (fun u2 h2 => ⟨fun _ => next u2 h2, fun q => q rfl⟩)),
    fun _ => p_best h (fun r u1 N => N _ (fun u2 h2 => ⟨fun _ => next u2 h2, fun q => q rfl⟩)),
    fun _ => ⟨v1, v2, p_kinds h (fun r u1 N => ⟨v1, v2, N _ (fun u2 h2 => ⟨fun _ => next u2 h2, fun q => q rfl⟩)⟩)⟩,
    fun _ => ⟨v1, v2, p_places h (fun r u1 N => ⟨v1, v2, N _ (fun u2 h2 => ⟨fun _ => next u2 h2, fun q => q rfl⟩)⟩)⟩,
    fun _ => ⟨v1, v2, p_test h (fun r u1 N => ⟨v1, v2, N _ (fun u2 h2 => ⟨fun _ => next u2 h2, fun q => q rfl⟩)⟩)⟩,
    fun _ => ⟨v1, p_duel h (fun r u1 N => ⟨v1, N _ (fun u2 h2 => ⟨fun _ => next u2 h2, fun q => q rfl⟩)⟩)⟩,
    fun _ => ⟨v1, p_odds h (fun r u1 N => ⟨v1, N _ (fun u2 h2 => ⟨fun _ => next u2 h2, fun q => q rfl⟩)⟩)⟩,
    fun _ => ⟨v1, p_mid h (fun r u1 N => ⟨v1, N _ (fun u2 h2 => ⟨fun _ => next u2 h2, fun q => q rfl⟩)⟩)⟩,
    fun _ => ⟨v1, v2, p_lots h (fun r u1 N => ⟨v1, v2, N _ (fun u2 h2 => ⟨fun _ => next u2 h2, fun q => q rfl⟩)⟩)⟩,
    fun _ => p_asked h (fun r u1 N => N _ (fun u2 h2 => ⟨fun _ => next u2 h2, fun q => q rfl⟩)),
    fun _ => p_upper h (fun r u1 N => N _ (fun u2 h2 => ⟨fun _ => next u2 h2, fun q => q ((lg_cmp_eq _ _).mpr rfl)⟩)),
    fun _ => p_lower h (fun r u1 N => N _ (fun u2 h2 => ⟨fun _ => next u2 h2, fun q => q ((lg_cmp_eq _ _).mpr rfl)⟩)),
    fun _ => ⟨v1, p_count h (fun r u1 N => ⟨v1, N _ (fun u2 h2 => ⟨fun _ => next u2 h2, fun q => q rfl⟩)⟩)⟩,
    fun _ => p_finding h (fun r u1 N => N _ (fun u2 h2 => ⟨fun _ => next u2 h2, fun q => q rfl⟩)),
    fun _ => ⟨v1, p_findings h (fun r u1 N => ⟨v1, N _ (fun u2 h2 => ⟨fun _ => next u2 h2, fun q => q rfl⟩)⟩)⟩,
    fun _ => p_digest h (fun r u1 N => N _ (fun u2 h2 => ⟨fun _ => next u2 h2, fun q => q ((lg_cmp_eq _ _).mpr rfl)⟩)),
    fun _ => next u h⟩
