/-! PURE: fault -/
theorem Inv.draft {u v : St} (h : Inv u) (d : Dr u v) : Inv v := by
  obtain ⟨⟨c1, c2, c3, ⟨c4, c5⟩, b, c6, ⟨ds, nd, c7⟩, c8⟩, h2, h3, h4⟩ := h
  have s : Same (fun k => ¬ (46 ≤ k ∧ k ≤ 49)) u v := ⟨fun k i hk => d.1 k i (by omega), fun k i _ => d.2 k i⟩
  have hn := c6.1.1
  have hB : BM b v := ⟨(s.1 _ _ (by omega)).trans c6.2.2.2.2.1, fun i hi => by
    rw [d.1 46 i (by omega), d.1 47 i (by omega), d.1 48 i (by omega), d.1 49 i (by omega)]
    exact c6.2.2.2.2.2 i hi⟩
  refine ⟨⟨c1.same s (by omega) (by omega) (by omega), c2.same s (by omega) (by omega) (by omega) (by omega), c3.same s (by omega) (by omega) (by omega) (by omega), ⟨(s.1 _ _ (by omega)).trans (c4.trans (s.1 _ _ (by omega)).symm), fun i hi => (s.1 _ _ (by omega)).trans ((c5 i hi).trans (s.1 _ _ (by omega)).symm)⟩, b, ⟨c6.1, c6.2.1, c6.2.2.1, c6.2.2.2.1.same s (fun j hj => by omega), hB⟩, ⟨ds, nd, c7.same s (s.1 _ _ (by omega)) ⟨by omega, by omega, by omega, by omega, by omega⟩⟩, c8.same s ⟨by omega, by omega, by omega, by omega⟩⟩, ?_, ?_, ?_⟩
  · rw [s.1 _ _ (by omega), s.1 _ _ (by omega)]; exact h2
  · rw [s.2 _ _ (by omega), s.2 _ _ (by omega)]; exact h3
  · rw [s.2 _ _ (by omega), s.2 _ _ (by omega)]; exact h4
theorem sub100 (p : Nat) : nI (100 + p) - 100 = nI p := by
  rw [Nat.add_comm]
  exact sub_nI (a := p) (b := 100) rfl
theorem rd_le {tx : Nat → Int32} {n : Nat} (hn : n ≤ 60) : ∀ (j : Nat) (b : Bd) (a : Nat), a ≤ n → ∀ p, rdF tx n j b a = Sum.inl p → p ≤ 70 := by
  intro j
  induction j with
  | zero =>
    intro b a ha p h
    rw [rdF] at h
    split at h
    · split at h
      · cases h
      · cases h; omega
    · cases h; omega
  | succ j ih =>
    intro b a ha p h
    rw [rdF] at h
    split at h
    · split at h
      · cases h
      · cases h; omega
    · cases e : itF tx n b a with
      | inl s =>
        rw [e] at h
        have hs : s ≤ 3 := by
          unfold itF at e
          cases h1 : kdF (tx a) with
          | none => rw [h1] at e; cases e; omega
          | some k =>
            rw [h1] at e
            have e' : (if 7 ≤ bN b then Sum.inl 0 else (fgF tx n (a + 1) 4).elim (Sum.inl 1) (fun l => (fgF tx n (a + 2) 6).elim (Sum.inl 2) (fun c => if freB b l c = true then (fgF tx n (a + 3) 10).elim (Sum.inl 3) (fun d => Sum.inr (k, l, c, d)) else Sum.inl 2)) : Sum Nat (Nat × Nat × Nat × Nat)) = Sum.inl s := e
            split at e'
            · cases e'; omega
            · cases h2 : fgF tx n (a + 1) 4 with
              | none => rw [h2] at e'; cases e'; omega
              | some l =>
                rw [h2] at e'
                cases h3 : fgF tx n (a + 2) 6 with
                | none => rw [h3] at e'; cases e'; omega
                | some c =>
                  rw [h3] at e'
                  have e2 : (if freB b l c = true then (fgF tx n (a + 3) 10).elim (Sum.inl 3) (fun d => Sum.inr (k, l, c, d)) else Sum.inl 2 : Sum Nat (Nat × Nat × Nat × Nat)) = Sum.inl s := e'
                  split at e2
                  · cases h4 : fgF tx n (a + 3) 10 with
                    | none => rw [h4] at e2; cases e2; omega
                    | some d => rw [h4] at e2; cases e2
                  · cases e2; omega
        cases h
        omega
      | inr z =>
        rw [e] at h
        have h' : rdF tx n j (psF b z.1 z.2.1 z.2.2.1 z.2.2.2) (skF tx n (a + 4)) = Sum.inl p := h
        by_cases q : a + 4 ≤ n
        · exact ih _ _ (sk_le q).2 p h'
        · exfalso
          unfold itF at e
          cases h1 : kdF (tx a) with
          | none => rw [h1] at e; cases e
          | some k =>
            rw [h1] at e
            have e' : (if 7 ≤ bN b then Sum.inl 0 else (fgF tx n (a + 1) 4).elim (Sum.inl 1) (fun l => (fgF tx n (a + 2) 6).elim (Sum.inl 2) (fun c => if freB b l c = true then (fgF tx n (a + 3) 10).elim (Sum.inl 3) (fun d => Sum.inr (k, l, c, d)) else Sum.inl 2)) : Sum Nat (Nat × Nat × Nat × Nat)) = Sum.inr z := e
            split at e'
            · cases e'
            · cases h2 : fgF tx n (a + 1) 4 with
              | none => rw [h2] at e'; cases e'
              | some l =>
                rw [h2] at e'
                cases h3 : fgF tx n (a + 2) 6 with
                | none => rw [h3] at e'; cases e'
                | some c =>
                  rw [h3] at e'
                  have e2 : (if freB b l c = true then (fgF tx n (a + 3) 10).elim (Sum.inl 3) (fun d => Sum.inr (k, l, c, d)) else Sum.inl 2 : Sum Nat (Nat × Nat × Nat × Nat)) = Sum.inr z := e'
                  split at e2
                  · cases h4 : fgF tx n (a + 3) 10 with
                    | none => rw [h4] at e2; cases e2
                    | some d => exact absurd (fgF_lt (by decide) h4).2 (by omega)
                  · cases e2
theorem p_fault {a : Int32} {u : St} (h : Inv u) {K1 : Int32 → St → Prop} (hK : ∀ r u1, Nx (wp_X5_fault a u1) r → K1 r u1) : wp_X4_fault a u K1 := by
  have hC := h.1.1
  have hR := h.1.2.2.1
  unfold wp_X4_fault
  refine refS (Or.inr (Or.inl rfl)) (Sh4 hC) hR.x (fun c => ⟨fun q => absurd q (by decide), fun _ => hK _ _ (fun K2 h2 => ?_)⟩) (fun j hj e1 e2 => ⟨fun q => absurd q (by decide), fun _ => hK _ _ (fun K2 h2 => ?_)⟩) (fun j n hj e1 hn e2 => ⟨fun _ => ?_, fun q => absurd rfl q⟩)
  · unfold wp_X5_fault
    exact text_bad c ⟨fun q => absurd rfl q, fun _ => h2 u h⟩
  · subst e1
    have em := hR.m1 (by decide) hj e2
    unfold wp_X5_fault
    refine text_ok hj ⟨fun _ => ⟨vp_in_nI hj (by decide), ?_⟩, fun q => absurd q (by decide)⟩
    rw [tNn (by omega), show gi (fX 1 u) 43 j = gi u 43 j by unfold fX; rw [gi_nk (by decide), gi_nk (by decide)], em]
    exact ⟨fun q => absurd q (by decide), fun _ => find_ok (f := 1) (by decide) (h2 _ (inv_found (by decide) h))⟩
  · subst e1
    obtain ⟨em, ec⟩ := hR.mn (by decide) hj hn e2
    have hT : TX 5 6 j n (fun i => gi u 6 (60 * j + i)) u := ⟨hj, hn, e2, fun i _ => rfl⟩
    have hM : ∀ v, Same (nLay 15) u v → TX 43 44 j n (fun i => gi u 6 (60 * j + i)) v := fun v s => ⟨hj, hn, (s.1 _ _ (by unfold nLay; omega)).trans em, fun i hi => (s.1 _ _ (by unfold nLay; omega)).trans (ec i hi)⟩
    refine s_readX hC hT (fun p v e s => hK _ _ (fun K2 h2 => ?_)) (fun b v e hb hD h2b hL s => hK _ _ (fun K2 h2 => ?_))
    · have hp := rd_le hn 7 bd0 _ (sk_le (Nat.zero_le _)).2 p e
      unfold wp_X5_fault
      refine text_ok hj ⟨fun _ => ⟨vp_in_nI hj (by decide), ?_⟩, fun q => absurd q (by decide)⟩
      rw [tNn (by omega), (hM v s).2.2.1]
      refine ⟨fun _ => s_readM (hM v s) (fun p' w e' d => ?_) (fun b' w e' hb' hDM d => ?_), fun q => absurd (nI_pos' (by omega)) q⟩
      · rw [e] at e'
        cases e'
        rw [sub100]
        exact ⟨fun _ => h2 w ((h.sx (sx_L s)).draft d), fun q => absurd ((nI_leI (a := 100) (by decide) (by omega)).mpr (by omega)) q⟩
      · rw [e] at e'
        cases e'
    · have hb7 := hb.1
      unfold wp_X5_fault
      refine text_ok hj ⟨fun _ => ⟨vp_in_nI hj (by decide), ?_⟩, fun q => absurd q (by decide)⟩
      rw [tNn (by omega), (hM v s).2.2.1]
      refine ⟨fun _ => s_readM (hM v s) (fun p' w e' d => ?_) (fun b' w e' hb' hDM d => ?_), fun q => absurd (nI_pos' (by omega)) q⟩
      · rw [e] at e'
        cases e'
      · rw [e] at e'
        cases e'
        exact ⟨fun q => absurd ((nI_leI (a := 100) (by decide) (by omega)).mp q) (by omega), fun _ => h2 w ((h.sx (sx_L s)).draft d)⟩
