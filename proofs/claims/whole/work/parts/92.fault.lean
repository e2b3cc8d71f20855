/-! PURE: fault -/
theorem Inv.draft {u v : St} (h : Inv u) (d : Dr u v) : Inv v := by
  obtain ⟨⟨c1, c2, c3, ⟨c4, c5⟩, b, c6, ⟨ds, nd, c7⟩, c8⟩, h2, h3, h4⟩ := h
  have s : Same (fun k => ¬ (46 ≤ k ∧ k ≤ 49)) u v := ⟨fun k i hk => d.1 k i (by omega), fun k i _ => d.2 k i⟩
  have hn := c6.1.1
  have hB : BM b v := ⟨(s.1 _ _ (by omega)).trans c6.2.2.2.2.1, fun i hi => by
    rw [d.1 46 i (by omega), d.1 47 i (by omega), d.1 48 i (by omega), d.1 49 i (by omega)]
    exact c6.2.2.2.2.2 i hi⟩
  refine ⟨⟨c1.same s (by omega) (by omega) (by omega), c2.same s (by omega) (by omega) (by omega) (by omega), c3.same s (by omega) (by omega) (by omega) (by omega), ⟨(s.1 _ _ (by omega)).trans (c4.trans (s.1 _ _ (by omega)).symm), fun i hi => (s.1 _ _ (by omega)).trans ((c5 i hi).trans (s.1 _ _ (by omega)).symm)⟩, b, ⟨c6.1, c6.2.1, c6.2.2.1, c6.2.2.2.1.same s (fun j hj => by omega), hB⟩, ⟨ds, nd, c7.same s (s.1 _ _ (by omega)) ⟨by omega, by omega, by omega, by omega, by omega⟩⟩, c8.same s ⟨by omega, by omega, by omega, by omega⟩⟩, ?_, ?_, ?_⟩
  · rw [s.1 _ _ (by omega), s.1 _ _ (by omega)]; exact h2
  · rw [s.2 _ _ (by omega), s.2 _ _ (by omega)]; exact h3
  · rw [s.2 _ _ (by omega), s.2 _ _ (by omega)]; exact h4
theorem sub100 (p : Nat) : nI (100 + p) - 100 = nI p := by
  rw [Nat.add_comm]
  exact sub_nI (a := p) (b := 100) rfl
theorem rd_le {tx : Nat → Int32} {n : Nat} (hn : n ≤ 60) : ∀ (j : Nat) (b : Bd) (a : Nat), a ≤ n → ∀ p, rdF tx n j b a = Sum.inl p → p ≤ 70 := by
  intro j
  induction j with
  | zero =>
    intro b a ha p h
    rw [rdF] at h
    split at h
    · split at h
      · cases h
      · cases h; omega
    · cases h; omega
  | succ j ih =>
    intro b a ha p h
    rw [rdF] at h
    split at h
    · split at h
      · cases h
      · cases h; omega
    · cases e : itF tx n b a with
      | inl s =>
        rw [e] at h
        have hs : s ≤ 3 := by
          unfold itF at e
          cases h1 : kdF (tx a) with
          | none => rw [h1] at e; cases e; omega
          | some k =>
            rw [h1] at e
            have e' : (if 7 ≤ bN b then Sum.inl 0 else (fgF tx n (a + 1) 4).elim (Sum.inl 1) (fun l => (fgF tx n (a + 2) 6).elim (Sum.inl 2) (fun c => if freB b l c = true then (fgF tx n (a + 3) 10).elim (Sum.inl 3) (fun d => Sum.inr (k, l, c, d)) else Sum.inl 2)) : Sum Nat (Nat × Nat × Nat × Nat)) = Sum.inl s := e
            split at e'
            · cases e'; omega
            · cases h2 : fgF tx n (a + 1) 4 with
              | none => rw [h2] at e'; cases e'; omega
              | some l =>
                rw [h2] at e'
                cases h3 : fgF tx n (a + 2) 6 with
                | none => rw [h3] at e'; cases e'; omega
                | some c =>
                  rw [h3] at e'
                  have e2 : (if freB b l c = true then (fgF tx n (a + 3) 10).elim (Sum.inl 3) (fun d => Sum.inr (k, l, c, d)) else Sum.inl 2 : Sum Nat (Nat × Nat × Nat × Nat)) = Sum.inl s := e'
                  split at e2
                  · cases h4 : fgF tx n (a + 3) 10 with
                    | none => rw [h4] at e2; cases e2; omega
                    | some d => rw [h4] at e2; cases e2
                  · cases e2; omega
        cases h
        omega
      | inr z =>
        rw [e] at h
        have h' : rdF tx n j (psF b z.1 z.2.1 z.2.2.1 z.2.2.2) (skF tx n (a + 4)) = Sum.inl p := h
        by_cases q : a + 4 ≤ n
        · exact ih _ _ (sk_le q).2 p h'
        · sorry
