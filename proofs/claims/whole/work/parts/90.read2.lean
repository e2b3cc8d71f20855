/-! PURE: reading a text: items -/
def freB (b : Bd) (l c : Nat) : Bool := decide (∀ j, j < bN b → ¬ (bL b j = l ∧ bC b j = c))
def psF (b : Bd) (k l c d : Nat) : Bd := (bN b + 1, fun j => if j = bN b then k else bK b j, fun j => if j = bN b then l else bL b j, fun j => if j = bN b then c else bC b j, fun j => if j = bN b then d else bD b j)
def itF (tx : Nat → Int32) (n : Nat) (b : Bd) (a : Nat) : Sum Nat (Nat × Nat × Nat × Nat) :=
  (kdF (tx a)).elim (Sum.inl 0) (fun k => if 7 ≤ bN b then Sum.inl 0 else (fgF tx n (a + 1) 4).elim (Sum.inl 1) (fun l => (fgF tx n (a + 2) 6).elim (Sum.inl 2) (fun c => if freB b l c = true then (fgF tx n (a + 3) 10).elim (Sum.inl 3) (fun d => Sum.inr (k, l, c, d)) else Sum.inl 2)))
theorem ps_ok {b : Bd} {k l c d : Nat} (hb : bdOk b) (hn : bN b < 7) (hk : k < 6) (hl : l < 4) (hc : c < 6) (hd : d < 10) : bdOk (psF b k l c d) := ⟨hn, fun j hj => by
  have hj' : j < bN b + 1 := hj
  show (if j = bN b then k else bK b j) < 6 ∧ (if j = bN b then l else bL b j) < 4 ∧ (if j = bN b then c else bC b j) < 6 ∧ (if j = bN b then d else bD b j) < 10
  by_cases e : j = bN b
  · rw [if_pos e, if_pos e, if_pos e, if_pos e]; exact ⟨hk, hl, hc, hd⟩
  · rw [if_neg e, if_neg e, if_neg e, if_neg e]; exact hb.2 j (by omega)⟩
theorem ps_D {b : Bd} {k l c d : Nat} (hb : bdD b) (hf : freB b l c = true) : bdD (psF b k l c d) := by
  have hf' := of_decide_eq_true hf
  intro i j hi hj e1 e2
  have hi' : i < bN b + 1 := hi
  have hj' : j < bN b + 1 := hj
  have e1' : (if i = bN b then l else bL b i) = (if j = bN b then l else bL b j) := e1
  have e2' : (if i = bN b then c else bC b i) = (if j = bN b then c else bC b j) := e2
  by_cases qi : i = bN b
  · by_cases qj : j = bN b
    · omega
    · rw [if_pos qi, if_neg qj] at e1' e2'
      exact absurd ⟨e1'.symm, e2'.symm⟩ (hf' j (by omega))
  · by_cases qj : j = bN b
    · rw [if_neg qi, if_pos qj] at e1' e2'
      exact absurd ⟨e1', e2'⟩ (hf' i (by omega))
    · rw [if_neg qi, if_neg qj] at e1' e2'
      exact hb i j (by omega) (by omega) e1' e2'
/-- what a text gives: a place, or a board -/
def rdF (tx : Nat → Int32) (n : Nat) : Nat → Bd → Nat → Sum Nat Bd
  | 0, b, a => if a = n then (if 2 ≤ bN b then Sum.inr b else Sum.inl n) else Sum.inl a
  | j + 1, b, a => if a = n then (if 2 ≤ bN b then Sum.inr b else Sum.inl n) else Sum.elim (fun s => Sum.inl (a + s)) (fun (z : Nat × Nat × Nat × Nat) => rdF tx n j (psF b z.1 z.2.1 z.2.2.1 z.2.2.2) (skF tx n (a + 4))) (itF tx n b a)
theorem rd_end {tx : Nat → Int32} {n j : Nat} {b : Bd} : rdF tx n j b n = if 2 ≤ bN b then Sum.inr b else Sum.inl n := by
  cases j with
  | zero => rw [rdF, if_pos rfl]
  | succ j => rw [rdF, if_pos rfl]
theorem rd_full {tx : Nat → Int32} {n a : Nat} {b : Bd} (h : a ≠ n) : rdF tx n 0 b a = Sum.inl a := by rw [rdF, if_neg h]
theorem rd_bad {tx : Nat → Int32} {n a j s : Nat} {b : Bd} (h : a ≠ n) (e : itF tx n b a = Sum.inl s) : rdF tx n (j + 1) b a = Sum.inl (a + s) := by rw [rdF, if_neg h, e]; rfl
theorem rd_ok {tx : Nat → Int32} {n a j k l c d : Nat} {b : Bd} (h : a ≠ n) (e : itF tx n b a = Sum.inr (k, l, c, d)) : rdF tx n (j + 1) b a = rdF tx n j (psF b k l c d) (skF tx n (a + 4)) := by rw [rdF, if_neg h, e]; rfl
/-- X looks at one item -/
theorem s_signs {t n a : Nat} {tx : Nat → Int32} {b : Bd} {u : St} {Q : Int32 → St → Prop} (hC : iC u) (hT : TX 5 6 t n tx u) (hb : bdOk b) (hn7 : bN b < 7) (hL : LX 15 b u) (ha : a < n) (h0 : ∀ s, s < 4 → itF tx n b a = Sum.inl s → Q (nI s) u) (h1 : ∀ k l c d, itF tx n b a = Sum.inr (k, l, c, d) → k < 6 → l < 4 → c < 6 → d < 10 → a + 3 < n → freB b l c = true → Q 4 (si (si (si (si u 16 (bN b) (nI k)) 17 (bN b) (nI l)) 18 (bN b) (nI c)) 19 (bN b) (nI d))) : wp_X0_rightSigns 15 4 (nI t) (nI a) u Q := by
  have hn := hT.2.1
  have v7 : vp_in (nI (bN b)) 7 := vp_in_nI hn7 (by decide)
  unfold wp_X0_rightSigns
  refine get_ok (Sh4 hC) hT.1 hT.2.1 hT.2.2.1 ha (s_letter ?_)
  rw [show gi u (4 + 2) (60 * t + a) = tx a from hT.2.2.2 a ha]
  cases ek : kdF (tx a) with
  | none => exact ⟨fun _ => h0 0 (by decide) (by unfold itF; rw [ek]; rfl), fun q => absurd rfl q⟩
  | some k =>
    have k6 := kd_lt ek
    refine ⟨fun q => absurd q (nI_ne_m9 (by omega)), fun _ => ?_⟩
    rw [hL.1, show nI a + (1 : Int32) = nI (a + 1) from nI_add a 1, show nI a + (2 : Int32) = nI (a + 2) from nI_add a 2, show nI a + (3 : Int32) = nI (a + 3) from nI_add a 3]
    refine ⟨fun _ => s_fig (e := 4) hC hT (by omega) (by decide) ?_, fun c => absurd ((nI_ltI (b := 7) (by omega) (by decide)).mpr hn7) c⟩
    have i1 : itF tx n b a = (fgF tx n (a + 1) 4).elim (Sum.inl 1) (fun l => (fgF tx n (a + 2) 6).elim (Sum.inl 2) (fun c => if freB b l c = true then (fgF tx n (a + 3) 10).elim (Sum.inl 3) (fun d => Sum.inr (k, l, c, d)) else Sum.inl 2)) := by
      unfold itF
      rw [ek]
      show (if 7 ≤ bN b then _ else _) = _
      rw [if_neg (by omega)]
    cases el : fgF tx n (a + 1) 4 with
    | none =>
      rw [el] at i1
      exact ⟨fun q => absurd rfl q, fun _ => h0 1 (by decide) i1⟩
    | some l =>
      rw [el] at i1
      have l4 := (fgF_lt (by decide) el).1
      refine ⟨fun _ => s_fig (e := 6) hC hT (by omega) (by decide) ?_, fun q => absurd q (nI_ne_m9 (by omega))⟩
      cases ec : fgF tx n (a + 2) 6 with
      | none =>
        rw [ec] at i1
        exact ⟨fun _ => h0 2 (by decide) i1, fun q => absurd rfl q⟩
      | some c =>
        rw [ec] at i1
        have c6 := (fgF_lt (by decide) ec).1
        have i2 : itF tx n b a = if freB b l c = true then (fgF tx n (a + 3) 10).elim (Sum.inl 3) (fun d => Sum.inr (k, l, c, d)) else Sum.inl 2 := i1
        refine ⟨fun q => absurd q (nI_ne_m9 (by omega)), fun _ => s_keyAt hb hL l4 c6 (fun z => ⟨fun _ => s_fig (e := 10) hC hT (by omega) (by decide) ?_, fun q => absurd rfl q⟩) (fun j hj q1 q2 => ⟨fun q => absurd q (nI_ne_m9 (by omega)), fun _ => h0 2 (by decide) ?_⟩)⟩
        · have fr : freB b l c = true := decide_eq_true z
          rw [if_pos fr] at i2
          cases ed : fgF tx n (a + 3) 10 with
          | none =>
            rw [ed] at i2
            exact ⟨fun q => absurd rfl q, fun _ => h0 3 (by decide) i2⟩
          | some d =>
            rw [ed] at i2
            have d10 := fgF_lt (by decide) ed
            refine ⟨fun _ => ?_, fun q => absurd q (nI_ne_m9 (by omega))⟩
            simp only [nxt]
            rw [gi_nk (show (15 : Nat) ≠ 18 by decide), gi_nk (show (15 : Nat) ≠ 17 by decide), gi_nk (show (15 : Nat) ≠ 16 by decide), hL.1, tNn (by omega)]
            exact ⟨v7, v7, v7, v7, h1 k l c d i2 k6 l4 c6 d10.1 d10.2 fr⟩
        · rw [i2, if_neg]
          intro q
          exact of_decide_eq_true q j hj ⟨q1, q2⟩
theorem LX.push {b : Bd} {k l c d : Nat} {u : St} (hL : LX 15 b u) : LX 15 (psF b k l c d) (si (si (si (si (si u 16 (bN b) (nI k)) 17 (bN b) (nI l)) 18 (bN b) (nI c)) 19 (bN b) (nI d)) 15 4 (nI (bN b + 1))) := by
  refine ⟨gi_same, fun j hj => ?_⟩
  have hj' : j < bN b + 1 := hj
  show gi _ 16 j = nI (if j = bN b then k else bK b j) ∧ gi _ 17 j = nI (if j = bN b then l else bL b j) ∧ gi _ 18 j = nI (if j = bN b then c else bC b j) ∧ gi _ 19 j = nI (if j = bN b then d else bD b j)
  rw [gi_nk (show (16 : Nat) ≠ 15 by decide), gi_nk (show (16 : Nat) ≠ 19 by decide), gi_nk (show (16 : Nat) ≠ 18 by decide), gi_nk (show (16 : Nat) ≠ 17 by decide), gi_nk (show (17 : Nat) ≠ 15 by decide), gi_nk (show (17 : Nat) ≠ 19 by decide), gi_nk (show (17 : Nat) ≠ 18 by decide), gi_nk (show (18 : Nat) ≠ 15 by decide), gi_nk (show (18 : Nat) ≠ 19 by decide), gi_nk (show (19 : Nat) ≠ 15 by decide)]
  by_cases e : j = bN b
  · subst e
    rw [gi_same, gi_same, gi_same, gi_same, if_pos rfl, if_pos rfl, if_pos rfl, if_pos rfl]
    exact ⟨rfl, rfl, rfl, rfl⟩
  · rw [if_neg e, if_neg e, if_neg e, if_neg e]
    simp only [gi_ni e]
    exact hL.2 j (by omega)
def bd0 : Bd := (0, fun _ => 0, fun _ => 0, fun _ => 0, fun _ => 0)
/-- what X reads -/
theorem s_readX {t n : Nat} {tx : Nat → Int32} {u : St} {Q : Int32 → St → Prop} (hC : iC u) (hT : TX 5 6 t n tx u) (h0 : ∀ p v, rdF tx n 7 bd0 (skF tx n 0) = Sum.inl p → Same (nLay 15) u v → Q (nI p) v) (h1 : ∀ b v, rdF tx n 7 bd0 (skF tx n 0) = Sum.inr b → bdOk b → bdD b → 2 ≤ bN b → LX 15 b v → Same (nLay 15) u v → Q (-9) v) : wp_X0_readFrom 15 4 (nI t) u Q := by
  have hn := hT.2.1
  have sm : ∀ {v : St}, Same (nLay 15) u v → iC v ∧ TX 5 6 t n tx v := fun s => ⟨hC.same s (by unfold nLay; omega) (by unfold nLay; omega) (by unfold nLay; omega), hT.to (fun i => s.1 _ _ (by unfold nLay; omega)) (fun i => s.1 _ _ (by unfold nLay; omega))⟩
  unfold wp_X0_readFrom
  simp only [nxt]
  have s1 : Same (nLay 15) u (si u 15 4 0) := Same.rfl'.si (by unfold nLay; omega)
  refine size_ok (Sh4 (sm s1).1) hT.1 ?_
  rw [show gi (si u 15 4 0) (4 + 1) t = nI n from (sm s1).2.2.2.1]
  refine s_blanks (a := 0) (sm s1).1 (sm s1).2 (Nat.zero_le _) ?_
  simp only [wp_X0_readFrom_L22]
  refine lc3 7 (fun k x y v => x = nI n ∧ ∃ a b, y = nI a ∧ a ≤ n ∧ bN b = k ∧ bdOk b ∧ bdD b ∧ LX 15 b v ∧ Same (nLay 15) u v ∧ rdF tx n (7 - k) b a = rdF tx n 7 bd0 (skF tx n 0)) ⟨rfl, skF tx n 0, bd0, rfl, (sk_le (Nat.zero_le _)).2, rfl, ⟨by decide, fun i hi => absurd hi (Nat.not_lt_zero _)⟩, fun i j hi => absurd hi (Nat.not_lt_zero _), ⟨gi_same, fun i hi => absurd hi (Nat.not_lt_zero _)⟩, s1, rfl⟩ ?_ ?_
  · rintro K k x y v hk ⟨rfl, a, b, rfl, ha, hbk, hb, hD, hL, hs, hr⟩ hK
    have fin : a = n → wp_X0_readFrom_J84 15 4 (nI t) Q (nI n) (nI a) v := fun e => by
      subst e
      rw [rd_end] at hr
      unfold wp_X0_readFrom_J84
      rw [hL.1]
      refine ⟨fun _ => ⟨fun c => ?_, fun c => ?_⟩, fun c => absurd (Int32.le_refl _) c⟩
      · have c2 := (nI_leI (a := 2) (by decide) (by omega)).mp c
        rw [if_pos c2] at hr
        exact h1 b v hr.symm hb hD c2 hL hs
      · rw [if_neg (fun q => c ((nI_leI (a := 2) (by decide) (by omega)).mpr q))] at hr
        exact h0 _ v hr.symm hs
    unfold wp_X0_readFrom_B22
    refine ⟨fun c => absurd c (nI_ge (b := 7) hk (by decide)), fun _ => ⟨fun c => fin (by have := (nI_leI (by omega) (by omega)).mp c; omega), fun c => ?_⟩⟩
    have an : a < n := Nat.not_le.mp (fun q => c ((nI_leI (by omega) (by omega)).mpr q))
    rw [show 7 - k = (7 - (k + 1)) + 1 by omega] at hr
    refine s_signs (sm hs).1 (sm hs).2 hb (by omega) hL an (fun s hs4 e => ⟨fun q => absurd ((nI_leI (a := 4) (by decide) (by omega)).mp q) (by omega), fun _ => ?_⟩) (fun k' l c d e q1 q2 q3 q4 q5 q6 => ⟨fun _ => ?_, fun q => absurd (Int32.le_refl _) q⟩)
    · rw [rd_bad (by omega) e] at hr
      rw [nI_add]
      exact h0 _ v hr.symm hs
    · rw [rd_ok (by omega) e] at hr
      simp only [nxt]
      rw [gi_nk (show (15 : Nat) ≠ 19 by decide), gi_nk (show (15 : Nat) ≠ 18 by decide), gi_nk (show (15 : Nat) ≠ 17 by decide), gi_nk (show (15 : Nat) ≠ 16 by decide), hL.1, nI_1, show nI a + (4 : Int32) = nI (a + 4) from nI_add a 4]
      have hs2 : Same (nLay 15) u (si (si (si (si (si v 16 (bN b) (nI k')) 17 (bN b) (nI l)) 18 (bN b) (nI c)) 19 (bN b) (nI d)) 15 4 (nI (bN b + 1))) := ((((hs.si (by unfold nLay; omega)).si (by unfold nLay; omega)).si (by unfold nLay; omega)).si (by unfold nLay; omega)).si (by unfold nLay; omega)
      refine s_blanks (sm hs2).1 (sm hs2).2 (by omega) ?_
      rw [nI_1]
      exact hK _ _ _ ⟨rfl, skF tx n (a + 4), psF b k' l c d, rfl, (sk_le (by omega)).2, by show bN b + 1 = k + 1; omega, ps_ok hb (by omega) q1 q2 q3 q4, ps_D hD q6, hL.push, hs2, hr⟩
  · rintro K x y v ⟨rfl, a, b, rfl, ha, hbk, hb, hD, hL, hs, hr⟩
    unfold wp_X0_readFrom_B22 wp_X0_readFrom_J84
    refine ⟨fun _ => ⟨fun c => ?_, fun c => ?_⟩, fun c => absurd (Int32.le_refl _) c⟩
    · have e : a = n := by have := (nI_leI (by omega) (by omega)).mp c; omega
      subst e
      rw [rd_end, if_pos (by omega)] at hr
      rw [hL.1]
      exact ⟨fun _ => h1 b v hr.symm hb hD (by omega) hL hs, fun c => absurd ((nI_leI (a := 2) (by decide) (by omega)).mpr (by omega)) c⟩
    · have an : a ≠ n := fun e => c (by rw [e]; exact Int32.le_refl _)
      rw [rd_full an] at hr
      exact h0 _ v hr.symm hs
