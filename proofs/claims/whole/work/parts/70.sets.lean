/-! PURE: sets: would, haunts, right, alike -/
def sumN (f : Nat → Nat) : Nat → Nat → Nat
  | _, 0 => 0
  | a, j + 1 => f a + sumN f (a + 1) j
theorem sumN_s (f : Nat → Nat) (a j : Nat) : sumN f a (j + 1) = sumN f a j + f (a + j) := by
  induction j generalizing a with
  | zero => simp [sumN]
  | succ j ih =>
    show f a + sumN f (a + 1) (j + 1) = (f a + sumN f (a + 1) j) + f (a + (j + 1))
    rw [ih (a + 1), show a + 1 + j = a + (j + 1) by omega]
    omega
theorem sumN_le {f : Nat → Nat} {B : Nat} (h : ∀ s, f s ≤ B) (a j : Nat) : sumN f a j ≤ B * j := by
  induction j generalizing a with
  | zero => exact Nat.le_refl _
  | succ j ih =>
    have h1 := ih (a + 1)
    have h2 := h a
    show f a + sumN f (a + 1) j ≤ B * (j + 1)
    rw [Nat.mul_add]
    omega
/-- the least of a stretch, or none -/
def low (P : Nat → Bool) : Nat → Nat → Int32
  | _, 0 => -9
  | a, j + 1 => if P a then nI a else low P (a + 1) j
theorem nI_ne_m9 {n : Nat} (h : n < 2 ^ 31) : ¬ nI n = (-9 : Int32) := by
  intro e
  have := congrArg Int32.toInt e
  rw [nI_toInt h] at this
  have h1 : (-9 : Int32).toInt = -9 := by decide
  omega
theorem low_s (P : Nat → Bool) (a j : Nat) (h : a + j < 2 ^ 31) : low P a (j + 1) = if low P a j = -9 then (if P (a + j) then nI (a + j) else -9) else low P a j := by
  induction j generalizing a with
  | zero =>
    show (if P a then nI a else -9) = if (-9 : Int32) = -9 then (if P (a + 0) then nI (a + 0) else -9) else -9
    rw [if_pos rfl]; rfl
  | succ j ih =>
    show (if P a then nI a else low P (a + 1) (j + 1)) = if (if P a then nI a else low P (a + 1) j) = -9 then _ else (if P a then nI a else low P (a + 1) j)
    by_cases e : P a = true
    · rw [if_pos e, if_pos e, if_neg (nI_ne_m9 (by omega))]
    · rw [if_neg e, if_neg e, ih (a + 1) (by omega), show a + 1 + j = a + (j + 1) by omega]
theorem sets_tab : ∀ n, n ≤ 7 → (if ((1 : Int32) <<< (nI n &&& 31)) < 128 then ((1 : Int32) <<< (nI n &&& 31)) else 128) = nI (2 ^ n) := by decide +kernel
theorem s_sets {c : Nat} {b : Bd} {u : St} {Q : Int32 → St → Prop} (hb : bdOk b) (e : gi u c 4 = nI (bN b)) (h : Q (nI (2 ^ bN b)) u) : wp_X0_sets c u Q := by
  unfold wp_X0_sets
  rw [e, sets_tab _ hb.1]
  exact h
theorem Now.lx {b : Bd} {m : Mt} {nd : Nat} {u : St} (h : Now b m nd u) : LX 10 b u := h.2.2.2.2.1
theorem Now.bm {b : Bd} {m : Mt} {nd : Nat} {u : St} (h : Now b m nd u) : BM b u := h.2.2.2.2.2.1
theorem Now.mx {b : Bd} {m : Mt} {nd : Nat} {u : St} (h : Now b m nd u) : MX 20 m u := h.2.2.2.2.2.2.1
theorem Now.sx {b : Bd} {m : Mt} {nd : Nat} {u v : St} (h : Now b m nd u) (s : SX u v) : Now b m nd v := h.frm s.frm
theorem Now.sm {b : Bd} {m : Mt} {nd : Nat} {u v : St} (h : Now b m nd u) (s : SM u v) : Now b m nd v := h.frm s.frm
theorem Now.a0 {b : Bd} {m : Mt} {nd : Nat} {u : St} {x : Int32} (h : Now b m nd u) : Now b m nd (si u 0 12 x) := h.frm (Frm.rfl'.wr (k := 0) (i := 12) (x := x) (by unfold pers; omega) (fun _ => by decide) (fun q => absurd q (by decide)))
theorem sx_W {u v : St} (h : Same notW u v) : SX u v := h.weak (fun k hk => by unfold notW; omega)
theorem sx_T {u v : St} (h : Same notT u v) : SX u v := h.weak (fun k hk => by unfold notT; omega)
theorem WR.t {u v : St} {b : Bd} {m : Mt} (h : WR b m u) (s : Same notT u v) : WR b m v := h.same s (by unfold notT; omega) (by unfold notT; omega) (by unfold notT; omega)
theorem WR.wr {u : St} {b : Bd} {m : Mt} {k i : Nat} {x : Int32} (h : WR b m u) (hk : k ≠ 24 ∧ k ≠ 25 ∧ k ≠ 26) : WR b m (si u k i x) := h.same (Same.si (P := fun q => q ≠ k) Same.rfl' (fun q => q rfl)) hk.1.symm hk.2.1.symm hk.2.2.symm
theorem SX.wr {u v : St} {k i : Nat} {x : Int32} (h : SX u v) (hk : (15 ≤ k ∧ k ≤ 19) ∨ (22 ≤ k ∧ k ≤ 37)) : SX u (si v k i x) := Same.si h (by omega)
theorem SM.wr {u v : St} {k i : Nat} {x : Int32} (h : SM u v) (hk : k = 45 ∨ (53 ≤ k ∧ k ≤ 60)) : SM u (si v k i x) := Same.si h (by omega)
theorem s_fill {b : Bd} {m : Mt} {nd : Nat} {u : St} {Q : St → Prop} (h : Now b m nd u) (hq : ∀ v, SX u v → (∀ s, s < 2 ^ bN b → gi v 30 s = nI (toldF b m s)) → Q v) : wp_X4_fillBySet u Q := by
  have hn := h.1.1
  have h7 := two7 hn
  unfold wp_X4_fillBySet
  refine s_X3_attach (Or.inl rfl) (Or.inl rfl) h.lx h.mx h.1 h.mt (fun v hw hs => ?_)
  refine s_sets h.1 (h.sx (sx_W hs)).lx.1 ?_
  simp only [wp_X4_fillBySet_L25]
  refine lc2 (2 ^ bN b) (fun k a w => a = nI (2 ^ bN b) ∧ SX u w ∧ WR b m w ∧ ∀ s, s < k → gi w 30 s = nI (toldF b m s)) ⟨rfl, sx_W hs, hw, fun s hs => absurd hs (by omega)⟩ ?_ ?_
  · rintro K k a w hk ⟨rfl, hx, hw, hr⟩ hK
    unfold wp_X4_fillBySet_B25
    refine ⟨fun c => absurd c (nI_ge hk (by omega)), fun _ => s_X3_toldOf h.1 (by omega) hw (fun w' ht => ⟨vp_in_nI (by omega) (by decide), ?_⟩)⟩
    simp only [nxt]
    rw [tNn (by omega), nI_1]
    refine hK _ _ ⟨rfl, (hx.trans (sx_T ht)).wr (by omega), (hw.t ht).wr (by decide), fun s hs => ?_⟩
    by_cases e : s = k
    · subst e
      rw [gi_same]
    · rw [gi_ni e, ht.1 _ _ (by unfold notT; omega)]
      exact hr s (by omega)
  · rintro K a w ⟨rfl, hx, hw, hr⟩
    unfold wp_X4_fillBySet_B25
    exact ⟨fun _ => hq w hx hr, fun c => absurd (Int32.le_refl _) c⟩
theorem nkX {b : Bd} {m : Mt} {nd : Nat} {u : St} (h : Now b m nd u) : (gi u 10 4 = 0) ↔ bN b = 0 := by rw [h.lx.1]; exact nkeys0 h.1
theorem nkM {b : Bd} {m : Mt} {nd : Nat} {u : St} (h : Now b m nd u) : (gi u 39 10 = 0) ↔ bN b = 0 := by rw [h.bm.1]; exact nkeys0 h.1
/-! would -/
theorem setM {b : Bd} {m : Mt} {nd : Nat} {p : Int32} {u : St} {Q : Int32 → St → Prop} (h : Now b m nd u) (bad : (p < 0 ∨ nI (2 ^ bN b) ≤ p) → Q 0 u) (ok : ∀ i, i < 2 ^ bN b → p = nI i → Q 1 u) : wp_X5_isSet p u Q := by
  have h7 := two7 h.1.1
  have hn := h.1.1
  unfold wp_X5_isSet
  rw [h.bm.1, nI_one (by omega)]
  rcases pk_ix p (n := 2 ^ bN b) (by omega) with z | z | ⟨i, hi, rfl⟩
  · exact in_bad0 (by omega) rfl (Or.inl z) ⟨nar0, bad (Or.inl z)⟩
  · exact in_bad0 (by omega) rfl (Or.inr z) ⟨nar0, bad (Or.inr z)⟩
  · exact in_ok0 hi (by omega) rfl ⟨nar1, ok i hi rfl⟩
theorem p_would {a : Int32} {u : St} (h : Inv u) {K1 : Int32 → St → Prop} (hK : ∀ r u1, Nx (wp_X5_would a u1) r → K1 r u1) : wp_X4_would a u K1 := by
  obtain ⟨b, m, nd, hN⟩ := h.now
  have h7 := two7 hN.1.1
  unfold wp_X4_would
  refine s_sets hN.1 hN.lx.1 ?_
  have bad : (a < 0 ∨ nI (2 ^ bN b) ≤ a) → Nx (wp_X5_would a u) (-1) := fun c K2 h2 => by
    unfold wp_X5_would
    exact setM hN (fun _ => ⟨fun q => absurd rfl q, fun _ => h2 u h⟩) (fun i hi e => absurd c (by rw [e]; exact fun q => q.elim (nI_pos (by omega)) (nI_ge hi (by omega))))
  rcases pk_ix a (n := 2 ^ bN b) (by omega) with c | c | ⟨s, hs, rfl⟩
  · exact w_bad (Or.inl c) ⟨fun q => absurd rfl q, fun _ => hK _ _ (bad (Or.inl c))⟩
  · exact w_bad (Or.inr c) ⟨fun q => absurd rfl q, fun _ => hK _ _ (bad (Or.inr c))⟩
  · refine w_ok hs (by omega) ⟨fun _ => ?_, fun q => absurd q (by decide)⟩
    have nobad : ¬ (nI s < 0 ∨ nI (2 ^ bN b) ≤ nI s) := fun q => q.elim (nI_pos (by omega)) (nI_ge hs (by omega))
    refine ⟨fun c0 => ?_, fun c0 => hK _ _ (fun K2 h2 => ?_)⟩
    · refine s_X3_attach (Or.inl rfl) (Or.inl rfl) hN.lx hN.mx hN.1 hN.mt (fun v hw hs1 => s_X3_toldOf hN.1 (by omega) hw (fun w ht => hK _ _ (fun K2 h2 => ?_)))
      have hsx : SX u w := (sx_W hs1).trans (sx_T ht)
      have hNw := hN.sx hsx
      unfold wp_X5_would
      refine setM hNw (fun c => absurd c nobad) (fun i hi e => ⟨fun _ => ⟨fun _ => ?_, fun q => absurd ((nkX hN).mpr ((nkM hNw).mp q)) c0⟩, fun q => absurd q (by decide)⟩)
      refine hNw.take (fun x hx hT => s_toldOfM hN.1 hN.mt (by omega) hT (fun y hy _ => h2 y ((h.sx hsx).sm (hx.trans hy))))
    · unfold wp_X5_would
      exact setM hN (fun c => absurd c nobad) (fun i hi e => ⟨fun _ => ⟨fun q => absurd ((nkM hN).mpr ((nkX hN).mp c0)) q, fun _ => h2 u h⟩, fun q => absurd q (by decide)⟩)
