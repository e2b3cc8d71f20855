/-! PURE: places -/
def lowV (P : Nat → Bool) (V : Nat → Nat) : Nat → Nat → Int32
  | _, 0 => -9
  | a, j + 1 => if P a then nI (V a) else lowV P V (a + 1) j
theorem lowV_s (P : Nat → Bool) (V : Nat → Nat) (hV : ∀ a, V a < 2 ^ 31) (a j : Nat) : lowV P V a (j + 1) = if lowV P V a j = -9 then (if P (a + j) then nI (V (a + j)) else -9) else lowV P V a j := by
  induction j generalizing a with
  | zero =>
    show (if P a then nI (V a) else -9) = if (-9 : Int32) = -9 then (if P (a + 0) then nI (V (a + 0)) else -9) else -9
    rw [if_pos rfl]; rfl
  | succ j ih =>
    show (if P a then nI (V a) else lowV P V (a + 1) (j + 1)) = if (if P a then nI (V a) else lowV P V (a + 1) j) = -9 then _ else (if P a then nI (V a) else lowV P V (a + 1) j)
    by_cases e : P a = true
    · rw [if_pos e, if_pos e, if_neg (nI_ne_m9 (hV a))]
    · rw [if_neg e, if_neg e, ih (a + 1), show a + 1 + j = a + (j + 1) by omega]
theorem lqd2 {A B : Type} {F : (A → B → Int32 → St → Prop) → A → B → Int32 → St → Prop} {z : A → B → Int32 → St → Prop} (e : Nat) (J : Nat → A → B → St → Prop) {a : A} {b : B} {u : St} (h0 : J e a b u) (hs : ∀ (K : A → B → Int32 → St → Prop) (i : Nat) (a : A) (b : B) (u : St), i < e → J (i + 1) a b u → (∀ a' b' u', J i a' b' u' → K a' b' (nI i - 1) u') → F K a b (nI i) u) (hx : ∀ (K : A → B → Int32 → St → Prop) (a : A) (b : B) (u : St), J 0 a b u → F K a b (-1) u) : ∃ n, lpN F z n a b (nI e - 1) u := by
  have key : ∀ (n i : Nat) (a : A) (b : B) (u : St), i < n → i ≤ e → J i a b u → lpN F z n a b (nI i - 1) u := by
    intro n
    induction n with
    | zero => intro i a b u h; exact absurd h (Nat.not_lt_zero _)
    | succ n ih =>
      intro i a b u hm hi hJ
      cases i with
      | zero => exact hx _ a b u hJ
      | succ i =>
        rw [nI_m1 (by omega), show i + 1 - 1 = i by omega]
        exact hs _ i a b u (by omega) hJ (fun a' b' u' hJ' => ih i a' b' u' (by omega) (by omega) hJ')
  exact ⟨e + 1, key _ e a b u (by omega) (Nat.le_refl _) h0⟩
noncomputable def plcB (b : Bd) (m : Mt) (i N : Nat) (x : Nat → Nat) (q : Nat) : Bool := freF b i (q / 6) (q % 6) && fitF (setF b i (q / 6) (q % 6)) m x N
def plcV (q : Nat) : Nat := if q < 24 then 10 * (q / 6) + q % 6 else 0
theorem plcV_lt (q : Nat) : plcV q < 2 ^ 31 := by unfold plcV; split <;> omega
theorem plc_q {l c : Nat} (hc : c < 6) : (6 * l + c) / 6 = l ∧ (6 * l + c) % 6 = c := by omega
theorem plcV_q {l c : Nat} (hl : l < 4) (hc : c < 6) : nI 10 * nI l + nI c = nI (plcV (6 * l + c)) := by
  rw [pk_mul, nI_add, plcV, if_pos (by omega), (plc_q hc).1, (plc_q hc).2]
noncomputable def plcL (b : Bd) (m : Mt) (i N : Nat) (x : Nat → Nat) (a j : Nat) : Int32 := lowV (plcB b m i N x) plcV a j
noncomputable def plcN (b : Bd) (m : Mt) (i N : Nat) (x : Nat → Nat) (a j : Nat) : Nat := sumN (fun q => (plcB b m i N x q).toNat) a j
theorem plcN_le (b : Bd) (m : Mt) (i N : Nat) (x : Nat → Nat) (a j : Nat) : plcN b m i N x a j ≤ j := by
  have h : ∀ y : Bool, y.toNat ≤ 1 := by decide
  have := sumN_le (f := fun q => (plcB b m i N x q).toNat) (B := 1) (fun s => h _) a j
  unfold plcN
  omega
theorem TM.seat {b : Bd} {m : Mt} {s i l c : Nat} {u : St} (hT : TM b m s u) : TM (setF b i l c) m s (si (si u 55 i (nI l)) 56 i (nI c)) := by
  obtain ⟨t1, t2, t3, t4, t5, t6⟩ := hT
  refine ⟨by rw [gi_nk (by decide), gi_nk (by decide)]; exact t1, fun j hj => ?_, by rw [gi_nk (by decide), gi_nk (by decide)]; exact t3, by rw [gi_nk (by decide), gi_nk (by decide)]; exact t4, by rw [gi_nk (by decide), gi_nk (by decide)]; exact t5, fun j hj => by rw [gi_nk (by decide), gi_nk (by decide)]; exact t6 j hj⟩
  obtain ⟨l1, l2, l3, l4⟩ := t2 j hj
  refine ⟨by rw [gi_nk (by decide), gi_nk (by decide)]; exact l1, ?_, ?_, by rw [gi_nk (by decide), gi_nk (by decide)]; exact l4⟩
  · show gi _ 55 j = nI (if j = i then l else bL b j)
    rw [gi_nk (by decide)]
    by_cases e : j = i
    · subst e; rw [gi_same, if_pos rfl]
    · rw [gi_ni e, if_neg e]; exact l2
  · show gi _ 56 j = nI (if j = i then c else bC b j)
    by_cases e : j = i
    · subst e; rw [gi_same, if_pos rfl]
    · rw [gi_ni e, gi_nk (by decide), if_neg e]; exact l3
theorem p_places {a r : Int32} {u : St} (h : Inv u) {K1 : Int32 → St → Prop} (hK : ∀ x u1, Nx (wp_X5_places a r u1) x → K1 x u1) : wp_X4_places a r u K1 := by
  obtain ⟨b, m, nd, hN⟩ := h.now
  have hn := hN.1.1
  unfold wp_X4_places
  refine pairs2 h hN (WM := wp_X5_places a r) (RM := fun K u5 => ∃ n, wp_X5_places_L39 a r K n 0 (-9) 3 u5) (fun v K q => q) hK (fun i j N x hi ea er hP hPM => ?_)
  subst ea; subst er
  /- the reference, from any state -/
  have ref : ∀ (w2 : St) (K2 : Int32 → St → Prop), Now b m nd w2 → PR 41 42 j N (2 ^ bN b) x w2 → (∀ y, SM w2 y → (plcN b m i N x 0 24 = 0 → K2 (-9) y) ∧ (plcN b m i N x 0 24 ≠ 0 → K2 (nI (plcN b m i N x 0 24)) (si y 39 2 (plcL b m i N x 0 24)))) → wp_X5_places (nI i) (nI j) w2 K2 := by
    intro w2 K2 hNw hPw h2
    refine pM_ok hNw hi hPw ?_
    show ∃ n, wp_X5_places_L39 (nI i) (nI j) K2 n 0 (-9) 3 w2
    rw [show (3 : Int32) = nI 4 - 1 from by decide]
    simp only [wp_X5_places_L39]
    refine lqd2 4 (fun l p q y => p = nI (plcN b m i N x (6 * l) (24 - 6 * l)) ∧ q = plcL b m i N x (6 * l) (24 - 6 * l) ∧ SM w2 y) ⟨rfl, rfl, Same.rfl'⟩ ?_ ?_
    · rintro K l p q y hl ⟨rfl, rfl, hy⟩ hK
      unfold wp_X5_places_B39
      refine ⟨fun c => absurd c (nI_pos (by omega)), fun _ => ?_⟩
      rw [show (5 : Int32) = nI 6 - 1 from by decide]
      simp only [wp_X5_places_L47]
      refine lqd 6 (fun c p q r y => p = nI (plcN b m i N x (6 * l + c) (24 - (6 * l + c))) ∧ q = plcL b m i N x (6 * l + c) (24 - (6 * l + c)) ∧ r = nI l ∧ SM w2 y) ⟨?_, ?_, rfl, hy⟩ ?_ ?_
      · rw [show 6 * (l + 1) = 6 * l + 6 by omega]
      · rw [show 6 * (l + 1) = 6 * l + 6 by omega]
      · rintro K3 c p q r y hc ⟨rfl, rfl, rfl, hy⟩ hK3
        have hNy := hNw.sm hy
        have v7 : vp_in (nI i) 7 := vp_in_nI (by omega) (by decide)
        have sok := set_ok2 (i := i) hN.1 hl hc
        have ek : 24 - (6 * l + c) = (24 - (6 * l + (c + 1))) + 1 := by omega
        have eN : plcN b m i N x (6 * l + c) (24 - (6 * l + c)) = (plcB b m i N x (6 * l + c)).toNat + plcN b m i N x (6 * l + (c + 1)) (24 - (6 * l + (c + 1))) := by rw [ek]; rfl
        have eL : plcL b m i N x (6 * l + c) (24 - (6 * l + c)) = if plcB b m i N x (6 * l + c) then nI (plcV (6 * l + c)) else plcL b m i N x (6 * l + (c + 1)) (24 - (6 * l + (c + 1))) := by rw [ek]; rfl
        have eB : plcB b m i N x (6 * l + c) = (freF b i l c && fitF (setF b i l c) m x N) := by unfold plcB; rw [(plc_q hc).1, (plc_q hc).2]
        unfold wp_X5_places_B47
        simp only [nxt]
        rw [← Int32.sub_eq_add_neg, ← Int32.sub_eq_add_neg, tNn (by omega)]
        refine ⟨fun c => absurd c (nI_pos (by omega)), fun _ => hNy.take (fun y1 hs1 hT => ⟨v7, v7, ?_⟩)⟩
        have hs2 : SM w2 (si (si y1 55 i (nI l)) 56 i (nI c)) := hy.trans ((hs1.wr (by omega)).wr (by omega))
        refine s_isFree hN.1 (hNw.sm hs2).bm hi hl hc ?_
        have no : plcB b m i N x (6 * l + c) = false → ∀ y, SM w2 y → K3 (nI (plcN b m i N x (6 * l + (c + 1)) (24 - (6 * l + (c + 1))))) (plcL b m i N x (6 * l + (c + 1)) (24 - (6 * l + (c + 1)))) (nI l) (nI c - 1) y := fun e y hy => hK3 _ _ _ _ ⟨by rw [eN, e]; show _ = nI (0 + _); rw [Nat.zero_add], by rw [eL, e]; rfl, rfl, hy⟩
        cases ef : freF b i l c with
        | false => exact ⟨fun _ => no (by rw [eB, ef]; rfl) _ hs2, fun q => absurd rfl q⟩
        | true =>
          refine ⟨fun q => absurd q (by decide), fun _ => s_isSo sok hN.mt hT.seat (hPw.sm hs2) (fun y3 hs3 _ => ?_)⟩
          cases ef2 : fitF (setF b i l c) m x N with
          | false => exact ⟨fun _ => no (by rw [eB, ef, ef2]; rfl) _ (hs2.trans hs3), fun q => absurd rfl q⟩
          | true =>
            refine ⟨fun q => absurd q (by decide), fun _ => hK3 _ _ _ _ ⟨?_, ?_, rfl, hs2.trans hs3⟩⟩
            · rw [eN, eB, ef, ef2, nI_1, Nat.add_comm]; rfl
            · rw [eL, eB, ef, ef2, show (10 : Int32) = nI 10 from rfl, plcV_q hl hc]; rfl
      · rintro K3 p q r y ⟨rfl, rfl, rfl, hy⟩
        unfold wp_X5_places_B47
        rw [← Int32.sub_eq_add_neg]
        exact ⟨fun _ => hK _ _ _ ⟨rfl, rfl, hy⟩, fun c => absurd (by decide) c⟩
    · rintro K p q y ⟨rfl, rfl, hy⟩
      have nl := plcN_le b m i N x 0 24
      unfold wp_X5_places_B39 wp_X5_places_J129 wp_X5_tellAsked
      refine ⟨fun _ => ?_, fun c => absurd (by decide) c⟩
      simp only [nxt]
      show ((nI (plcN b m i N x 0 24) ≤ 0 → _) ∧ (¬ nI (plcN b m i N x 0 24) ≤ 0 → _))
      refine ⟨fun c => ⟨fun _ => (h2 y hy).1 ?_, fun q => absurd c q⟩, fun c => ⟨fun q => absurd q c, fun _ => (h2 y hy).2 (fun z => c ?_)⟩⟩
      · have := (nI_leI (b := 0) (by omega) (by decide)).mp c
        omega
      · rw [z]; exact Int32.le_refl _
  refine s_copyL hN.1 hN.lx (fun w1 hl1 hs1 => ?_)
  simp only [wp_X4_places_L34]
  refine lc3 4 (fun l p q w => p = nI (plcN b m i N x 0 (6 * l)) ∧ q = plcL b m i N x 0 (6 * l) ∧ SX u w ∧ ∃ l' c', l' < 4 ∧ c' < 6 ∧ LX 15 (setF b i l' c') w) ⟨rfl, rfl, sx_L hs1, bL b i, bC b i, (hN.1.2 i hi).2.1, (hN.1.2 i hi).2.2.1, by rw [set_self]; exact hl1⟩ ?_ ?_
  · rintro K l p q w hl ⟨rfl, rfl, hx, hlay⟩ hK
    unfold wp_X4_places_B34
    refine ⟨fun c => absurd c (nI_ge (b := 4) hl (by decide)), fun _ => ?_⟩
    simp only [wp_X4_places_L43]
    refine lc4 6 (fun c p q r w => p = nI (plcN b m i N x 0 (6 * l + c)) ∧ q = plcL b m i N x 0 (6 * l + c) ∧ r = nI l ∧ SX u w ∧ ∃ l' c', l' < 4 ∧ c' < 6 ∧ LX 15 (setF b i l' c') w) ⟨rfl, rfl, rfl, hx, hlay⟩ ?_ ?_
    · rintro K3 c p q r w hc ⟨rfl, rfl, rfl, hx, l', c', hl', hc', hL⟩ hK3
      have hNw := hN.sx hx
      have sok := set_ok2 (i := i) hN.1 hl hc
      have eN := sumN_s (fun q => (plcB b m i N x q).toNat) 0 (6 * l + c)
      have eL := lowV_s (plcB b m i N x) plcV plcV_lt 0 (6 * l + c)
      rw [Nat.zero_add] at eN eL
      have eN' : plcN b m i N x 0 (6 * l + (c + 1)) = plcN b m i N x 0 (6 * l + c) + (plcB b m i N x (6 * l + c)).toNat := eN
      have eL' : plcL b m i N x 0 (6 * l + (c + 1)) = if plcL b m i N x 0 (6 * l + c) = -9 then (if plcB b m i N x (6 * l + c) then nI (plcV (6 * l + c)) else -9) else plcL b m i N x 0 (6 * l + c) := eL
      have eB : plcB b m i N x (6 * l + c) = (freF b i l c && fitF (setF b i l c) m x N) := by unfold plcB; rw [(plc_q hc).1, (plc_q hc).2]
      unfold wp_X4_places_B43
      rw [nI_1, nI_1]
      refine ⟨fun c => absurd c (nI_ge (b := 6) hc (by decide)), fun _ => ?_⟩
      have no : plcB b m i N x (6 * l + c) = false → ∀ y, SX u y → (∃ l' c', l' < 4 ∧ c' < 6 ∧ LX 15 (setF b i l' c') y) → K3 (nI (plcN b m i N x 0 (6 * l + c))) (plcL b m i N x 0 (6 * l + c)) (nI l) (nI (c + 1)) y := fun e y hy hz => hK3 _ _ _ _ ⟨by rw [eN', e]; rfl, by
        rw [eL', e]
        by_cases z : plcL b m i N x 0 (6 * l + c) = -9
        · rw [if_pos z, z]; rfl
        · rw [if_neg z], rfl, hy, hz⟩
      have seat : ∀ {Q : St → Prop}, (∀ v, SX u v → LX 15 (setF b i l c) v → Q v) → wp_X0_seat 15 (nI i) (nI l) (nI c) w Q := fun hq => s_seat (set_ok2 hN.1 hl' hc') hL hi (fun v hv hs => hq v (hx.trans (sx_L hs)) (by rw [set_set] at hv; exact hv))
      have yes : freF b i l c = true → ∀ v, SX u v → LX 15 (setF b i l c) v → wp_X4_places_J88 (nI i) (nI j) K1 K K3 (nI (plcN b m i N x 0 (6 * l + c))) (plcL b m i N x 0 (6 * l + c)) (nI l) (nI c) v := fun ef v hv hLv => by
        unfold wp_X4_places_J88 wp_X4_places_J120
        rw [nI_1, nI_1]
        refine s_fits (Or.inr rfl) (h.1.1.same hv (by omega) (by omega) (by omega)) sok hN.mt hLv (hN.sx hv).mx (hP.sx hv) (fun v3 hs3 => ?_)
        have hz : ∃ l' c', l' < 4 ∧ c' < 6 ∧ LX 15 (setF b i l' c') v3 := ⟨l, c, hl, hc, hLv.same hs3 (fun j hj => by unfold notW notT; omega)⟩
        have hv3 := hv.trans (sx_F hs3)
        cases ef2 : fitF (setF b i l c) m x N with
        | false => exact ⟨fun _ => no (by rw [eB, ef, ef2]; rfl) _ hv3 hz, fun q => absurd rfl q⟩
        | true =>
          refine ⟨fun q => absurd q (by decide), fun _ => ⟨fun z => hK3 _ _ _ _ ⟨?_, ?_, rfl, hv3, hz⟩, fun z => hK3 _ _ _ _ ⟨?_, ?_, rfl, hv3, hz⟩⟩⟩
          · rw [eN', eB, ef, ef2]; rfl
          · rw [eL', if_neg z]
          · rw [eN', eB, ef, ef2]; rfl
          · rw [eL', if_pos z, eB, ef, ef2, show (10 : Int32) = nI 10 from rfl, plcV_q hl hc]; rfl
      refine s_keyAt hN.1 hNw.lx hl hc (fun z => seat (fun v hv hLv => ⟨fun _ => yes (decide_eq_true (fun j hj _ => z j hj)) v hv hLv, fun q => absurd rfl q⟩)) (fun j' hj' e1 e2 => seat (fun v hv hLv => ⟨fun q => absurd q (nI_ne_m9 (by omega)), fun _ => ⟨fun q => no ?_ v hv ⟨l, c, hl, hc, hLv⟩, fun q => yes ?_ v hv hLv⟩⟩))
      · have : freF b i l c = false := decide_eq_false (fun z => z j' hj' (fun e => q (by rw [e])) ⟨e1, e2⟩)
        rw [eB, this]; rfl
      · have ej : j' = i := (nI_eq (by omega) (by omega)).mp q
        exact decide_eq_true (fun k hk hne z => hne ((hN.2.1 k j' hk hj' (z.1.trans e1.symm) (z.2.trans e2.symm)).trans ej))
    · rintro K3 p q r w ⟨rfl, rfl, rfl, hx, hz⟩
      unfold wp_X4_places_B43
      rw [nI_1]
      exact ⟨fun _ => hK _ _ _ ⟨rfl, rfl, hx, hz⟩, fun c => absurd (Int32.le_refl _) c⟩
  · rintro K p q w ⟨rfl, rfl, hx, hz⟩
    have nl := plcN_le b m i N x 0 24
    unfold wp_X4_places_B34
    refine ⟨fun _ => ?_, fun c => absurd (Int32.le_refl _) c⟩
    simp only [nxt]
    refine ⟨fun c => hK _ _ (fun K2 h2 => ref _ K2 (hN.sx hx).a0 (hPM.mx hx).a0 (fun y hy => ⟨fun e => absurd (show nI (plcN b m i N x 0 24) = 0 by rw [e]; rfl) c, fun _ => h2 _ (h.ans hx hy)⟩)), fun c => hK _ _ (fun K2 h2 => ref _ K2 (hN.sx hx) (hPM.mx hx) (fun y hy => ⟨fun _ => h2 _ ((h.sx hx).sm hy), fun e => absurd ((nI_eq (a := plcN b m i N x 0 24) (b := 0) (by omega) (by decide)).mp c) e⟩))⟩
