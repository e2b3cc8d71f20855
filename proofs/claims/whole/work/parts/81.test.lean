/-! PURE: test -/
theorem lc6 {A B C D E : Type} {F : (A → B → C → D → E → Int32 → St → Prop) → A → B → C → D → E → Int32 → St → Prop} {z : A → B → C → D → E → Int32 → St → Prop} (e : Nat) (J : Nat → A → B → C → D → E → St → Prop) {a : A} {b : B} {c : C} {d : D} {f : E} {u : St} (h0 : J 0 a b c d f u) (hs : ∀ (K : A → B → C → D → E → Int32 → St → Prop) (i : Nat) (a : A) (b : B) (c : C) (d : D) (f : E) (u : St), i < e → J i a b c d f u → (∀ a' b' c' d' f' u', J (i + 1) a' b' c' d' f' u' → K a' b' c' d' f' (nI (i + 1)) u') → F K a b c d f (nI i) u) (hx : ∀ (K : A → B → C → D → E → Int32 → St → Prop) (a : A) (b : B) (c : C) (d : D) (f : E) (u : St), J e a b c d f u → F K a b c d f (nI e) u) : ∃ n, lpN F z n a b c d f 0 u := by
  have key : ∀ (n i : Nat) (a : A) (b : B) (c : C) (d : D) (f : E) (u : St), e - i < n → i ≤ e → J i a b c d f u → lpN F z n a b c d f (nI i) u := by
    intro n
    induction n with
    | zero => intro i a b c d f u h; exact absurd h (Nat.not_lt_zero _)
    | succ n ih =>
      intro i a b c d f u hm hi hJ
      rcases Nat.lt_or_ge i e with q | q
      · exact hs _ i a b c d f u q hJ (fun a' b' c' d' f' u' hJ' => ih (i + 1) a' b' c' d' f' u' (by omega) q hJ')
      · have e1 : i = e := by omega
        subst e1
        exact hx _ a b c d f u hJ
  exact ⟨e + 1, key _ 0 a b c d f u (by omega) (Nat.zero_le _) h0⟩
theorem lc8 {A B C D E G H : Type} {F : (A → B → C → D → E → G → H → Int32 → St → Prop) → A → B → C → D → E → G → H → Int32 → St → Prop} {z : A → B → C → D → E → G → H → Int32 → St → Prop} (e : Nat) (J : Nat → A → B → C → D → E → G → H → St → Prop) {a : A} {b : B} {c : C} {d : D} {f : E} {g : G} {h : H} {u : St} (h0 : J 0 a b c d f g h u) (hs : ∀ (K : A → B → C → D → E → G → H → Int32 → St → Prop) (i : Nat) (a : A) (b : B) (c : C) (d : D) (f : E) (g : G) (h : H) (u : St), i < e → J i a b c d f g h u → (∀ a' b' c' d' f' g' h' u', J (i + 1) a' b' c' d' f' g' h' u' → K a' b' c' d' f' g' h' (nI (i + 1)) u') → F K a b c d f g h (nI i) u) (hx : ∀ (K : A → B → C → D → E → G → H → Int32 → St → Prop) (a : A) (b : B) (c : C) (d : D) (f : E) (g : G) (h : H) (u : St), J e a b c d f g h u → F K a b c d f g h (nI e) u) : ∃ n, lpN F z n a b c d f g h 0 u := by
  have key : ∀ (n i : Nat) (a : A) (b : B) (c : C) (d : D) (f : E) (g : G) (h : H) (u : St), e - i < n → i ≤ e → J i a b c d f g h u → lpN F z n a b c d f g h (nI i) u := by
    intro n
    induction n with
    | zero => intro i a b c d f g h u h; exact absurd h (Nat.not_lt_zero _)
    | succ n ih =>
      intro i a b c d f g h u hm hi hJ
      rcases Nat.lt_or_ge i e with q | q
      · exact hs _ i a b c d f g h u q hJ (fun a' b' c' d' f' g' h' u' hJ' => ih (i + 1) a' b' c' d' f' g' h' u' (by omega) q hJ')
      · have e1 : i = e := by omega
        subst e1
        exact hx _ a b c d f g h u hJ
  exact ⟨e + 1, key _ 0 a b c d f g h u (by omega) (Nat.zero_le _) h0⟩
def prtF (F : Nat) (T : Nat → Nat) (k n : Nat) : Nat := sumN (fun o => (F.testBit k && (F.testBit o && decide (T o = T k))).toNat) 0 n
theorem prt_s (F : Nat) (T : Nat → Nat) (k n : Nat) : prtF F T k (n + 1) = prtF F T k n + (F.testBit k && (F.testBit n && decide (T n = T k))).toNat := by
  have := sumN_s (fun o => (F.testBit k && (F.testBit o && decide (T o = T k))).toNat) 0 n
  rw [Nat.zero_add] at this
  exact this
theorem prt_le (F : Nat) (T : Nat → Nat) (k n : Nat) : prtF F T k n ≤ n := by
  have h : ∀ y : Bool, y.toNat ≤ 1 := by decide
  have := sumN_le (f := fun o => (F.testBit k && (F.testBit o && decide (T o = T k))).toNat) (B := 1) (fun s => h _) 0 n
  unfold prtF
  omega
def grtF (F : Nat) (T : Nat → Nat) : Nat → Nat
  | 0 => 0
  | k + 1 => if grtF F T k < prtF F T k 6 then prtF F T k 6 else grtF F T k
theorem grt_le (F : Nat) (T : Nat → Nat) (k : Nat) : grtF F T k ≤ 6 := by
  induction k with
  | zero => exact Nat.zero_le _
  | succ k ih =>
    have := prt_le F T k 6
    unfold grtF
    split <;> omega
noncomputable def tstG (b : Bd) (m : Mt) (i F s : Nat) : Nat := grtF F (fun k => toldF (trnF b i k) m s) 6
noncomputable def tstF (b : Bd) (m : Mt) (i F : Nat) : Nat → Nat × Option Nat
  | 0 => (7, none)
  | s + 1 => if (tstF b m i F s).1 ≤ tstG b m i F s then tstF b m i F s else (tstG b m i F s, some s)
theorem tst_le (b : Bd) (m : Mt) (i F s : Nat) : (tstF b m i F s).1 ≤ 7 := by
  induction s with
  | zero => exact Nat.le_refl _
  | succ s ih =>
    have : tstG b m i F s ≤ 6 := grt_le _ _ _
    unfold tstF
    split
    · exact ih
    · show tstG b m i F s ≤ 7; omega
theorem tst_some (b : Bd) (m : Mt) (i F s : Nat) : ∃ s', (tstF b m i F (s + 1)).2 = some s' ∧ s' ≤ s := by
  induction s with
  | zero =>
    have h6 : tstG b m i F 0 ≤ 6 := grt_le _ _ _
    refine ⟨0, ?_, Nat.le_refl _⟩
    show (if 7 ≤ tstG b m i F 0 then ((7, none) : Nat × Option Nat) else (tstG b m i F 0, some 0)).2 = some 0
    rw [if_neg (by omega)]
  | succ s ih =>
    obtain ⟨s', h1, h2⟩ := ih
    rw [tstF]
    split
    · exact ⟨s', h1, by omega⟩
    · exact ⟨s + 1, rfl, Nat.le_refl _⟩
theorem s_byKind {b : Bd} {m : Mt} {nd i F : Nat} {u : St} {Q : St → Prop} (hN : Now b m nd u) (hi : i < bN b) (hF : F < 128) (h : ∀ v, SX u v → (∀ k, k < 6 → F.testBit k = true → ∀ s, s < 2 ^ bN b → gi v (32 + k) s = nI (toldF (trnF b i k) m s)) → Q v) : wp_X4_fillByKind (nI i) (nI F) u Q := by
  have hn := hN.1.1
  have h7 := two7 hn
  unfold wp_X4_fillByKind
  refine s_copyL hN.1 hN.lx (fun w1 hl1 hs1 => s_sets hN.1 (hN.sx (sx_L hs1)).lx.1 ?_)
  simp only [wp_X4_fillByKind_L22]
  refine lc2 6 (fun k a w => a = nI (2 ^ bN b) ∧ SX u w ∧ (∃ k', k' < 6 ∧ LX 15 (trnF b i k') w) ∧ ∀ q, q < k → F.testBit q = true → ∀ s, s < 2 ^ bN b → gi w (32 + q) s = nI (toldF (trnF b i q) m s)) ⟨rfl, sx_L hs1, ⟨bK b i, (hN.1.2 i hi).1, by rw [trn_self]; exact hl1⟩, fun q hq => absurd hq (by omega)⟩ ?_ ?_
  · rintro K k a w hk ⟨rfl, hx, ⟨k', hk', hl⟩, hr⟩ hK
    have tok' := trn_ok (i := i) hN.1 hk'
    have tok := trn_ok (i := i) hN.1 hk
    unfold wp_X4_fillByKind_B22
    rw [nI_1]
    refine ⟨fun c => absurd c (nI_ge (b := 6) hk (by decide)), fun _ => s_X4_holds (by omega) (by omega) ?_⟩
    cases eb : F.testBit k with
    | false =>
      refine ⟨fun _ => hK _ _ ⟨rfl, hx, ⟨k', hk', hl⟩, fun q hq eq => ?_⟩, fun q => absurd rfl q⟩
      by_cases e : q = k
      · subst e; rw [eb] at eq; exact absurd eq (by decide)
      · exact hr q (by omega) eq
    | true =>
      refine ⟨fun q => absurd q (by decide), fun _ => s_turn (k := k) tok' hl hi (fun w2 hl2 hs2 => ?_)⟩
      rw [trn_trn] at hl2
      have hx2 := hx.trans (sx_L hs2)
      refine s_X3_attach (Or.inr rfl) (Or.inl rfl) hl2 (hN.sx hx2).mx tok hN.mt (fun w3 hw3 hs3 => ?_)
      have hl3 : LX 15 (trnF b i k) w3 := hl2.same hs3 (lay_notW (Or.inr rfl))
      have h32 : ∀ q, q < k → ∀ s, gi w3 (32 + q) s = gi w (32 + q) s := fun q hq s => (hs3.1 _ _ (by unfold notW; omega)).trans (hs2.1 _ _ (by unfold nLay; omega))
      simp only [wp_X4_fillByKind_L66]
      refine lc3 (2 ^ bN b) (fun s a c y => a = nI (2 ^ bN b) ∧ c = nI k ∧ SX u y ∧ WR (trnF b i k) m y ∧ LX 15 (trnF b i k) y ∧ (∀ q, q < k → ∀ s, gi y (32 + q) s = gi w (32 + q) s) ∧ ∀ t, t < s → gi y (32 + k) t = nI (toldF (trnF b i k) m t)) ⟨rfl, rfl, hx2.trans (sx_W hs3), hw3, hl3, h32, fun t ht => absurd ht (by omega)⟩ ?_ ?_
      · rintro K3 s a c y hs ⟨rfl, rfl, hy, hwy, hly, hq, ht⟩ hK3
        unfold wp_X4_fillByKind_B66
        refine ⟨fun c => absurd c (nI_ge hs (by omega)), fun _ => ⟨vp_in_nI hk (by decide), s_X3_toldOf tok (by omega) hwy (fun y' hty => ⟨vp_in_nI (by omega) (by decide), ?_⟩)⟩⟩
        simp only [nxt]
        rw [tNn (by omega), tNn (by omega), nI_1]
        have hsi : Same (fun q => q ≠ 32 + k) y' (si y' (32 + k) s (nI (toldF (trnF b i k) m s))) := Same.si Same.rfl' (fun q => q rfl)
        refine hK3 _ _ _ ⟨rfl, rfl, (hy.trans (sx_T hty)).wr (by omega), (hwy.t hty).wr (by omega), (hly.same hty (fun j hj => by unfold notT; omega)).same hsi (fun j hj => by omega), fun q hqk t => ?_, fun t ht2 => ?_⟩
        · rw [gi_nk (by omega), hty.1 _ _ (by unfold notT; omega)]; exact hq q hqk t
        · by_cases e : t = s
          · subst e; rw [gi_same]
          · rw [gi_ni e, hty.1 _ _ (by unfold notT; omega)]; exact ht t (by omega)
      · rintro K3 a c y ⟨rfl, rfl, hy, hwy, hly, hq, ht⟩
        unfold wp_X4_fillByKind_B66
        rw [nI_1]
        refine ⟨fun _ => hK _ _ ⟨rfl, hy, ⟨k, hk, hly⟩, fun q hqk eq s hs => ?_⟩, fun c => absurd (Int32.le_refl _) c⟩
        by_cases e : q = k
        · subst e; exact ht s hs
        · rw [hq q (by omega) s]; exact hr q (by omega) eq s hs
  · rintro K a w ⟨rfl, hx, -, hr⟩
    unfold wp_X4_fillByKind_B22
    exact ⟨fun _ => h w hx hr, fun c => absurd (Int32.le_refl _) c⟩
theorem s_great {F s : Nat} {T : Nat → Nat} {u : St} {Q : Int32 → St → Prop} (hF : F < 128) (hs : s < 128) (hT : ∀ k, T k < 128) (hr : ∀ k, k < 6 → F.testBit k = true → gi u (32 + k) s = nI (T k)) (h : Q (nI (grtF F T 6)) u) : wp_X4_greatestPart (nI F) (nI s) u Q := by
  have v128 : vp_in (nI s) 128 := vp_in_nI hs (by decide)
  unfold wp_X4_greatestPart
  simp only [wp_X4_greatestPart_L5]
  refine lc2 6 (fun k a w => w = u ∧ a = nI (grtF F T k)) ⟨rfl, rfl⟩ ?_ ?_
  · rintro K k a w hk ⟨rfl, rfl⟩ hK
    have gl := grt_le F T k
    unfold wp_X4_greatestPart_B5
    refine ⟨fun c => absurd c (nI_ge (b := 6) hk (by decide)), fun _ => ?_⟩
    simp only [wp_X4_greatestPart_L18]
    refine lc4 6 (fun o a c p y => y = w ∧ a = nI (grtF F T k) ∧ c = nI k ∧ p = nI (prtF F T k o)) ⟨rfl, rfl, rfl, rfl⟩ ?_ ?_
    · rintro K3 o a c p y ho ⟨rfl, rfl, rfl, rfl⟩ hK3
      have ps := prt_s F T k o
      unfold wp_X4_greatestPart_B18
      rw [nI_1, nI_1, nI_1, tNn (by omega), tNn (by omega), tNn (by omega)]
      have no : (F.testBit k && (F.testBit o && decide (T o = T k))) = false → K3 (nI (grtF F T k)) (nI k) (nI (prtF F T k o)) (nI (o + 1)) y := fun e => hK3 _ _ _ _ ⟨rfl, rfl, rfl, by rw [ps, e]; rfl⟩
      refine ⟨fun c => absurd c (nI_ge (b := 6) ho (by decide)), fun _ => s_X4_holds (by omega) (by omega) ?_⟩
      cases ek : F.testBit k with
      | false => exact ⟨fun _ => no (by rw [ek]; rfl), fun q => absurd rfl q⟩
      | true =>
        refine ⟨fun q => absurd q (by decide), fun _ => s_X4_holds (by omega) (by omega) ?_⟩
        cases eo : F.testBit o with
        | false => exact ⟨fun _ => no (by rw [ek, eo]; rfl), fun q => absurd rfl q⟩
        | true =>
          refine ⟨fun q => absurd q (by decide), fun _ => ⟨vp_in_nI ho (by decide), v128, vp_in_nI hk (by decide), v128, ?_⟩⟩
          rw [hr o ho eo, hr k hk ek]
          refine ⟨fun c => no (by rw [ek, eo, decide_eq_false (fun z => c (by rw [z]))]; rfl), fun c => hK3 _ _ _ _ ⟨rfl, rfl, rfl, ?_⟩⟩
          rw [ps, ek, eo, decide_eq_true ((nI_eq (by have := hT o; omega) (by have := hT k; omega)).mp c)]; rfl
    · rintro K3 a c p y ⟨rfl, rfl, rfl, rfl⟩
      have pl := prt_le F T k 6
      unfold wp_X4_greatestPart_B18
      rw [nI_1]
      refine ⟨fun _ => hK _ _ ⟨rfl, ?_⟩, fun c => absurd (Int32.le_refl _) c⟩
      rw [grtF]
      by_cases z : grtF F T k < prtF F T k 6
      · rw [if_pos z, if_pos ((nI_ltI (by omega) (by omega)).mpr z)]
      · rw [if_neg z, if_neg (fun q => z ((nI_ltI (by omega) (by omega)).mp q))]
  · rintro K a w ⟨rfl, rfl⟩
    unfold wp_X4_greatestPart_B5
    exact ⟨fun _ => h, fun c => absurd (Int32.le_refl _) c⟩
