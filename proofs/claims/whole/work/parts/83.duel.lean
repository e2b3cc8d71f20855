/-! PURE: duel -/
theorem lqd1 {F : (Int32 → St → Prop) → Int32 → St → Prop} {z : Int32 → St → Prop} (e : Nat) (J : Nat → St → Prop) {u : St} (h0 : J e u) (hs : ∀ (K : Int32 → St → Prop) (i : Nat) (u : St), i < e → J (i + 1) u → (∀ u', J i u' → K (nI i - 1) u') → F K (nI i) u) (hx : ∀ (K : Int32 → St → Prop) (u : St), J 0 u → F K (-1) u) : ∃ n, lpN F z n (nI e - 1) u := by
  have key : ∀ (n i : Nat) (u : St), i < n → i ≤ e → J i u → lpN F z n (nI i - 1) u := by
    intro n
    induction n with
    | zero => intro i u h; exact absurd h (Nat.not_lt_zero _)
    | succ n ih =>
      intro i u hm hi hJ
      cases i with
      | zero => exact hx _ u hJ
      | succ i =>
        rw [nI_m1 (by omega), show i + 1 - 1 = i by omega]
        exact hs _ i u (by omega) hJ (fun u' hJ' => ih i u' (by omega) (by omega) hJ')
  exact ⟨e + 1, key _ e u (by omega) (Nat.le_refl _) h0⟩
def wrtF (mx : Bool) (V : Nat → Nat) (s : Nat) : Nat → Nat
  | 0 => V s
  | k + 1 => if s.testBit k = true then wrtF mx V s k else if mx = true then (if V (s ||| 2 ^ k) ≤ wrtF mx V s k then wrtF mx V s k else V (s ||| 2 ^ k)) else (if wrtF mx V s k ≤ V (s ||| 2 ^ k) then wrtF mx V s k else V (s ||| 2 ^ k))
theorem wrt_ge (V : Nat → Nat) (s k : Nat) : V s ≤ wrtF true V s k := by
  induction k with
  | zero => exact Nat.le_refl _
  | succ k ih =>
    unfold wrtF
    split
    · exact ih
    · rw [if_pos rfl]
      split <;> omega
theorem wrt_le (V : Nat → Nat) (s k : Nat) : wrtF false V s k ≤ V s := by
  induction k with
  | zero => exact Nat.le_refl _
  | succ k ih =>
    unfold wrtF
    split
    · exact ih
    · rw [if_neg (by decide)]
      split <;> omega
theorem wrt_b {V : Nat → Nat} (hV : ∀ s, V s ≤ 8) (mx : Bool) (s k : Nat) : wrtF mx V s k ≤ 8 := by
  induction k with
  | zero => exact hV s
  | succ k ih =>
    have := hV (s ||| 2 ^ k)
    unfold wrtF
    split
    · exact ih
    · split
      · split <;> omega
      · split <;> omega
noncomputable def ghoF (b : Bd) (m : Mt) (s : Nat) : Nat := popc (ndf (toldF b m s) s)
noncomputable def dueF (b : Bd) (m : Mt) (n : Nat) : Nat → Nat → Nat
  | 0 => ghoF b m
  | c + 1 => fun s => wrtF (decide ((n - 1 - c) % 2 = 0)) (dueF b m n c) s (bN b)
theorem due_b (b : Bd) (m : Mt) (n c s : Nat) : dueF b m n c s ≤ 8 := by
  cases c with
  | zero => exact popc_le _
  | succ c => exact wrt_b (fun s => due_b b m n c s) _ _ _
theorem or_self {s k : Nat} (h : s.testBit k = true) : s ||| 2 ^ k = s := by
  apply Nat.eq_of_testBit_eq
  intro i
  rw [Nat.testBit_or, bit_pow]
  by_cases e : k = i
  · subst e; rw [h]; rfl
  · rw [decide_eq_false e, Bool.or_false]
theorem le_or (s k : Nat) : s ≤ s ||| k := Nat.left_le_or
theorem s_valueOf {s : Nat} {u : St} {Q : Int32 → St → Prop} (hs : s < 128) (h : Q (gi u 30 s) u) : wp_X4_valueOf (nI s) u Q := by
  unfold wp_X4_valueOf
  refine w_ok (P := 128) hs (by decide) ⟨fun q => absurd q (by decide), fun _ => ⟨vp_in_nI hs (by decide), ?_⟩⟩
  rw [tNn (by omega)]
  exact h
theorem s_ghostsOf {b : Bd} {m : Mt} {s : Nat} {u : St} {Q : Int32 → St → Prop} (hb : bdOk b) (hs : s < 128) (e : gi u 30 s = nI (toldF b m s)) (h : Q (nI (ghoF b m s)) u) : wp_X4_ghostsOf (nI s) u Q := by
  unfold wp_X4_ghostsOf
  refine s_valueOf hs ?_
  rw [e, nI_ndf]
  exact s_bitCount (Nat.lt_trans (ndf_lt (toldF_lt7 hb m s)) (by decide)) h
/-- one turn is taken back -/
theorem s_turnX {b : Bd} {mx : Bool} {V : Nat → Nat} {u : St} {Q : St → Prop} (hb : bdOk b) (hL : LX 10 b u) (hV : ∀ s, V s ≤ 8) (hr : ∀ s, s < 2 ^ bN b → gi u 30 s = nI (V s)) (h : ∀ v, Same (fun k => k ≠ 30) u v → (∀ s, s < 2 ^ bN b → gi v 30 s = nI (wrtF mx V s (bN b))) → Q v) : wp_X4_takeBackTurn (nI mx.toNat) u Q := by
  have hn := hb.1
  have h7 := two7 hn
  unfold wp_X4_takeBackTurn
  refine s_sets hb hL.1 ?_
  simp only [wp_X4_takeBackTurn_L10]
  refine lc2 (2 ^ bN b) (fun s a w => a = nI (2 ^ bN b) ∧ Same (fun k => k ≠ 30) u w ∧ ∀ t, t < 2 ^ bN b → gi w 30 t = nI (if t < s then wrtF mx V t (bN b) else V t)) ⟨rfl, Same.rfl', fun t ht => by rw [if_neg (by omega)]; exact hr t ht⟩ ?_ ?_
  · rintro K s a w hs ⟨rfl, hS, ht⟩ hK
    have hLw := hL.same hS (fun j hj => by omega)
    have v128 : vp_in (nI s) 128 := vp_in_nI (by omega) (by decide)
    unfold wp_X4_takeBackTurn_B10
    refine ⟨fun c => absurd c (nI_ge hs (by omega)), fun _ => ⟨v128, ?_⟩⟩
    rw [tNn (by omega), ht s hs, if_neg (by omega)]
    simp only [wp_X4_takeBackTurn_L26]
    refine lc4 (bN b) (fun k a c d y => y = w ∧ a = nI (2 ^ bN b) ∧ c = nI s ∧ d = nI (wrtF mx V s k)) ⟨rfl, rfl, rfl, rfl⟩ ?_ ?_
    · rintro K3 k a c d y hk ⟨rfl, rfl, rfl, rfl⟩ hK3
      have ol : s ||| 2 ^ k < 2 ^ bN b := or_lt hs (Nat.pow_lt_pow_right (by decide : 1 < 2) hk)
      have wb := wrt_b hV mx s k
      have vb := hV (s ||| 2 ^ k)
      have og := le_or s (2 ^ k)
      unfold wp_X4_takeBackTurn_B26 wp_X4_takeBackTurn_J81
      rw [hLw.1, nI_one (by omega), nI_or, nI_1, nI_1]
      refine ⟨fun c => absurd c (nI_ge hk (by omega)), fun _ => s_valueOf (by omega) ?_⟩
      rw [ht _ ol, if_neg (by omega)]
      have fin : ∀ x, x = wrtF mx V s (k + 1) → K3 (nI (2 ^ bN b)) (nI s) (nI x) (nI (k + 1)) y := fun x hx => hK3 _ _ _ _ ⟨rfl, rfl, rfl, by rw [hx]⟩
      cases mx with
      | false =>
        refine ⟨fun _ => ⟨fun c => ⟨fun _ => fin _ ?_, fun q => absurd rfl q⟩, fun c => ⟨fun q => absurd q (by decide), fun _ => fin _ ?_⟩⟩, fun q => absurd rfl q⟩
        · have c' := (nI_leI (by omega) (by omega)).mp c
          rw [wrtF]
          by_cases eb : s.testBit k = true
          · rw [if_pos eb]
          · rw [if_neg eb, if_neg (by decide), if_pos c']
        · have c' : ¬ wrtF false V s k ≤ V (s ||| 2 ^ k) := fun q => c ((nI_leI (by omega) (by omega)).mpr q)
          rw [wrtF]
          by_cases eb : s.testBit k = true
          · rw [or_self eb] at c'
            exact absurd (wrt_le V s k) c'
          · rw [if_neg eb, if_neg (by decide), if_neg c']
      | true =>
        refine ⟨fun q => absurd q (by decide), fun _ => ⟨fun c => ⟨fun _ => fin _ ?_, fun q => absurd rfl q⟩, fun c => ⟨fun q => absurd q (by decide), fun _ => fin _ ?_⟩⟩⟩
        · have c' := (nI_leI (by omega) (by omega)).mp c
          rw [wrtF]
          by_cases eb : s.testBit k = true
          · rw [if_pos eb]
          · rw [if_neg eb, if_pos rfl, if_pos c']
        · have c' : ¬ V (s ||| 2 ^ k) ≤ wrtF true V s k := fun q => c ((nI_leI (by omega) (by omega)).mpr q)
          rw [wrtF]
          by_cases eb : s.testBit k = true
          · rw [or_self eb] at c'
            exact absurd (wrt_ge V s k) c'
          · rw [if_neg eb, if_pos rfl, if_neg c']
    · rintro K3 a c d y ⟨rfl, rfl, rfl, rfl⟩
      unfold wp_X4_takeBackTurn_B26
      rw [hLw.1, tNn (by omega), nI_1]
      simp only [nxt]
      refine ⟨fun _ => ⟨v128, hK _ _ ⟨rfl, hS.si (fun q => q rfl), fun t htl => ?_⟩⟩, fun c => absurd (Int32.le_refl _) c⟩
      by_cases e : t = s
      · subst e; rw [gi_same, if_pos (Nat.lt_succ_self _)]
      · rw [gi_ni e, ht t htl]
        by_cases q : t < s
        · rw [if_pos q, if_pos (by omega)]
        · rw [if_neg q, if_neg (by omega)]
  · rintro K a w ⟨rfl, hS, ht⟩
    unfold wp_X4_takeBackTurn_B10
    exact ⟨fun _ => h w hS (fun s hs => by rw [ht s hs, if_pos hs]), fun c => absurd (Int32.le_refl _) c⟩
theorem p_duel {a : Int32} {u : St} (h : Inv u) {K1 : Int32 → St → Prop} (hK : ∀ r u1, Nx (wp_X5_duel a u1) r → K1 r u1) : wp_X4_duel a u K1 := by
  obtain ⟨b, m, nd, hN⟩ := h.now
  have hn := hN.1.1
  have h7 := two7 hn
  have hp := hN.2.2.2.1.2.2.1
  unfold wp_X4_duel
  have bad : (a < 0 ∨ nI 5 ≤ a) → Nx (wp_X5_duel a u) (-1) := fun z K2 h2 => by
    unfold wp_X5_duel
    exact in_bad (P := 5) (by decide) (by decide) rfl z ⟨fun q => absurd rfl q, fun _ => h2 u h⟩
  rcases pk_ix a (n := 5) (by decide) with z | z | ⟨n, hn5, rfl⟩
  · exact ⟨fun _ => hK _ _ (bad (Or.inl z)), fun q => absurd z q⟩
  · exact ⟨fun q => absurd q (ge_nlt0 (by decide) z), fun _ => ⟨fun q => absurd q (ge_nle (k := 4) (by decide) z), fun _ => hK _ _ (bad (Or.inr z))⟩⟩
  refine ⟨fun q => absurd q (nI_pos (by omega)), fun _ => ⟨fun _ => ⟨fun c0 => ?_, fun c0 => hK _ _ (fun K2 h2 => ?_)⟩, fun q => absurd ((nI_leI (b := 4) (by omega) (by decide)).mpr (by omega)) q⟩⟩
  · refine s_fill hN (fun v hs hr => s_sets hN.1 (hN.sx hs).lx.1 ?_)
    simp only [wp_X4_duel_L38]
    refine lc2 (2 ^ bN b) (fun s a w => a = nI (2 ^ bN b) ∧ SX u w ∧ ∀ t, t < 2 ^ bN b → gi w 30 t = nI (if t < s then ghoF b m t else toldF b m t)) ⟨rfl, hs, fun t ht => by rw [if_neg (by omega)]; exact hr t ht⟩ ?_ ?_
    · rintro K s a w hsl ⟨rfl, hx, ht⟩ hK
      unfold wp_X4_duel_B38
      refine ⟨fun c => absurd c (nI_ge hsl (by omega)), fun _ => s_ghostsOf (m := m) hN.1 (by omega) (by rw [ht s hsl, if_neg (by omega)]) ⟨vp_in_nI (by omega) (by decide), ?_⟩⟩
      simp only [nxt]
      rw [tNn (by omega), nI_1]
      refine hK _ _ ⟨rfl, hx.wr (by omega), fun t htl => ?_⟩
      by_cases e : t = s
      · subst e; rw [gi_same, if_pos (Nat.lt_succ_self _)]
      · rw [gi_ni e, ht t htl]
        by_cases q : t < s
        · rw [if_pos q, if_pos (by omega)]
        · rw [if_neg q, if_neg (by omega)]
    · rintro K a w ⟨rfl, hx, ht⟩
      unfold wp_X4_duel_B38
      refine ⟨fun _ => ?_, fun c => absurd (Int32.le_refl _) c⟩
      simp only [wp_X4_duel_L64]
      refine lqd1 n (fun i w => SX u w ∧ ∀ t, t < 2 ^ bN b → gi w 30 t = nI (dueF b m n (n - i) t)) ⟨hx, fun t htl => by rw [Nat.sub_self, ht t htl, if_pos htl]; rfl⟩ ?_ ?_
      · rintro K3 i w hi ⟨hx, ht⟩ hK3
        have e1 : n - i = (n - (i + 1)) + 1 := by omega
        have e2 : n - 1 - (n - (i + 1)) = i := by omega
        have es : ∀ s, dueF b m n (n - i) s = wrtF (decide (i % 2 = 0)) (dueF b m n (n - (i + 1))) s (bN b) := fun s => by
          rw [e1]
          show wrtF (decide ((n - 1 - (n - (i + 1))) % 2 = 0)) _ s (bN b) = _
          rw [e2]
        have fin : ∀ t, t = (decide (i % 2 = 0)).toNat → wp_X4_duel_J80 (nI n) K1 K3 (nI i) (nI t) w := fun t et => by
          unfold wp_X4_duel_J80
          rw [et, ← Int32.sub_eq_add_neg]
          refine s_turnX hN.1 (hN.sx hx).lx (fun s => due_b b m n _ s) ht (fun v hS hv => hK3 _ ⟨hx.trans (hS.weak (fun k hk => by omega)), fun t htl => ?_⟩)
          rw [es]; exact hv t htl
        unfold wp_X4_duel_B64
        rw [rem2 (by omega)]
        refine ⟨fun c => absurd c (nI_pos (by omega)), fun _ => ⟨fun c => fin 0 ?_, fun c => fin 1 ?_⟩⟩
        · rw [decide_eq_false (fun z => c (by rw [z]; rfl))]; rfl
        · rw [decide_eq_true ((nI_eq (b := 0) (by omega) (by decide)).mp c)]; rfl
      · rintro K3 w ⟨hx, ht⟩
        unfold wp_X4_duel_B64
        refine ⟨fun _ => ?_, fun c => absurd (by decide) c⟩
        have hNw := hN.sx hx
        rw [hNw.mx.2.1]
        refine s_valueOf (by omega) ?_
        rw [ht _ hp]
        refine hK _ _ (fun K2 h2 => ?_)
        unfold wp_X5_duel
        refine in_ok (P := 5) hn5 (by decide) rfl ⟨fun _ => ⟨fun _ => hNw.take (fun y hy hT => ?_), fun q => absurd ((nkX hN).mpr ((nkM hNw).mp q)) c0⟩, fun q => absurd q (by decide)⟩
        simp only [wp_X5_duel_L27]
        refine lc1 (2 ^ bN b) (fun s y => SM w y ∧ (∃ s0, TM b m s0 y) ∧ ∀ t, t < s → gi y 60 t = nI (ghoF b m t)) ⟨hy, ⟨_, hT⟩, fun t ht => absurd ht (by omega)⟩ ?_ ?_
        · rintro K4 s y hsl ⟨hy, ⟨s0, hT⟩, hr⟩ hK4
          have e1 : gi y 39 10 = nI (bN b) := hT.1
          unfold wp_X5_duel_B27
          rw [e1, nI_one (by omega)]
          refine ⟨fun c => absurd c (nI_ge hsl (by omega)), fun _ => s_toldOfN hN.1 hN.mt (by omega) hT (fun y1 hy1 hT1 => ?_)⟩
          rw [nI_ndf]
          refine s_bitsOf (Nat.lt_trans (ndf_lt (toldF_lt7 hN.1 m s)) (by decide)) ⟨vp_in_nI (by omega) (by decide), ?_⟩
          simp only [nxt]
          rw [tNn (by omega), nI_1]
          refine hK4 _ ⟨(hy.trans (sm_N hy1)).wr (by omega), ⟨s, hT1.same (Same.si (P := fun q => q ≠ 60) Same.rfl' (fun q => q rfl)) (by decide)⟩, fun t htl => ?_⟩
          by_cases e : t = s
          · subst e; rw [gi_same]; rfl
          · rw [gi_ni e, hy1.1 _ _ (by omega)]; exact hr t (by omega)
        · rintro K4 y ⟨hy, ⟨s0, hT⟩, hr⟩
          have e1 : gi y 39 10 = nI (bN b) := hT.1
          unfold wp_X5_duel_B27
          rw [e1, nI_one (by omega)]
          refine ⟨fun _ => ?_, fun c => absurd (Int32.le_refl _) c⟩
          simp only [wp_X5_duel_L65]
          refine lqd1 n (fun i y => SM w y ∧ ∀ t, t < 2 ^ bN b → gi y 60 t = nI (dueF b m n (n - i) t)) ⟨hy, fun t htl => by rw [Nat.sub_self, hr t htl]; rfl⟩ ?_ ?_
          · rintro K5 i y hi ⟨hy, ht⟩ hK5
            have e1 : n - i = (n - (i + 1)) + 1 := by omega
            have e2 : n - 1 - (n - (i + 1)) = i := by omega
            have es : ∀ s, dueF b m n (n - i) s = wrtF (decide (i % 2 = 0)) (dueF b m n (n - (i + 1))) s (bN b) := fun s => by
              rw [e1]
              show wrtF (decide ((n - 1 - (n - (i + 1))) % 2 = 0)) _ s (bN b) = _
              rw [e2]
            have hVb : ∀ s, dueF b m n (n - (i + 1)) s ≤ 8 := fun s => due_b b m n _ s
            unfold wp_X5_duel_B65
            refine ⟨fun c => absurd c (nI_pos (by omega)), fun _ => ?_⟩
            simp only [wp_X5_duel_L71]
            refine lc2 (2 ^ bN b) (fun s q z => q = nI i ∧ SM w z ∧ ∀ t, t < 2 ^ bN b → gi z 60 t = nI (if t < s then dueF b m n (n - i) t else dueF b m n (n - (i + 1)) t)) ⟨rfl, hy, fun t htl => by rw [if_neg (by omega)]; exact ht t htl⟩ ?_ ?_
            · rintro K6 s q z hsl ⟨rfl, hz, htz⟩ hK6
              have e10 : gi z 39 10 = nI (bN b) := (hNw.sm hz).bm.1
              have v128 : vp_in (nI s) 128 := vp_in_nI (by omega) (by decide)
              unfold wp_X5_duel_B71
              rw [e10, nI_one (by omega)]
              refine ⟨fun c => absurd c (nI_ge hsl (by omega)), fun _ => ⟨v128, ?_⟩⟩
              rw [tNn (by omega), htz s hsl, if_neg (by omega)]
              simp only [wp_X5_duel_L92]
              refine lc4 (bN b) (fun k q c d z1 => z1 = z ∧ q = nI i ∧ c = nI s ∧ d = nI (wrtF (decide (i % 2 = 0)) (dueF b m n (n - (i + 1))) s k)) ⟨rfl, rfl, rfl, rfl⟩ ?_ ?_
              · rintro K7 k q c d z1 hk ⟨rfl, rfl, rfl, rfl⟩ hK7
                have ol : s ||| 2 ^ k < 2 ^ bN b := or_lt hsl (Nat.pow_lt_pow_right (by decide : 1 < 2) hk)
                have wb := wrt_b hVb (decide (i % 2 = 0)) s k
                have vb := hVb (s ||| 2 ^ k)
                have og := le_or s (2 ^ k)
                have fin : ∀ x, x = wrtF (decide (i % 2 = 0)) (dueF b m n (n - (i + 1))) s (k + 1) → K7 (nI i) (nI s) (nI x) (nI (k + 1)) z1 := fun x hx => hK7 _ _ _ _ ⟨rfl, rfl, rfl, by rw [hx]⟩
                unfold wp_X5_duel_B92
                rw [e10, nI_one (by omega), nI_or]
                refine ⟨fun c => absurd c (nI_ge hk (by omega)), fun _ => s_X5_has (by omega) (by omega) ?_⟩
                cases eb : s.testBit k with
                | false =>
                  refine ⟨fun _ => ⟨vp_in_nI (by omega) (by decide), ?_⟩, fun q => absurd rfl q⟩
                  rw [tNn (by omega), htz _ ol, if_neg (by omega)]
                  unfold wp_X5_duel_J126 wp_X5_duel_J161
                  rw [rem2 (by omega), nI_1]
                  refine ⟨fun q => ?_, fun q => ?_⟩
                  · have ed : decide (i % 2 = 0) = false := decide_eq_false (fun z => q (by rw [z]; rfl))
                    rw [ed] at wb fin ⊢
                    refine ⟨fun c => ⟨fun _ => fin _ ?_, fun q => absurd rfl q⟩, fun c => ⟨fun q => absurd q (by decide), fun _ => fin _ ?_⟩⟩
                    · rw [wrtF, if_neg (by rw [eb]; decide), if_neg (by decide), if_pos ((nI_leI (by omega) (by omega)).mp c)]
                    · rw [wrtF, if_neg (by rw [eb]; decide), if_neg (by decide), if_neg (fun q => c ((nI_leI (by omega) (by omega)).mpr q))]
                  · have ed : decide (i % 2 = 0) = true := decide_eq_true ((nI_eq (b := 0) (by omega) (by decide)).mp q)
                    rw [ed] at wb fin ⊢
                    refine ⟨fun c => ⟨fun _ => fin _ ?_, fun q => absurd rfl q⟩, fun c => ⟨fun q => absurd q (by decide), fun _ => fin _ ?_⟩⟩
                    · rw [wrtF, if_neg (by rw [eb]; decide), if_pos rfl, if_pos ((nI_leI (by omega) (by omega)).mp c)]
                    · rw [wrtF, if_neg (by rw [eb]; decide), if_pos rfl, if_neg (fun q => c ((nI_leI (by omega) (by omega)).mpr q))]
                | true =>
                  refine ⟨fun q => absurd q (by decide), fun _ => ?_⟩
                  have same : wrtF (decide (i % 2 = 0)) (dueF b m n (n - (i + 1))) s k = wrtF (decide (i % 2 = 0)) (dueF b m n (n - (i + 1))) s (k + 1) := by rw [wrtF, if_pos eb]
                  unfold wp_X5_duel_J126 wp_X5_duel_J161
                  rw [nI_1]
                  exact ⟨fun _ => ⟨fun _ => ⟨fun _ => fin _ same, fun q => absurd rfl q⟩, fun c => absurd (Int32.le_refl _) c⟩, fun _ => ⟨fun _ => ⟨fun _ => fin _ same, fun q => absurd rfl q⟩, fun c => absurd (Int32.le_refl _) c⟩⟩
              · rintro K7 q c d z1 ⟨rfl, rfl, rfl, rfl⟩
                unfold wp_X5_duel_B92
                rw [e10, tNn (by omega), nI_1]
                simp only [nxt]
                refine ⟨fun _ => ⟨v128, hK6 _ _ ⟨rfl, hz.wr (by omega), fun t htl => ?_⟩⟩, fun c => absurd (Int32.le_refl _) c⟩
                by_cases e : t = s
                · subst e; rw [gi_same, if_pos (Nat.lt_succ_self _), es]
                · rw [gi_ni e, htz t htl]
                  by_cases q : t < s
                  · rw [if_pos q, if_pos (by omega)]
                  · rw [if_neg q, if_neg (by omega)]
            · rintro K6 q z ⟨rfl, hz, htz⟩
              have e10 : gi z 39 10 = nI (bN b) := (hNw.sm hz).bm.1
              unfold wp_X5_duel_B71
              rw [e10, nI_one (by omega), ← Int32.sub_eq_add_neg]
              exact ⟨fun _ => hK5 _ ⟨hz, fun t htl => by rw [htz t htl, if_pos htl]⟩, fun c => absurd (Int32.le_refl _) c⟩
          · rintro K5 y ⟨hy, ht⟩
            unfold wp_X5_duel_B65
            refine ⟨fun _ => (hNw.sm hy).nowM (j := 0) (by decide) ?_, fun c => absurd (by decide) c⟩
            rw [show mtv m 0 = mP m from rfl, tNn (by omega), ht _ hp]
            exact ⟨vp_in_nI (by omega) (by decide), h2 _ ((h.sx hx).sm hy)⟩
  · unfold wp_X5_duel
    exact in_ok (P := 5) hn5 (by decide) rfl ⟨fun _ => ⟨fun q => absurd ((nkM hN).mpr ((nkX hN).mp c0)) q, fun _ => h2 u h⟩, fun q => absurd q (by decide)⟩
