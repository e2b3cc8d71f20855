/-! PURE: pairs of sets, and whether they fit -/
def pM (p1 p2 : Int32) (R : St → Prop) (u : St) (Q : Int32 → St → Prop) : Prop := wp_X5_isKey p1 u (fun r1 u1 => ((r1 = 0 → Q (-1) u1) ∧ (¬ r1 = 0 → wp_X5_isRow p2 u1 (fun r3 u3 => ((¬ r3 = 0 → wp_X5_pairs p2 u3 (fun r5 u5 => ((r5 = 0 → R u5) ∧ (¬ r5 = 0 → Q r5 u5)))) ∧ (r3 = 0 → Q (-1) u3))))))
def PR (k1 k2 j N S : Nat) (x : Nat → Nat) (u : St) : Prop := j < 6 ∧ 2 * N ≤ 40 ∧ S ≤ 128 ∧ gi u k1 j = nI (2 * N) ∧ ∀ p, p < 2 * N → gi u k2 (40 * j + p) = nI (x p) ∧ x p < S
theorem PR.to {k1 k2 j N S : Nat} {x : Nat → Nat} {u v : St} (h : PR k1 k2 j N S x u) (h1 : ∀ i, gi v k1 i = gi u k1 i) (h2 : ∀ i, gi v k2 i = gi u k2 i) : PR k1 k2 j N S x v := ⟨h.1, h.2.1, h.2.2.1, (h1 _).trans h.2.2.2.1, fun p hp => ⟨(h2 _).trans (h.2.2.2.2 p hp).1, (h.2.2.2.2 p hp).2⟩⟩
theorem PR.sx {j N S : Nat} {x : Nat → Nat} {u v : St} (h : PR 2 3 j N S x u) (s : SX u v) : PR 2 3 j N S x v := h.to (fun i => s.1 _ _ (by omega)) (fun i => s.1 _ _ (by omega))
theorem PR.sm {j N S : Nat} {x : Nat → Nat} {u v : St} (h : PR 41 42 j N S x u) (s : SM u v) : PR 41 42 j N S x v := h.to (fun i => s.1 _ _ (by omega)) (fun i => s.1 _ _ (by omega))
theorem rem2 {n : Nat} (hn : n ≤ 100) : nI n - nI n / 2 * 2 = nI (n % 2) := pk_rem (a := n) (d := 2) (by omega) (by omega) (by omega)
/-- the reference takes the pairs -/
theorem pM_ok {b : Bd} {m : Mt} {nd i j N : Nat} {x : Nat → Nat} {u : St} {R : St → Prop} {Q : Int32 → St → Prop} (hN : Now b m nd u) (hi : i < bN b) (hP : PR 41 42 j N (2 ^ bN b) x u) (h : R u) : pM (nI i) (nI j) R u Q := by
  obtain ⟨hj, hn, hS, e1, ev⟩ := hP
  have v6 : vp_in (nI j) 6 := vp_in_nI hj (by decide)
  unfold pM
  refine keyY hN.1 hN.bm hi ⟨fun q => absurd q (by decide), fun _ => row_ok hj ⟨fun _ => ?_, fun q => absurd q (by decide)⟩⟩
  unfold wp_X5_pairs
  rw [tNn (by omega), e1, rem2 (by omega), show 2 * N % 2 = 0 by omega]
  refine ⟨v6, fun _ => ⟨v6, fun _ => ?_, fun q => absurd q (by decide)⟩, fun q => absurd (nI_pos' (by omega)) q⟩
  simp only [wp_X5_pairs_L37]
  refine lc2 (2 * N) (fun p f w => w = u ∧ f = 1) ⟨rfl, rfl⟩ ?_ ?_
  · rintro K p f w hp ⟨rfl, rfl⟩ hK
    unfold wp_X5_pairs_B37
    rw [tNn (by omega), e1, show (40 : Int32) = nI 40 from rfl, pk_mul, nI_add, tNn (by omega), (ev p hp).1, nI_1]
    refine ⟨v6, fun c => absurd c (nI_ge hp (by omega)), fun _ => ⟨fun q => absurd q (by decide), fun _ => ⟨vp_in_nI (by omega) (by decide), setM hN (fun c => absurd c (fun q => q.elim (nI_pos (by have := (ev p hp).2; omega)) (nI_ge (ev p hp).2 (by omega)))) (fun _ _ _ => ⟨fun q => absurd q (by decide), fun _ => hK _ _ ⟨rfl, rfl⟩⟩)⟩⟩⟩
  · rintro K f w ⟨rfl, rfl⟩
    unfold wp_X5_pairs_B37
    rw [tNn (by omega), e1]
    exact ⟨v6, fun _ => ⟨fun q => absurd q (by decide), fun _ => ⟨fun _ => h, fun q => absurd rfl q⟩⟩, fun c => absurd (Int32.le_refl _) c⟩
/-- both refuse pairs, or both take them -/
theorem pairs2 {a r : Int32} {u : St} {b : Bd} {m : Mt} {nd : Nat} (h : Inv u) (hN : Now b m nd u) {WM : St → (Int32 → St → Prop) → Prop} {RM : (Int32 → St → Prop) → St → Prop} {RX : St → Prop} {K1 : Int32 → St → Prop} (hM : ∀ v K, pM a r (RM K) v K → WM v K) (hK : ∀ x u1, Nx (WM u1) x → K1 x u1) (ok : ∀ i j N x, i < bN b → a = nI i → r = nI j → PR 2 3 j N (2 ^ bN b) x u → PR 41 42 j N (2 ^ bN b) x u → RX u) : wp_X4_refusePairs a r u (fun r1 u1 => (r1 = 0 → RX u1) ∧ (¬ r1 = 0 → K1 r1 u1)) := by
  have hC := h.1.1
  have hR := h.1.2.1
  have hn7 := hN.1.1
  have h7 := two7 hn7
  unfold wp_X4_refusePairs
  refine hasX hN.1 hN.lx (fun c => ⟨fun q => absurd rfl q, fun _ => ⟨fun q => absurd q (by decide), fun _ => hK _ _ (fun K2 h2 => hM _ _ ?_)⟩⟩) (fun i hi e => ⟨fun _ => ?_, fun q => absurd q (by decide)⟩)
  · unfold pM
    exact keyM hN.1 hN.bm (fun _ => ⟨fun _ => h2 u h, fun q => absurd rfl q⟩) (fun i hi e => absurd c (by rw [e]; exact fun q => q.elim (nI_pos (by omega)) (nI_ge hi (by omega))))
  subst e
  have hB : ∀ f, BM b (fX f u) := fun f => ⟨by rw [fX_m _ _ _ (by decide) (by decide)]; exact hN.bm.1, fun j hj => by rw [fX_m _ _ _ (by decide) (by decide), fX_m _ _ _ (by decide) (by decide), fX_m _ _ _ (by decide) (by decide), fX_m _ _ _ (by decide) (by decide)]; exact hN.bm.2 j hj⟩
  refine refS (Or.inl rfl) (Sh1 hC) hR.x (fun c => ⟨fun q => absurd q (by decide), fun _ => ⟨fun q => absurd q (by decide), fun _ => hK _ _ (fun K2 h2 => hM _ _ ?_)⟩⟩) (fun j hj e1 e2 => ⟨fun q => absurd q (by decide), fun _ => ⟨fun q => absurd q (by decide), fun _ => hK _ _ (fun K2 h2 => hM _ _ ?_)⟩⟩) (fun j n hj e1 hn e2 => ⟨fun _ => ?_, fun q => absurd rfl q⟩)
  · unfold pM
    exact keyY hN.1 hN.bm hi ⟨fun q => absurd q (by decide), fun _ => row_bad c ⟨fun q => absurd rfl q, fun _ => h2 u h⟩⟩
  · subst e1
    unfold pM
    refine keyY hN.1 (hB 1) hi ⟨fun q => absurd q (by decide), fun _ => row_ok hj ⟨fun _ => ?_, fun q => absurd q (by decide)⟩⟩
    unfold wp_X5_pairs
    rw [tNn (by omega), fX_m 1 u j (by decide) (by decide), hR.m1 (by decide) hj e2]
    exact ⟨vp_in_nI hj (by decide), fun q => absurd q (by decide), fun _ => find_ok (f := 1) (by decide) ⟨fun q => absurd q (by decide), fun _ => h2 _ (inv_found (by decide) h)⟩⟩
  subst e1
  obtain ⟨em, ec⟩ := hR.mn (by decide) hj hn e2
  have v6 : vp_in (nI j) 6 := vp_in_nI hj (by decide)
  refine size_ok (Sh1 hC) hj ?_
  rw [e2, rem2 (by omega)]
  refine ⟨fun c => ?_, fun c => found_ok (f := 5) (by decide) ⟨fun q => absurd q (by decide), fun _ => hK _ _ (fun K2 h2 => hM _ _ ?_)⟩⟩
  · have hev : n % 2 = 0 := (nI_eq (b := 0) (by omega) (by decide)).mp c
    simp only [wp_X4_refusePairs_L55]
    refine lc2 n (fun p s w => w = u ∧ s = nI n ∧ ∀ q, q < p → ∃ s, s < 2 ^ bN b ∧ gi u 3 (40 * j + q) = nI s) ⟨rfl, rfl, fun q hq => absurd hq (by omega)⟩ ?_ ?_
    · rintro K p s w hp ⟨rfl, rfl, hr⟩ hK3
      unfold wp_X4_refusePairs_B55
      refine ⟨fun c => absurd c (nI_ge hp (by omega)), fun _ => get_ok (Sh1 hC) hj hn e2 hp (s_sets hN.1 hN.lx.1 ?_)⟩
      have bad : (gi w 3 (40 * j + p) < 0 ∨ nI (2 ^ bN b) ≤ gi w 3 (40 * j + p)) → K1 (-3) (fX 3 w) := fun z => hK _ _ (fun K2 h2 => hM _ _ (by
        unfold pM
        refine keyY hN.1 (hB 3) hi ⟨fun q => absurd q (by decide), fun _ => row_ok hj ⟨fun _ => ?_, fun q => absurd q (by decide)⟩⟩
        unfold wp_X5_pairs
        rw [tNn (by omega), fX_m 3 w j (by decide) (by decide), em, rem2 (by omega), hev]
        refine ⟨v6, fun _ => ⟨v6, fun _ => ?_, fun q => absurd q (by decide)⟩, fun q => absurd (nI_pos' (by omega)) q⟩
        have hNf : Now b m nd (fX 3 w) := ⟨hN.1, hN.2.1, hN.2.2.1, hN.2.2.2.1, hN.lx.same (P := fun k => k ≠ 0 ∧ k ≠ 38) ⟨fun k i hk => fX_m _ _ _ hk.1 hk.2, fun _ _ _ => rfl⟩ (fun j hj => by omega), hB 3, hN.mx.same (P := fun k => k ≠ 0 ∧ k ≠ 38) ⟨fun k i hk => fX_m _ _ _ hk.1 hk.2, fun _ _ _ => rfl⟩ (fun j hj => by omega), hN.2.2.2.2.2.2.2.1, by rw [fX_m _ _ _ (by decide) (by decide)]; exact hN.2.2.2.2.2.2.2.2.1, fun j hj => by rw [fX_m _ _ _ (by decide) (by decide)]; exact hN.2.2.2.2.2.2.2.2.2 j hj⟩
        simp only [wp_X5_pairs_L37]
        refine lc2 n (fun k f v => v = fX 3 w ∧ ((k ≤ p ∧ f = 1) ∨ (p < k ∧ f = 0))) ⟨rfl, Or.inl ⟨Nat.zero_le _, rfl⟩⟩ ?_ ?_
        · rintro K4 k f v hk ⟨rfl, hf⟩ hK4
          unfold wp_X5_pairs_B37 wp_X5_pairs_J73
          rw [tNn (by omega), fX_m 3 w j (by decide) (by decide), em, show (40 : Int32) = nI 40 from rfl, pk_mul, nI_add, tNn (by omega), fX_m 3 w _ (by decide) (by decide), ec k hk, nI_1]
          refine ⟨v6, fun c => absurd c (nI_ge hk (by omega)), fun _ => ?_⟩
          rcases hf with ⟨h1, rfl⟩ | ⟨h1, rfl⟩
          · refine ⟨fun q => absurd q (by decide), fun _ => ⟨vp_in_nI (by omega) (by decide), ?_⟩⟩
            by_cases ek : k = p
            · subst ek
              exact setM hNf (fun _ => ⟨fun _ => hK4 _ _ ⟨rfl, Or.inr ⟨Nat.lt_succ_self _, rfl⟩⟩, fun q => absurd rfl q⟩) (fun s hs es => absurd z (by rw [es]; exact fun q => q.elim (nI_pos (by omega)) (nI_ge hs (by omega))))
            · obtain ⟨s, hs, es⟩ := hr k (by omega)
              rw [es]
              exact setM hNf (fun c => absurd c (fun q => q.elim (nI_pos (by omega)) (nI_ge hs (by omega)))) (fun _ _ _ => ⟨fun q => absurd q (by decide), fun _ => hK4 _ _ ⟨rfl, Or.inl ⟨by omega, rfl⟩⟩⟩)
          · exact ⟨fun _ => hK4 _ _ ⟨rfl, Or.inr ⟨by omega, rfl⟩⟩, fun q => absurd rfl q⟩
        · rintro K4 f v ⟨rfl, hf⟩
          have f0 : f = 0 := by
            rcases hf with ⟨h1, _⟩ | ⟨_, h2⟩
            · exact absurd h1 (by omega)
            · exact h2
          subst f0
          unfold wp_X5_pairs_B37
          rw [tNn (by omega), fX_m 3 w j (by decide) (by decide), em]
          exact ⟨v6, fun _ => ⟨fun _ => find_ok (f := 3) (by decide) ⟨fun q => absurd q (by decide), fun _ => h2 _ (inv_found (by decide) h)⟩, fun q => absurd rfl q⟩, fun c => absurd (Int32.le_refl _) c⟩))
      have bad2 : (gi w 3 (40 * j + p) < 0 ∨ nI (2 ^ bN b) ≤ gi w 3 (40 * j + p)) → wp_X4_found 3 w (fun r13 u13 => (r13 = 0 → RX u13) ∧ (¬ r13 = 0 → K1 r13 u13)) := fun z => found_ok (f := 3) (by decide) ⟨fun q => absurd q (by decide), fun _ => bad z⟩
      rcases pk_ix (gi w 3 (40 * j + p)) (n := 2 ^ bN b) (by omega) with z | z | ⟨s, hs, es⟩
      · exact w_bad (Or.inl z) ⟨fun q => absurd rfl q, fun _ => bad2 (Or.inl z)⟩
      · exact w_bad (Or.inr z) ⟨fun q => absurd rfl q, fun _ => bad2 (Or.inr z)⟩
      · show wp_X4_within (gi w 3 (40 * j + p)) _ _ _
        rw [es, nI_1]
        refine w_ok hs (by omega) ⟨fun _ => hK3 _ _ ⟨rfl, rfl, fun q hq => ?_⟩, fun q => absurd q (by decide)⟩
        by_cases e : q = p
        · subst e; exact ⟨s, hs, es⟩
        · exact hr q (by omega)
    · rintro K s w ⟨rfl, rfl, hr⟩
      unfold wp_X4_refusePairs_B55
      refine ⟨fun _ => ⟨fun _ => ?_, fun q => absurd rfl q⟩, fun c => absurd (Int32.le_refl _) c⟩
      have en : n = 2 * (n / 2) := by omega
      have ex : ∀ p, p < n → gi w 3 (40 * j + p) = nI (Int32.toNatClampNeg (gi w 3 (40 * j + p))) ∧ Int32.toNatClampNeg (gi w 3 (40 * j + p)) < 2 ^ bN b := fun p hp => by
        obtain ⟨s, hs, es⟩ := hr p hp
        rw [es, tNn (by omega)]
        exact ⟨rfl, hs⟩
      refine ok i j (n / 2) (fun p => Int32.toNatClampNeg (gi w 3 (40 * j + p))) hi rfl rfl ⟨hj, by omega, h7, by rw [← en]; exact e2, fun p hp => ex p (by omega)⟩ ⟨hj, by omega, h7, by rw [← en]; exact em, fun p hp => ⟨(ec p (by omega)).trans (ex p (by omega)).1, (ex p (by omega)).2⟩⟩
  · have hod : n % 2 = 1 := by
      have : ¬ n % 2 = 0 := fun q => c (by rw [q]; rfl)
      omega
    unfold pM
    refine keyY hN.1 (hB 5) hi ⟨fun q => absurd q (by decide), fun _ => row_ok hj ⟨fun _ => ?_, fun q => absurd q (by decide)⟩⟩
    unfold wp_X5_pairs
    rw [tNn (by omega), fX_m 5 u j (by decide) (by decide), em, rem2 (by omega), hod]
    exact ⟨v6, fun _ => ⟨v6, fun q => absurd rfl q, fun _ => find_ok (f := 5) (by decide) ⟨fun q => absurd q (by decide), fun _ => h2 _ (inv_found (by decide) h)⟩⟩, fun q => absurd (nI_pos' (by omega)) q⟩
/-! whether a board tells as pairs say -/
noncomputable def fitF (b : Bd) (m : Mt) (x : Nat → Nat) : Nat → Bool
  | 0 => true
  | q + 1 => fitF b m x q && decide (toldF b m (x (2 * q)) = x (2 * q + 1))
theorem fit_mono {b : Bd} {m : Mt} {x : Nat → Nat} {q N : Nat} (h : fitF b m x q = false) (hq : q ≤ N) : fitF b m x N = false := by
  induction N with
  | zero =>
    obtain rfl : q = 0 := by omega
    exact h
  | succ N ih =>
    by_cases e : q = N + 1
    · subst e; exact h
    · show (fitF b m x N && _) = false
      rw [ih (by omega)]; rfl
theorem lcd2 {A : Type} {F : (A → Int32 → St → Prop) → A → Int32 → St → Prop} {z : A → Int32 → St → Prop} (e : Nat) (J : Nat → A → St → Prop) {a : A} {u : St} (h0 : J 0 a u) (hs : ∀ (K : A → Int32 → St → Prop) (i : Nat) (a : A) (u : St), i < e → J i a u → (∀ a' u', J (i + 1) a' u' → K a' (nI (2 * (i + 1))) u') → F K a (nI (2 * i)) u) (hx : ∀ (K : A → Int32 → St → Prop) (a : A) (u : St), J e a u → F K a (nI (2 * e)) u) : ∃ n, lpN F z n a 0 u := by
  have key : ∀ (n i : Nat) (a : A) (u : St), e - i < n → i ≤ e → J i a u → lpN F z n a (nI (2 * i)) u := by
    intro n
    induction n with
    | zero => intro i a u h; exact absurd h (Nat.not_lt_zero _)
    | succ n ih =>
      intro i a u hm hi hJ
      rcases Nat.lt_or_ge i e with q | q
      · exact hs _ i a u q hJ (fun a' u' hJ' => ih (i + 1) a' u' (by omega) q hJ')
      · have e1 : i = e := by omega
        subst e1
        exact hx _ a u hJ
  exact ⟨e + 1, key _ 0 a u (by omega) (Nat.zero_le _) h0⟩
theorem s_fits {c j N S : Nat} {b : Bd} {m : Mt} {x : Nat → Nat} {u : St} {Q : Int32 → St → Prop} (hc : isLay c) (hC : iC u) (hb : bdOk b) (hm : mtOk m) (hL : LX c b u) (hM : MX 20 m u) (hP : PR 2 3 j N S x u) (h : ∀ v, Same (fun k => notW k ∧ notT k) u v → Q (nI (fitF b m x N).toNat) v) : wp_X4_fits c (nI j) u Q := by
  unfold wp_X4_fits
  refine s_X3_attach hc (Or.inl rfl) hL hM hb hm (fun v hw hs => ?_)
  have hsv : Same (fun k => notW k ∧ notT k) u v := hs.weak (fun k hk => hk.1)
  have hCv : iC v := hC.same hsv (by unfold notW notT; omega) (by unfold notW notT; omega) (by unfold notW notT; omega)
  obtain ⟨hj, hn, hS, e1, ev⟩ := hP.to (v := v) (fun i => hsv.1 _ _ (by unfold notW notT; omega)) (fun i => hsv.1 _ _ (by unfold notW notT; omega))
  refine size_ok (Sh1 hCv) hj ?_
  rw [show gi v (1 + 1) j = nI (2 * N) from e1]
  simp only [wp_X4_fits_L24]
  refine lcd2 N (fun q s w => s = nI (2 * N) ∧ Same (fun k => notW k ∧ notT k) u w ∧ Same notT v w ∧ WR b m w ∧ fitF b m x q = true) ⟨rfl, hsv, Same.rfl', hw, rfl⟩ ?_ ?_
  · rintro K q s w hq ⟨rfl, hx, hvw, hw, hf⟩ hK
    have hCw : iC w := hCv.same hvw (by unfold notT; omega) (by unfold notT; omega) (by unfold notT; omega)
    have ew : ∀ k i, k = 2 ∨ k = 3 → gi w k i = gi v k i := fun k i hk => hvw.1 _ _ (by unfold notT; omega)
    unfold wp_X4_fits_B24
    rw [nI_1]
    refine ⟨fun c => absurd c (nI_ge (by omega) (by omega)), fun _ => get_ok (Sh1 hCw) hj hn ((ew 2 j (by omega)).trans e1) (show 2 * q < 2 * N by omega) ?_⟩
    rw [ew 3 _ (by omega), (ev (2 * q) (by omega)).1]
    refine s_X3_toldOf hb (by have := (ev (2 * q) (by omega)).2; omega) hw (fun w' ht => ?_)
    have hCw' : iC w' := hCw.same ht (by unfold notT; omega) (by unfold notT; omega) (by unfold notT; omega)
    have hvw' := hvw.trans ht
    refine get_ok (Sh1 hCw') hj hn ((hvw'.1 2 j (by unfold notT; omega)).trans e1) (show 2 * q + 1 < 2 * N by omega) ?_
    rw [hvw'.1 _ _ (by unfold notT; omega), (ev (2 * q + 1) (by omega)).1, show nI (2 * q) + (2 : Int32) = nI (2 * (q + 1)) from nI_add _ 2]
    have hx' : Same (fun k => notW k ∧ notT k) u w' := hx.trans (ht.weak (fun k hk => hk.2))
    have tl := toldF_lt7 hb m (x (2 * q))
    have xl := (ev (2 * q + 1) (by omega)).2
    refine ⟨fun c => hK _ _ ⟨rfl, hx', hvw', hw.t ht, ?_⟩, fun c => ?_⟩
    · show (fitF b m x q && _) = true
      rw [hf, decide_eq_true ((nI_eq (by omega) (by omega)).mp c)]; rfl
    · have : fitF b m x N = false := fit_mono (q := q + 1) (by show (fitF b m x q && _) = false; rw [decide_eq_false (fun z => c (by rw [z])), Bool.and_false]) (by omega)
      rw [this] at h
      exact h w' hx'
  · rintro K s w ⟨rfl, hx, hvw, hw, hf⟩
    unfold wp_X4_fits_B24
    rw [nI_1]
    refine ⟨fun _ => ?_, fun c => absurd ((nI_leI (by omega) (by omega)).mpr (by omega)) c⟩
    rw [hf] at h
    exact h w hx
theorem s_isSo {j N S s0 : Nat} {b : Bd} {m : Mt} {x : Nat → Nat} {u : St} {Q : Int32 → St → Prop} (hb : bdOk b) (hm : mtOk m) (hT : TM b m s0 u) (hP : PR 41 42 j N S x u) (h : ∀ v, SM u v → (∃ s, TM b m s v) → Q (nI (fitF b m x N).toNat) v) : wp_X5_isSo (nI j) u Q := by
  have narB : ∀ y : Bool, narrow .boolean (.int (nI y.toNat)) = .int (nI y.toNat) := fun y => by cases y <;> rfl
  unfold wp_X5_isSo
  simp only [wp_X5_isSo_L4]
  refine lcd2 N (fun q f w => f = nI (fitF b m x q).toNat ∧ SM u w ∧ ∃ s, TM b m s w) ⟨rfl, Same.rfl', s0, hT⟩ ?_ ?_
  · rintro K q f w hq ⟨rfl, hx, s, hT⟩ hK
    obtain ⟨hj, hn, hS, e1, ev⟩ := hP.sm hx
    unfold wp_X5_isSo_B4
    rw [tNn (by omega), e1, show (40 : Int32) = nI 40 from rfl, pk_mul, nI_add, nI_1, tNn (by omega), (ev (2 * q) (by omega)).1]
    refine ⟨vp_in_nI hj (by decide), fun c => absurd c (nI_ge (by omega) (by omega)), fun _ => ?_⟩
    cases hf : fitF b m x q with
    | false =>
      refine ⟨fun _ => ⟨narB false, ?_⟩, fun q => absurd rfl q⟩
      have := h w hx ⟨s, hT⟩
      rw [fit_mono hf (by omega)] at this
      exact this
    | true =>
      refine ⟨fun q => absurd q (by decide), fun _ => ⟨vp_in_nI (by omega) (by decide), s_toldOfM hb hm (by have := (ev (2 * q) (by omega)).2; omega) hT (fun y hy hT2 => ⟨vp_in_nI (by omega) (by decide), ?_⟩)⟩⟩
      have tl := toldF_lt7 hb m (x (2 * q))
      have xl := (ev (2 * q + 1) (by omega)).2
      rw [tNn (by omega), hy.1 _ _ (by omega), show 40 * j + 2 * q + 1 = 40 * j + (2 * q + 1) by omega, (ev (2 * q + 1) (by omega)).1, show nI (2 * q) + (2 : Int32) = nI (2 * (q + 1)) from nI_add _ 2]
      refine ⟨fun c => hK _ _ ⟨?_, hx.trans hy, _, hT2⟩, fun c => hK _ _ ⟨?_, hx.trans hy, _, hT2⟩⟩
      · show _ = nI (fitF b m x q && _).toNat
        rw [decide_eq_false (fun z => c (by rw [z])), Bool.and_false]; rfl
      · show _ = nI (fitF b m x q && _).toNat
        rw [hf, decide_eq_true ((nI_eq (by omega) (by omega)).mp c)]; rfl
  · rintro K f w ⟨rfl, hx, s, hT⟩
    obtain ⟨hj, hn, hS, e1, ev⟩ := hP.sm hx
    unfold wp_X5_isSo_B4
    rw [tNn (by omega), e1]
    exact ⟨vp_in_nI hj (by decide), fun _ => ⟨narB _, h w hx ⟨s, hT⟩⟩, fun c => absurd (Int32.le_refl _) c⟩
