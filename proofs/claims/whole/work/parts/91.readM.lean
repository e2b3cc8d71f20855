/-! PURE: what the reference reads -/
theorem lc7 {A B C D E G : Type} {F : (A → B → C → D → E → G → Int32 → St → Prop) → A → B → C → D → E → G → Int32 → St → Prop} {z : A → B → C → D → E → G → Int32 → St → Prop} (e : Nat) (J : Nat → A → B → C → D → E → G → St → Prop) {a : A} {b : B} {c : C} {d : D} {f : E} {g : G} {u : St} (h0 : J 0 a b c d f g u) (hs : ∀ (K : A → B → C → D → E → G → Int32 → St → Prop) (i : Nat) (a : A) (b : B) (c : C) (d : D) (f : E) (g : G) (u : St), i < e → J i a b c d f g u → (∀ a' b' c' d' f' g' u', J (i + 1) a' b' c' d' f' g' u' → K a' b' c' d' f' g' (nI (i + 1)) u') → F K a b c d f g (nI i) u) (hx : ∀ (K : A → B → C → D → E → G → Int32 → St → Prop) (a : A) (b : B) (c : C) (d : D) (f : E) (g : G) (u : St), J e a b c d f g u → F K a b c d f g (nI e) u) : ∃ n, lpN F z n a b c d f g 0 u := by
  have key : ∀ (n i : Nat) (a : A) (b : B) (c : C) (d : D) (f : E) (g : G) (u : St), e - i < n → i ≤ e → J i a b c d f g u → lpN F z n a b c d f g (nI i) u := by
    intro n
    induction n with
    | zero => intro i a b c d f g u h; exact absurd h (Nat.not_lt_zero _)
    | succ n ih =>
      intro i a b c d f g u hm hi hJ
      rcases Nat.lt_or_ge i e with q | q
      · exact hs _ i a b c d f g u q hJ (fun a' b' c' d' f' g' u' hJ' => ih (i + 1) a' b' c' d' f' g' u' (by omega) q hJ')
      · have e1 : i = e := by omega
        subst e1
        exact hx _ a b c d f g u hJ
  exact ⟨e + 1, key _ 0 a b c d f g u (by omega) (Nat.zero_le _) h0⟩
def DM (b : Bd) (u : St) : Prop := ∀ i, i < bN b → gi u 46 (7 + i) = nI (bK b i) ∧ gi u 47 (7 + i) = nI (bL b i) ∧ gi u 48 (7 + i) = nI (bC b i) ∧ gi u 49 (7 + i) = nI (bD b i)
/-- only drafts may have changed -/
def Dr (u v : St) : Prop := (∀ k i, ¬ (46 ≤ k ∧ k ≤ 49 ∧ 7 ≤ i) → gi v k i = gi u k i) ∧ ∀ k i, gl v k i = gl u k i
theorem Dr.rf (u : St) : Dr u u := ⟨fun _ _ _ => rfl, fun _ _ => rfl⟩
theorem Dr.wr {u v : St} {k i : Nat} {x : Int32} (h : Dr u v) (hk : 46 ≤ k ∧ k ≤ 49 ∧ 7 ≤ i) : Dr u (si v k i x) := ⟨fun k' i' q => by
  rw [gi_if, if_neg (fun z => q (by rw [z.1, z.2]; exact hk))]
  exact h.1 k' i' q, fun k' i' => h.2 k' i'⟩
theorem DM.push {b : Bd} {k l c d : Nat} {u : St} (hL : DM b u) : DM (psF b k l c d) (si (si (si (si u 46 (7 + bN b) (nI k)) 47 (7 + bN b) (nI l)) 48 (7 + bN b) (nI c)) 49 (7 + bN b) (nI d)) := by
  intro j hj
  have hj' : j < bN b + 1 := hj
  show gi _ 46 (7 + j) = nI (if j = bN b then k else bK b j) ∧ gi _ 47 (7 + j) = nI (if j = bN b then l else bL b j) ∧ gi _ 48 (7 + j) = nI (if j = bN b then c else bC b j) ∧ gi _ 49 (7 + j) = nI (if j = bN b then d else bD b j)
  by_cases e : j = bN b
  · subst e
    rw [if_pos rfl, if_pos rfl, if_pos rfl, if_pos rfl]
    refine ⟨?_, ?_, ?_, gi_same⟩
    · rw [gi_nk (by decide), gi_nk (by decide), gi_nk (by decide), gi_same]
    · rw [gi_nk (by decide), gi_nk (by decide), gi_same]
    · rw [gi_nk (by decide), gi_same]
  · have e7 : 7 + j ≠ 7 + bN b := by omega
    rw [if_neg e, if_neg e, if_neg e, if_neg e]
    simp only [gi_ni e7]
    exact hL j (by omega)
theorem s_readM {t n : Nat} {tx : Nat → Int32} {u : St} {Q : Int32 → St → Prop} (hT : TX 43 44 t n tx u) (h0 : ∀ p v, rdF tx n 7 bd0 (skF tx n 0) = Sum.inl p → Dr u v → Q (nI (100 + p)) v) (h1 : ∀ b v, rdF tx n 7 bd0 (skF tx n 0) = Sum.inr b → bN b ≤ 7 → DM b v → Dr u v → Q (nI (bN b)) v) : wp_X5_read (nI t) u Q := by
  have hn := hT.2.1
  have v4 : vp_in (nI t) 4 := vp_in_nI hT.1 (by decide)
  have sm : ∀ {v : St}, Dr u v → TX 43 44 t n tx v := fun s => hT.to (fun i => s.1 _ _ (by omega)) (fun i => s.1 _ _ (by omega))
  unfold wp_X5_read
  simp only [wp_X5_read_L4]
  refine lqw2 (fun k x y v => Dr u v ∧ ∃ a b, x = nI (bN b) ∧ y = nI a ∧ a ≤ n ∧ k = n - a ∧ bdOk b ∧ DM b v ∧ rdF tx n (7 - bN b) b (skF tx n a) = rdF tx n 7 bd0 (skF tx n 0)) ?_ (k := n - 0) ⟨Dr.rf u, 0, bd0, rfl, rfl, Nat.zero_le _, rfl, ⟨by decide, fun i hi => absurd hi (Nat.not_lt_zero _)⟩, fun i hi => absurd hi (Nat.not_lt_zero _), rfl⟩
  rintro K k x y v ⟨hd, a, b, rfl, rfl, ha, rfl, hb, hDM, hr⟩ hK
  have hb7 := hb.1
  have hTv := sm hd
  have e3 := hTv.2.2.1
  have j36 : skF tx n a = a → wp_X5_read_J36 (nI t) Q K (nI (bN b)) (nI a) v := fun hsk => by
    rw [hsk] at hr
    have tt := hT.1
    unfold wp_X5_read_J36
    rw [tNn (by omega), e3, show (60 : Int32) = nI 60 from rfl, pk_mul, nI_add, tNn (by omega), show (100 : Int32) + nI a = nI (100 + a) from nI_add 100 a]
    refine ⟨v4, fun c => ?_, fun c => ?_⟩
    · have an : a < n := by
        have : a ≠ n := fun e => c (by rw [e])
        omega
      refine ⟨vp_in_nI (by omega) (by decide), ?_⟩
      rw [hTv.2.2.2 a an, show nI a + (1 : Int32) = nI (a + 1) from nI_add a 1, show nI a + (2 : Int32) = nI (a + 2) from nI_add a 2]
      refine s_kindM ?_
      cases ek : kdF (tx a) with
      | none =>
        refine ⟨fun _ => ?_, fun q => absurd rfl q⟩
        have it0 : itF tx n b a = Sum.inl 0 := by unfold itF; rw [ek]; rfl
        by_cases e7 : bN b = 7
        · rw [e7, Nat.sub_self, rd_full (by omega)] at hr
          exact h0 a v hr.symm hd
        · rw [show 7 - bN b = (7 - (bN b + 1)) + 1 by omega, rd_bad (by omega) it0] at hr
          exact h0 a v hr.symm hd
      | some k =>
        have k6 := kd_lt ek
        refine ⟨fun q => absurd q (nI_ne_m9 (by omega)), fun _ => ⟨fun c7 => ?_, fun c7 => ?_⟩⟩
        · have n7 : bN b < 7 := by
            have : bN b ≠ 7 := fun e => c7 (by rw [e]; rfl)
            omega
          rw [show 7 - bN b = (7 - (bN b + 1)) + 1 by omega] at hr
          have i1 : itF tx n b a = (fgF tx n (a + 1) 4).elim (Sum.inl 1) (fun l => (fgF tx n (a + 2) 6).elim (Sum.inl 2) (fun c => if freB b l c = true then (fgF tx n (a + 3) 10).elim (Sum.inl 3) (fun d => Sum.inr (k, l, c, d)) else Sum.inl 2)) := by
            unfold itF
            rw [ek]
            show (if 7 ≤ bN b then _ else _) = _
            rw [if_neg (by omega)]
          refine s_figM (e := 4) hTv (by omega) (by decide) (by decide) ?_
          cases el : fgF tx n (a + 1) 4 with
          | none =>
            rw [el] at i1
            rw [rd_bad (by omega) (s := 1) i1] at hr
            rw [show nI (100 + a) + (1 : Int32) = nI (100 + (a + 1)) from nI_add _ 1]
            exact ⟨fun q => absurd rfl q, fun _ => h0 (a + 1) v hr.symm hd⟩
          | some l =>
            rw [el] at i1
            have l4 := (fgF_lt (by decide) el).1
            refine ⟨fun _ => s_figM (e := 6) hTv (by omega) (by decide) (by decide) ?_, fun q => absurd q (nI_ne_m9 (by omega))⟩
            cases ec : fgF tx n (a + 2) 6 with
            | none =>
              rw [ec] at i1
              rw [rd_bad (by omega) (s := 2) i1] at hr
              refine ⟨fun _ => ?_, fun q => absurd rfl q⟩
              unfold wp_X5_read_J142
              simp only [wp_X5_read_L147]
              refine lc7 (bN b) (fun i p1 p2 p3 p4 p5 p6 w => p1 = nI (bN b) ∧ p2 = nI a ∧ p6 = 0 ∧ w = v) ⟨rfl, rfl, rfl, rfl⟩ ?_ ?_
              · rintro K3 i p1 p2 p3 p4 p5 p6 w hi ⟨rfl, rfl, rfl, rfl⟩ hK3
                unfold wp_X5_read_B147 wp_X5_read_J192
                rw [nI_1 i]
                exact ⟨fun c => absurd c (nI_ge hi (by omega)), fun _ => ⟨fun _ => hK3 _ _ _ _ _ _ _ ⟨rfl, rfl, rfl, rfl⟩, fun q => absurd rfl q⟩⟩
              · rintro K3 p1 p2 p3 p4 p5 p6 w ⟨rfl, rfl, rfl, rfl⟩
                unfold wp_X5_read_B147
                rw [show (100 : Int32) + nI a = nI (100 + a) from nI_add 100 a, show nI (100 + a) + (2 : Int32) = nI (100 + (a + 2)) from nI_add _ 2]
                exact ⟨fun _ => ⟨fun q => absurd rfl q, fun _ => h0 (a + 2) w hr.symm hd⟩, fun c => absurd (Int32.le_refl _) c⟩
            | some c =>
              rw [ec] at i1
              have c6 := (fgF_lt (by decide) ec).1
              have i2 : itF tx n b a = if freB b l c = true then (fgF tx n (a + 3) 10).elim (Sum.inl 3) (fun d => Sum.inr (k, l, c, d)) else Sum.inl 2 := i1
              refine ⟨fun q => absurd q (nI_ne_m9 (by omega)), fun _ => ?_⟩
              unfold wp_X5_read_J142
              simp only [wp_X5_read_L147]
              refine lc7 (bN b) (fun i p1 p2 p3 p4 p5 p6 w => p1 = nI (bN b) ∧ p2 = nI a ∧ p3 = nI k ∧ p4 = nI l ∧ p5 = nI c ∧ p6 = nI (decide (∀ j, j < i → ¬ (bL b j = l ∧ bC b j = c))).toNat ∧ w = v) ⟨rfl, rfl, rfl, rfl, rfl, by rw [decide_eq_true (fun j hj => absurd hj (Nat.not_lt_zero _))]; rfl, rfl⟩ ?_ ?_
              · rintro K3 i p1 p2 p3 p4 p5 p6 w hi ⟨rfl, rfl, rfl, rfl, rfl, rfl, rfl⟩ hK3
                obtain ⟨m1, m2, m3, m4⟩ := hDM i hi
                obtain ⟨k1, k2, k3, k4⟩ := hb.2 i hi
                have v14 : vp_in (nI (7 + i)) 14 := vp_in_nI (by omega) (by decide)
                unfold wp_X5_read_B147 wp_X5_read_J192 wp_X5_read_J188
                rw [nI_1 i, show (7 : Int32) + nI i = nI (7 + i) from nI_add 7 i, tNn (n := 7 + i) (by omega), m2, m3]
                refine ⟨fun c => absurd c (nI_ge hi (by omega)), fun _ => ?_⟩
                by_cases hz : ∀ j, j < i → ¬ (bL b j = l ∧ bC b j = c)
                · rw [decide_eq_true hz]
                  have nx : ¬ (bL b i = l ∧ bC b i = c) → K3 (nI (bN b)) (nI a) (nI k) (nI l) (nI c) 1 (nI (i + 1)) w := fun q => hK3 _ _ _ _ _ _ _ ⟨rfl, rfl, rfl, rfl, rfl, by
                    rw [decide_eq_true (fun j hj => ?_)]; rfl
                    by_cases e : j = i
                    · subst e; exact q
                    · exact hz j (by omega), rfl⟩
                  refine ⟨fun q => absurd q (by decide), fun _ => ⟨v14, fun q => nx (fun z => q (by rw [z.1])), fun q => ⟨v14, fun q2 => hK3 _ _ _ _ _ _ _ ⟨rfl, rfl, rfl, rfl, rfl, ?_, rfl⟩, fun q2 => nx (fun z => q2 (by rw [z.2]))⟩⟩⟩
                  rw [decide_eq_false (fun z => z i (Nat.lt_succ_self _) ⟨(nI_eq (by omega) (by omega)).mp q, (nI_eq (by omega) (by omega)).mp q2⟩)]; rfl
                · rw [decide_eq_false hz]
                  refine ⟨fun _ => hK3 _ _ _ _ _ _ _ ⟨rfl, rfl, rfl, rfl, rfl, ?_, rfl⟩, fun q => absurd rfl q⟩
                  rw [decide_eq_false (fun z => hz (fun j hj => z j (by omega)))]; rfl
              · rintro K3 p1 p2 p3 p4 p5 p6 w ⟨rfl, rfl, rfl, rfl, rfl, rfl, rfl⟩
                unfold wp_X5_read_B147
                rw [show (100 : Int32) + nI a = nI (100 + a) from nI_add 100 a, show nI (100 + a) + (2 : Int32) = nI (100 + (a + 2)) from nI_add _ 2, show nI (100 + a) + (3 : Int32) = nI (100 + (a + 3)) from nI_add _ 3, show nI a + (3 : Int32) = nI (a + 3) from nI_add a 3, show nI a + (4 : Int32) = nI (a + 4) from nI_add a 4, show (7 : Int32) + nI (bN b) = nI (7 + bN b) from nI_add 7 _, nI_1 (bN b)]
                refine ⟨fun _ => ?_, fun c => absurd (Int32.le_refl _) c⟩
                by_cases hz : ∀ j, j < bN b → ¬ (bL b j = l ∧ bC b j = c)
                · have fr : freB b l c = true := decide_eq_true hz
                  rw [if_pos fr] at i2
                  rw [decide_eq_true hz]
                  refine ⟨fun _ => s_figM (e := 10) hTv (by omega) (by decide) (by decide) ?_, fun q => absurd q (by decide)⟩
                  cases ed : fgF tx n (a + 3) 10 with
                  | none =>
                    rw [ed] at i2
                    rw [rd_bad (by omega) (s := 3) i2] at hr
                    exact ⟨fun q => absurd rfl q, fun _ => h0 (a + 3) w hr.symm hd⟩
                  | some d =>
                    rw [ed] at i2
                    have d10 := fgF_lt (by decide) ed
                    rw [rd_ok (by omega) (show itF tx n b a = Sum.inr (k, l, c, d) from i2)] at hr
                    have v14 : vp_in (nI (7 + bN b)) 14 := vp_in_nI (by omega) (by decide)
                    refine ⟨fun _ => ?_, fun q => absurd q (nI_ne_m9 (by omega))⟩
                    simp only [nxt]
                    rw [tNn (n := 7 + bN b) (by omega)]
                    exact ⟨v14, v14, v14, v14, hK (n - (a + 4)) _ _ _ (by omega) ⟨(((hd.wr (by omega)).wr (by omega)).wr (by omega)).wr (by omega), a + 4, psF b k l c d, rfl, rfl, by omega, rfl, ps_ok hb n7 k6 l4 c6 d10.1, hDM.push, by rw [← hr]; show rdF tx n (7 - (bN b + 1)) _ _ = _; rfl⟩⟩
                · rw [if_neg (show ¬ freB b l c = true from fun q => hz (of_decide_eq_true q))] at i2
                  rw [rd_bad (by omega) (s := 2) i2] at hr
                  rw [decide_eq_false hz]
                  exact ⟨fun q => absurd rfl q, fun _ => h0 (a + 2) w hr.symm hd⟩
        · have e7 : bN b = 7 := (nI_eq (b := 7) (by omega) (by decide)).mp c7
          rw [e7, Nat.sub_self, rd_full (by omega)] at hr
          exact h0 a v hr.symm hd
    · have e : a = n := (nI_eq (by omega) (by omega)).mp c
      subst e
      rw [rd_end] at hr
      refine ⟨fun c2 => ?_, fun c2 => ?_⟩
      · rw [if_pos ((nI_leI (a := 2) (by decide) (by omega)).mp c2)] at hr
        exact h1 b v hr.symm hb7 hDM hd
      · rw [if_neg (fun q => c2 ((nI_leI (a := 2) (by decide) (by omega)).mpr q))] at hr
        exact h0 _ v hr.symm hd
  unfold wp_X5_read_B4
  have tt := hT.1
  rw [tNn (by omega), e3, show (60 : Int32) = nI 60 from rfl, pk_mul, nI_add, tNn (by omega)]
  refine ⟨v4, fun c => ?_, fun c => ?_⟩
  · have e : a = n := by have := (nI_leI (by omega) (by omega)).mp c; omega
    exact j36 (by rw [e, sk_end])
  · have an : a < n := Nat.not_le.mp (fun q => c ((nI_leI (by omega) (by omega)).mpr q))
    rw [hTv.2.2.2 a an, nI_1]
    refine ⟨vp_in_nI (by omega) (by decide), fun e => j36 (sk_no an e), fun e => hK (n - (a + 1)) _ _ _ (by omega) ⟨hd, a + 1, b, rfl, rfl, an, rfl, hb, hDM, by rw [← sk_bl an e]; exact hr⟩⟩
