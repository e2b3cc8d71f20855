/-! PURE: numbers, reading and writing the memory, loops -/
theorem lit (c : Nat) : (OfNat.ofNat c : Int32) = nI c := rfl
theorem litL (c : Nat) : (OfNat.ofNat c : Int64) = lN c := rfl
theorem tNn {n : Nat} (h : n < 2 ^ 31) : Int32.toNatClampNeg (nI n) = n := nI_clamp h
theorem gi_same {u : St} {k i : Nat} {v : Int32} : gi (si u k i v) k i = v := by simp [gi, si, upd]
theorem gi_nk {u : St} {k i k' i' : Nat} {v : Int32} (h : k' ≠ k) : gi (si u k i v) k' i' = gi u k' i' := by simp [gi, si, h]
theorem gi_ni {u : St} {k i k' i' : Nat} {v : Int32} (h : i' ≠ i) : gi (si u k i v) k' i' = gi u k' i' := by
  by_cases e : k' = k
  · subst e; simp [gi, si, upd, h]
  · exact gi_nk e
theorem gi_if {u : St} {k i k' i' : Nat} {v : Int32} : gi (si u k i v) k' i' = if k' = k ∧ i' = i then v else gi u k' i' := by
  by_cases e : k' = k
  · subst e
    by_cases e2 : i' = i
    · subst e2; simp [gi_same]
    · simp [gi_ni e2, e2]
  · simp [gi_nk e, e]
theorem gl_si {u : St} {k i : Nat} {v : Int32} {k' i' : Nat} : gl (si u k i v) k' i' = gl u k' i' := rfl
theorem gi_sl {u : St} {k i : Nat} {v : Int64} {k' i' : Nat} : gi (sl u k i v) k' i' = gi u k' i' := rfl
theorem gl_same {u : St} {k i : Nat} {v : Int64} : gl (sl u k i v) k i = v := by simp [gl, sl, vp_updL]
theorem gl_nk {u : St} {k i k' i' : Nat} {v : Int64} (h : k' ≠ k) : gl (sl u k i v) k' i' = gl u k' i' := by simp [gl, sl, h]
theorem gl_ni {u : St} {k i k' i' : Nat} {v : Int64} (h : i' ≠ i) : gl (sl u k i v) k' i' = gl u k' i' := by
  by_cases e : k' = k
  · subst e; simp [gl, sl, vp_updL, h]
  · exact gl_nk e
theorem gl_if {u : St} {k i k' i' : Nat} {v : Int64} : gl (sl u k i v) k' i' = if k' = k ∧ i' = i then v else gl u k' i' := by
  by_cases e : k' = k
  · subst e
    by_cases e2 : i' = i
    · subst e2; simp [gl_same]
    · simp [gl_ni e2, e2]
  · simp [gl_nk e, e]
theorem gi_sc {u : St} {k sp dp n k' i' : Nat} : gi (sc u k sp dp n) k' i' = if k' = k ∧ dp ≤ i' ∧ i' < dp + n then gi u k (sp + (i' - dp)) else gi u k' i' := by
  by_cases e : k' = k
  · subst e
    by_cases h : dp ≤ i' ∧ i' < dp + n
    · simp [gi, sc, va_cpy, h]
    · simp only [gi, sc, va_cpy, h, if_true, true_and, if_false]
  · simp [gi, sc, e]
theorem gl_sc {u : St} {k sp dp n k' i' : Nat} : gl (sc u k sp dp n) k' i' = gl u k' i' := rfl
/-- what is the same in two memories, but for some cells -/
def Same (P : Nat → Prop) (u u' : St) : Prop := (∀ k i, P k → gi u' k i = gi u k i) ∧ ∀ k i, P k → gl u' k i = gl u k i
theorem Same.rfl' {P : Nat → Prop} {u : St} : Same P u u := ⟨fun _ _ _ => rfl, fun _ _ _ => rfl⟩
theorem Same.trans {P : Nat → Prop} {u v w : St} (h : Same P u v) (h2 : Same P v w) : Same P u w := ⟨fun k i hk => (h2.1 k i hk).trans (h.1 k i hk), fun k i hk => (h2.2 k i hk).trans (h.2 k i hk)⟩
theorem Same.si {P : Nat → Prop} {u v : St} {k i : Nat} {x : Int32} (h : Same P u v) (hk : ¬ P k) : Same P u (si v k i x) := ⟨fun k' i' hk' => by
    have e : k' ≠ k := fun e => hk (e ▸ hk')
    rw [gi_nk e]
    exact h.1 k' i' hk', fun k' i' hk' => h.2 k' i' hk'⟩
theorem Same.sl {P : Nat → Prop} {u v : St} {k i : Nat} {x : Int64} (h : Same P u v) (hk : ¬ P k) : Same P u (sl v k i x) := ⟨fun k' i' hk' => h.1 k' i' hk', fun k' i' hk' => by
    have e : k' ≠ k := fun e => hk (e ▸ hk')
    rw [gl_nk e]
    exact h.2 k' i' hk'⟩
theorem Same.sc {P : Nat → Prop} {u v : St} {k sp dp n : Nat} (h : Same P u v) (hk : ¬ P k) : Same P u (sc v k sp dp n) := ⟨fun k' i' hk' => by
    have e : k' ≠ k := fun e => hk (e ▸ hk')
    rw [gi_sc, if_neg (fun q => e q.1)]
    exact h.1 k' i' hk', fun k' i' hk' => h.2 k' i' hk'⟩
theorem Same.weak {P P' : Nat → Prop} {u v : St} (h : Same P u v) (hp : ∀ k, P' k → P k) : Same P' u v := ⟨fun k i hk => h.1 k i (hp k hk), fun k i hk => h.2 k i (hp k hk)⟩
/-! loops: an invariant and a measure -/
theorem lq1 {A : Type} {F : (A → St → Prop) → A → St → Prop} {z : A → St → Prop} (I : A → St → Prop) (μ : A → St → Nat) (hs : ∀ (K : A → St → Prop) (a : A) (u : St), I a u → (∀ (a' : A) (u' : St), I a' u' → μ a' u' < μ a u → K a' u') → F K a u) {a : A} {u : St} (h : I a u) : ∃ n, lpN F z n a u := by
  have key : ∀ (n : Nat) (a : A) (u : St), I a u → μ a u < n → lpN F z n a u := by
    intro n
    induction n with
    | zero => intro a u _ h; exact absurd h (Nat.not_lt_zero _)
    | succ n ih => intro a u hi hm; exact hs _ a u hi (fun a' u' hi' hm' => ih a' u' hi' (by omega))
  exact ⟨_, key _ a u h (Nat.lt_succ_self _)⟩
theorem lq2 {A B : Type} {F : (A → B → St → Prop) → A → B → St → Prop} {z : A → B → St → Prop} (I : A → B → St → Prop) (μ : A → B → St → Nat) (hs : ∀ (K : A → B → St → Prop) (a : A) (b : B) (u : St), I a b u → (∀ (a' : A) (b' : B) (u' : St), I a' b' u' → μ a' b' u' < μ a b u → K a' b' u') → F K a b u) {a : A} {b : B} {u : St} (h : I a b u) : ∃ n, lpN F z n a b u := by
  have key : ∀ (n : Nat) (a : A) (b : B) (u : St), I a b u → μ a b u < n → lpN F z n a b u := by
    intro n
    induction n with
    | zero => intro a b u _ h; exact absurd h (Nat.not_lt_zero _)
    | succ n ih => intro a b u hi hm; exact hs _ a b u hi (fun a' b' u' hi' hm' => ih a' b' u' hi' (by omega))
  exact ⟨_, key _ a b u h (Nat.lt_succ_self _)⟩
theorem lq3 {A B C : Type} {F : (A → B → C → St → Prop) → A → B → C → St → Prop} {z : A → B → C → St → Prop} (I : A → B → C → St → Prop) (μ : A → B → C → St → Nat) (hs : ∀ (K : A → B → C → St → Prop) (a : A) (b : B) (c : C) (u : St), I a b c u → (∀ (a' : A) (b' : B) (c' : C) (u' : St), I a' b' c' u' → μ a' b' c' u' < μ a b c u → K a' b' c' u') → F K a b c u) {a : A} {b : B} {c : C} {u : St} (h : I a b c u) : ∃ n, lpN F z n a b c u := by
  have key : ∀ (n : Nat) (a : A) (b : B) (c : C) (u : St), I a b c u → μ a b c u < n → lpN F z n a b c u := by
    intro n
    induction n with
    | zero => intro a b c u _ h; exact absurd h (Nat.not_lt_zero _)
    | succ n ih => intro a b c u hi hm; exact hs _ a b c u hi (fun a' b' c' u' hi' hm' => ih a' b' c' u' hi' (by omega))
  exact ⟨_, key _ a b c u h (Nat.lt_succ_self _)⟩
theorem lq4 {A B C D : Type} {F : (A → B → C → D → St → Prop) → A → B → C → D → St → Prop} {z : A → B → C → D → St → Prop} (I : A → B → C → D → St → Prop) (μ : A → B → C → D → St → Nat) (hs : ∀ (K : A → B → C → D → St → Prop) (a : A) (b : B) (c : C) (d : D) (u : St), I a b c d u → (∀ (a' : A) (b' : B) (c' : C) (d' : D) (u' : St), I a' b' c' d' u' → μ a' b' c' d' u' < μ a b c d u → K a' b' c' d' u') → F K a b c d u) {a : A} {b : B} {c : C} {d : D} {u : St} (h : I a b c d u) : ∃ n, lpN F z n a b c d u := by
  have key : ∀ (n : Nat) (a : A) (b : B) (c : C) (d : D) (u : St), I a b c d u → μ a b c d u < n → lpN F z n a b c d u := by
    intro n
    induction n with
    | zero => intro a b c d u _ h; exact absurd h (Nat.not_lt_zero _)
    | succ n ih => intro a b c d u hi hm; exact hs _ a b c d u hi (fun a' b' c' d' u' hi' hm' => ih a' b' c' d' u' hi' (by omega))
  exact ⟨_, key _ a b c d u h (Nat.lt_succ_self _)⟩
theorem lq5 {A B C D E : Type} {F : (A → B → C → D → E → St → Prop) → A → B → C → D → E → St → Prop} {z : A → B → C → D → E → St → Prop} (I : A → B → C → D → E → St → Prop) (μ : A → B → C → D → E → St → Nat) (hs : ∀ (K : A → B → C → D → E → St → Prop) (a : A) (b : B) (c : C) (d : D) (e : E) (u : St), I a b c d e u → (∀ (a' : A) (b' : B) (c' : C) (d' : D) (e' : E) (u' : St), I a' b' c' d' e' u' → μ a' b' c' d' e' u' < μ a b c d e u → K a' b' c' d' e' u') → F K a b c d e u) {a : A} {b : B} {c : C} {d : D} {e : E} {u : St} (h : I a b c d e u) : ∃ n, lpN F z n a b c d e u := by
  have key : ∀ (n : Nat) (a : A) (b : B) (c : C) (d : D) (e : E) (u : St), I a b c d e u → μ a b c d e u < n → lpN F z n a b c d e u := by
    intro n
    induction n with
    | zero => intro a b c d e u _ h; exact absurd h (Nat.not_lt_zero _)
    | succ n ih => intro a b c d e u hi hm; exact hs _ a b c d e u hi (fun a' b' c' d' e' u' hi' hm' => ih a' b' c' d' e' u' hi' (by omega))
  exact ⟨_, key _ a b c d e u h (Nat.lt_succ_self _)⟩
/-- counting loops: the counter is the last number, or the only one -/
theorem lc1 {F : (Int32 → St → Prop) → Int32 → St → Prop} {z : Int32 → St → Prop} (e : Nat) (J : Nat → St → Prop) {u : St} (h0 : J 0 u) (hs : ∀ (K : Int32 → St → Prop) (i : Nat) (u : St), i < e → J i u → (∀ u', J (i + 1) u' → K (nI (i + 1)) u') → F K (nI i) u) (hx : ∀ (K : Int32 → St → Prop) (u : St), J e u → F K (nI e) u) : ∃ n, lpN F z n 0 u := by
  have key : ∀ (n i : Nat) (u : St), e - i < n → i ≤ e → J i u → lpN F z n (nI i) u := by
    intro n
    induction n with
    | zero => intro i u h; exact absurd h (Nat.not_lt_zero _)
    | succ n ih =>
      intro i u hm hi hJ
      rcases Nat.lt_or_ge i e with q | q
      · exact hs _ i u q hJ (fun u' hJ' => ih (i + 1) u' (by omega) q hJ')
      · have e1 : i = e := by omega
        subst e1
        exact hx _ u hJ
  exact ⟨e + 1, key _ 0 u (by omega) (Nat.zero_le _) h0⟩
theorem lc2 {A : Type} {F : (A → Int32 → St → Prop) → A → Int32 → St → Prop} {z : A → Int32 → St → Prop} (e : Nat) (J : Nat → A → St → Prop) {a : A} {u : St} (h0 : J 0 a u) (hs : ∀ (K : A → Int32 → St → Prop) (i : Nat) (a : A) (u : St), i < e → J i a u → (∀ a' u', J (i + 1) a' u' → K a' (nI (i + 1)) u') → F K a (nI i) u) (hx : ∀ (K : A → Int32 → St → Prop) (a : A) (u : St), J e a u → F K a (nI e) u) : ∃ n, lpN F z n a 0 u := by
  have key : ∀ (n i : Nat) (a : A) (u : St), e - i < n → i ≤ e → J i a u → lpN F z n a (nI i) u := by
    intro n
    induction n with
    | zero => intro i a u h; exact absurd h (Nat.not_lt_zero _)
    | succ n ih =>
      intro i a u hm hi hJ
      rcases Nat.lt_or_ge i e with q | q
      · exact hs _ i a u q hJ (fun a' u' hJ' => ih (i + 1) a' u' (by omega) q hJ')
      · have e1 : i = e := by omega
        subst e1
        exact hx _ a u hJ
  exact ⟨e + 1, key _ 0 a u (by omega) (Nat.zero_le _) h0⟩
theorem lc3 {A B : Type} {F : (A → B → Int32 → St → Prop) → A → B → Int32 → St → Prop} {z : A → B → Int32 → St → Prop} (e : Nat) (J : Nat → A → B → St → Prop) {a : A} {b : B} {u : St} (h0 : J 0 a b u) (hs : ∀ (K : A → B → Int32 → St → Prop) (i : Nat) (a : A) (b : B) (u : St), i < e → J i a b u → (∀ a' b' u', J (i + 1) a' b' u' → K a' b' (nI (i + 1)) u') → F K a b (nI i) u) (hx : ∀ (K : A → B → Int32 → St → Prop) (a : A) (b : B) (u : St), J e a b u → F K a b (nI e) u) : ∃ n, lpN F z n a b 0 u := by
  have key : ∀ (n i : Nat) (a : A) (b : B) (u : St), e - i < n → i ≤ e → J i a b u → lpN F z n a b (nI i) u := by
    intro n
    induction n with
    | zero => intro i a b u h; exact absurd h (Nat.not_lt_zero _)
    | succ n ih =>
      intro i a b u hm hi hJ
      rcases Nat.lt_or_ge i e with q | q
      · exact hs _ i a b u q hJ (fun a' b' u' hJ' => ih (i + 1) a' b' u' (by omega) q hJ')
      · have e1 : i = e := by omega
        subst e1
        exact hx _ a b u hJ
  exact ⟨e + 1, key _ 0 a b u (by omega) (Nat.zero_le _) h0⟩
theorem lc4 {A B C : Type} {F : (A → B → C → Int32 → St → Prop) → A → B → C → Int32 → St → Prop} {z : A → B → C → Int32 → St → Prop} (e : Nat) (J : Nat → A → B → C → St → Prop) {a : A} {b : B} {c : C} {u : St} (h0 : J 0 a b c u) (hs : ∀ (K : A → B → C → Int32 → St → Prop) (i : Nat) (a : A) (b : B) (c : C) (u : St), i < e → J i a b c u → (∀ a' b' c' u', J (i + 1) a' b' c' u' → K a' b' c' (nI (i + 1)) u') → F K a b c (nI i) u) (hx : ∀ (K : A → B → C → Int32 → St → Prop) (a : A) (b : B) (c : C) (u : St), J e a b c u → F K a b c (nI e) u) : ∃ n, lpN F z n a b c 0 u := by
  have key : ∀ (n i : Nat) (a : A) (b : B) (c : C) (u : St), e - i < n → i ≤ e → J i a b c u → lpN F z n a b c (nI i) u := by
    intro n
    induction n with
    | zero => intro i a b c u h; exact absurd h (Nat.not_lt_zero _)
    | succ n ih =>
      intro i a b c u hm hi hJ
      rcases Nat.lt_or_ge i e with q | q
      · exact hs _ i a b c u q hJ (fun a' b' c' u' hJ' => ih (i + 1) a' b' c' u' (by omega) q hJ')
      · have e1 : i = e := by omega
        subst e1
        exact hx _ a b c u hJ
  exact ⟨e + 1, key _ 0 a b c u (by omega) (Nat.zero_le _) h0⟩
