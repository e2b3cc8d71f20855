/-! PURE: reading a text: letters, figures, blanks -/
def kdF (x : Int32) : Option Nat := if x = 107 then some 0 else if x = 118 then some 1 else if x = 115 then some 2 else if x = 117 then some 3 else if x = 116 then some 4 else if x = 119 then some 5 else none
theorem kd_some : ∀ k, k < 6 → kdF (letT k) = some k := by decide
theorem kd_lt {x : Int32} {k : Nat} (h : kdF x = some k) : k < 6 := by
  unfold kdF at h
  repeat' split at h
  all_goals (cases h; try decide)
theorem kd_none {x : Int32} (h : ∀ j, j < 6 → ¬ letT j = x) : kdF x = none := by
  have h0 : ¬ x = 107 := fun e => h 0 (by decide) e.symm
  have h1 : ¬ x = 118 := fun e => h 1 (by decide) e.symm
  have h2 : ¬ x = 115 := fun e => h 2 (by decide) e.symm
  have h3 : ¬ x = 117 := fun e => h 3 (by decide) e.symm
  have h4 : ¬ x = 116 := fun e => h 4 (by decide) e.symm
  have h5 : ¬ x = 119 := fun e => h 5 (by decide) e.symm
  unfold kdF
  rw [if_neg h0, if_neg h1, if_neg h2, if_neg h3, if_neg h4, if_neg h5]
theorem s_letter {x : Int32} {u : St} {Q : Int32 → St → Prop} (h : Q (oI (kdF x)) u) : wp_X0_kindOfLetter x u Q := by
  unfold wp_X0_kindOfLetter
  simp only [wp_X0_kindOfLetter_L2]
  refine lc1 6 (fun k v => v = u ∧ ∀ j, j < k → ¬ letT j = x) ⟨rfl, fun j hj => absurd hj (by omega)⟩ ?_ ?_
  · rintro K k v hk ⟨rfl, hr⟩ hK
    unfold wp_X0_kindOfLetter_B2
    rw [tNn (by omega), nI_1]
    refine ⟨fun c => absurd c (nI_ge (b := 6) hk (by decide)), fun _ => ⟨vp_in_nI hk (by decide), fun c => hK _ ⟨rfl, fun j hj => ?_⟩, fun c => ?_⟩⟩
    · by_cases e : j = k
      · subst e; exact c
      · exact hr j (by omega)
    · subst c
      rw [kd_some k hk] at h
      exact h
  · rintro K v ⟨rfl, hr⟩
    unfold wp_X0_kindOfLetter_B2
    rw [kd_none hr] at h
    exact ⟨fun _ => h, fun c => absurd (Int32.le_refl _) c⟩
theorem s_kindM {x : Int32} {u : St} {Q : Int32 → St → Prop} (h : Q (oI (kdF x)) u) : wp_X5_kindOf x u Q := by
  unfold kdF at h
  unfold wp_X5_kindOf
  refine ⟨fun c0 => ⟨fun c1 => ⟨fun c2 => ⟨fun c3 => ⟨fun c4 => ⟨fun c5 => ?_, fun c => ?_⟩, fun c => ?_⟩, fun c => ?_⟩, fun c => ?_⟩, fun c => ?_⟩, fun c => ?_⟩
  · rw [if_neg c0, if_neg c1, if_neg c2, if_neg c3, if_neg c4, if_neg c5] at h; exact h
  · rw [if_neg c0, if_neg c1, if_neg c2, if_neg c3, if_neg c4, if_pos c] at h; exact h
  · rw [if_neg c0, if_neg c1, if_neg c2, if_neg c3, if_pos c] at h; exact h
  · rw [if_neg c0, if_neg c1, if_neg c2, if_pos c] at h; exact h
  · rw [if_neg c0, if_neg c1, if_pos c] at h; exact h
  · rw [if_neg c0, if_pos c] at h; exact h
  · rw [if_pos c] at h; exact h
/-- a figure below e, or none -/
def fgI (y : Int32) (e : Nat) : Option Nat := if y < 0 ∨ nI e ≤ y then none else some (Int32.toNatClampNeg y)
theorem fgI_no {y : Int32} {e : Nat} (h : y < 0 ∨ nI e ≤ y) : fgI y e = none := if_pos h
theorem fgI_yes {j e : Nat} (h : j < e) (he : e < 2 ^ 31) : fgI (nI j) e = some j := by
  unfold fgI
  rw [if_neg (fun q => q.elim (nI_pos (by omega)) (nI_ge h he)), tNn (by omega)]
theorem fgI_lt {y : Int32} {j e : Nat} (he : e < 2 ^ 31) (h : fgI y e = some j) : j < e ∧ y = nI j := by
  rcases pk_ix y (n := e) he with z | z | ⟨k, hk, rfl⟩
  · rw [fgI_no (Or.inl z)] at h; cases h
  · rw [fgI_no (Or.inr z)] at h; cases h
  · rw [fgI_yes hk he] at h
    cases h
    exact ⟨hk, rfl⟩
theorem s_figX {x : Int32} {e : Nat} {u : St} {Q : Int32 → St → Prop} (he : e < 2 ^ 31) (h : Q (oI (fgI (x - 48) e)) u) : wp_X0_figure x (nI e) u Q := by
  unfold wp_X0_figure
  rcases pk_ix (x - 48) (n := e) he with z | z | ⟨k, hk, ek⟩
  · rw [fgI_no (Or.inl z)] at h
    exact w_bad (Or.inl z) ⟨fun _ => h, fun q => absurd rfl q⟩
  · rw [fgI_no (Or.inr z)] at h
    exact w_bad (Or.inr z) ⟨fun _ => h, fun q => absurd rfl q⟩
  · rw [ek, fgI_yes hk he] at h
    rw [ek]
    exact w_ok hk he ⟨fun q => absurd q (by decide), fun _ => h⟩
theorem s_figM0 {y p1 p2 : Int32} {e : Nat} {u : St} {Q : Int32 → St → Prop} (e0 : 0 < e) (he : e < 2 ^ 31) (h : Q (oI (fgI y e)) u) : wp_X5_figure_J29 p1 p2 (nI (e - 1)) Q y u := by
  unfold wp_X5_figure_J29
  rcases pk_ix y (n := e) he with z | z | ⟨k, hk, rfl⟩
  · rw [fgI_no (Or.inl z)] at h
    exact in_bad e0 he rfl (Or.inl z) ⟨fun _ => h, fun q => absurd rfl q⟩
  · rw [fgI_no (Or.inr z)] at h
    exact in_bad e0 he rfl (Or.inr z) ⟨fun _ => h, fun q => absurd rfl q⟩
  · rw [fgI_yes hk he] at h
    exact in_ok hk he rfl ⟨fun q => absurd q (by decide), fun _ => h⟩
/-- the text t of n signs, in cells k1 and k2 -/
def TX (k1 k2 t n : Nat) (tx : Nat → Int32) (u : St) : Prop := t < 4 ∧ n ≤ 60 ∧ gi u k1 t = nI n ∧ ∀ i, i < n → gi u k2 (60 * t + i) = tx i
theorem TX.to {k1 k2 t n : Nat} {tx : Nat → Int32} {u v : St} (h : TX k1 k2 t n tx u) (h1 : ∀ i, gi v k1 i = gi u k1 i) (h2 : ∀ i, gi v k2 i = gi u k2 i) : TX k1 k2 t n tx v := ⟨h.1, h.2.1, (h1 _).trans h.2.2.1, fun i hi => (h2 _).trans (h.2.2.2 i hi)⟩
def fgF (tx : Nat → Int32) (n a e : Nat) : Option Nat := if a < n then fgI (tx a - 48) e else none
theorem fgF_lt {tx : Nat → Int32} {n a e j : Nat} (he : e < 2 ^ 31) (h : fgF tx n a e = some j) : j < e ∧ a < n := by
  unfold fgF at h
  by_cases q : a < n
  · rw [if_pos q] at h; exact ⟨(fgI_lt he h).1, q⟩
  · rw [if_neg q] at h; cases h
theorem get_beyond {b P w j n i : Nat} {u : St} {Q : Int32 → St → Prop} (hs : Sh b P w u) (hj : j < P) (hn : n ≤ w) (hm : gi u (b + 1) j = nI n) (hi : n ≤ i) (hi2 : i < 2 ^ 31) (h : Q 0 u) : wp_X2_get b (nI j) (nI i) u Q := by
  have hw := hs.2.2.2.2.2.2
  unfold wp_X2_get
  refine size_ok hs hj ?_
  rw [hm]
  exact w_bad (Or.inr ((nI_leI (by omega) hi2).mpr hi)) ⟨fun _ => h, fun q => absurd rfl q⟩
theorem s_fig {t n a e : Nat} {tx : Nat → Int32} {u : St} {Q : Int32 → St → Prop} (hC : iC u) (hT : TX 5 6 t n tx u) (ha : a < 1000) (he : e < 2 ^ 31) (h : Q (oI (fgF tx n a e)) u) : wp_X2_get 4 (nI t) (nI a) u (fun r u1 => wp_X0_figure r (nI e) u1 Q) := by
  obtain ⟨h1, h2, h3, h4⟩ := hT
  unfold fgF at h
  by_cases q : a < n
  · rw [if_pos q] at h
    refine get_ok (Sh4 hC) h1 h2 h3 q (s_figX he ?_)
    rw [show gi u (4 + 2) (60 * t + a) = tx a from h4 a q]
    exact h
  · rw [if_neg q] at h
    refine get_beyond (Sh4 hC) h1 h2 h3 (by omega) (by omega) (s_figX he ?_)
    rw [fgI_no (Or.inl (by decide))]
    exact h
theorem s_figM {t n a e : Nat} {tx : Nat → Int32} {u : St} {Q : Int32 → St → Prop} (hT : TX 43 44 t n tx u) (ha : a < 1000) (e0 : 0 < e) (he : e < 2 ^ 31) (h : Q (oI (fgF tx n a e)) u) : wp_X5_figure (nI t) (nI a) (nI (e - 1)) u Q := by
  obtain ⟨h1, h2, h3, h4⟩ := hT
  unfold fgF at h
  unfold wp_X5_figure
  rw [tNn (by omega), h3, show (60 : Int32) = nI 60 from rfl, pk_mul, nI_add, tNn (by omega)]
  by_cases q : a < n
  · rw [if_pos q] at h
    rw [h4 a q]
    exact ⟨vp_in_nI h1 (by decide), fun c => absurd c (nI_ge q (by omega)), fun _ => ⟨vp_in_nI (by omega) (by decide), s_figM0 e0 he h⟩⟩
  · rw [if_neg q] at h
    refine ⟨vp_in_nI h1 (by decide), fun _ => s_figM0 e0 he ?_, fun c => absurd ((nI_leI (by omega) (by omega)).mpr (by omega)) c⟩
    rw [fgI_no (Or.inl (by decide))]
    exact h
/-- behind the blanks -/
def skD (tx : Nat → Int32) : Nat → Nat → Nat
  | 0, a => a
  | d + 1, a => if tx a = 32 then skD tx d (a + 1) else a
def skF (tx : Nat → Int32) (n a : Nat) : Nat := skD tx (n - a) a
theorem sk_end (tx : Nat → Int32) (n : Nat) : skF tx n n = n := by unfold skF; rw [Nat.sub_self]; rfl
theorem sk_bl {tx : Nat → Int32} {n a : Nat} (h : a < n) (e : tx a = 32) : skF tx n a = skF tx n (a + 1) := by
  unfold skF
  rw [show n - a = (n - (a + 1)) + 1 by omega, skD, if_pos e]
theorem sk_no {tx : Nat → Int32} {n a : Nat} (h : a < n) (e : ¬ tx a = 32) : skF tx n a = a := by
  unfold skF
  rw [show n - a = (n - (a + 1)) + 1 by omega, skD, if_neg e]
theorem skD_le (tx : Nat → Int32) (d a : Nat) : a ≤ skD tx d a ∧ skD tx d a ≤ a + d := by
  induction d generalizing a with
  | zero => exact ⟨Nat.le_refl _, Nat.le_refl _⟩
  | succ d ih =>
    have := ih (a + 1)
    unfold skD
    split <;> omega
theorem sk_le {tx : Nat → Int32} {n a : Nat} (h : a ≤ n) : a ≤ skF tx n a ∧ skF tx n a ≤ n := by
  have := skD_le tx (n - a) a
  unfold skF
  omega
theorem s_blanks {t n a : Nat} {tx : Nat → Int32} {u : St} {Q : Int32 → St → Prop} (hC : iC u) (hT : TX 5 6 t n tx u) (ha : a ≤ n) (h : Q (nI (skF tx n a)) u) : wp_X0_behindBlanks 4 (nI t) (nI a) u Q := by
  obtain ⟨h1, h2, h3, h4⟩ := hT
  unfold wp_X0_behindBlanks
  refine size_ok (Sh4 hC) h1 ?_
  rw [show gi u (4 + 1) t = nI n from h3]
  simp only [wp_X0_behindBlanks_L9]
  refine lqw2 (fun k x y v => v = u ∧ x = nI n ∧ ∃ p, y = nI p ∧ p ≤ n ∧ k = n - p ∧ skF tx n p = skF tx n a) ?_ (k := n - a) ⟨rfl, rfl, a, rfl, ha, rfl, rfl⟩
  rintro K k x y v ⟨rfl, rfl, p, rfl, hp, rfl, hsk⟩ hK
  unfold wp_X0_behindBlanks_B9
  refine ⟨fun c => ?_, fun c => ?_⟩
  · have : p = n := by
      have := (nI_leI (by omega) (by omega)).mp c
      omega
    subst this
    rw [← hsk, sk_end] at h
    exact h
  · have pn : p < n := Nat.not_le.mp (fun q => c ((nI_leI (by omega) (by omega)).mpr q))
    refine get_ok (Sh4 hC) h1 h2 h3 pn ?_
    rw [show gi v (4 + 2) (60 * t + p) = tx p from h4 p pn, nI_1]
    refine ⟨fun e => hK (n - (p + 1)) _ _ _ (by omega) ⟨rfl, rfl, p + 1, rfl, pn, rfl, by rw [← sk_bl pn e]; exact hsk⟩, fun e => ?_⟩
    rw [← hsk, sk_no pn e] at h
    exact h
