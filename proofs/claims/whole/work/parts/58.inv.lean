/-! PURE: deeds and moments; what holds between the class's cells and the reference's -/
def mt0 : Mt := (0, 0, 0, fun _ => 0)
def passF (m : Mt) : Mt := (mS m + 1, mP m, mC m, fun i => if (mP m).testBit i = true then (if mH m i < 9 then mH m i + 1 else 9) else mH m i)
def deedF (d : Nat) (m : Mt) : Mt := if d = 7 then passF m else if 8 ≤ d then (mS m, mP m, mC m ^^^ 2 ^ (d - 8), mH m) else (mS m, mP m ^^^ 2 ^ d, mC m, fun i => if i = d then 0 else mH m i)
def mtR (ds : Nat → Nat) : Nat → Mt
  | 0 => mt0
  | k + 1 => deedF (ds k) (mtR ds k)
def dOk (n d : Nat) : Prop := d < 12 ∧ (d < 7 → d < n)
def mtv (m : Mt) (j : Nat) : Nat := if j = 0 then mP m else if j = 1 then mS m else if j = 2 then mC m else mH m (j - 3)
/-- a moment of a board of n keys, behind at most t scans -/
def mOk (n t : Nat) (m : Mt) : Prop := mS m ≤ t ∧ mC m < 16 ∧ mP m < 2 ^ n ∧ ∀ i, mH m i ≤ 9
theorem mOk_mt {n t : Nat} {m : Mt} (h : mOk n t m) (hn : n ≤ 7) (ht : t ≤ 100) : mtOk m := ⟨Nat.le_trans h.1 ht, h.2.1, Nat.lt_of_lt_of_le h.2.2.1 (two7 hn), h.2.2.2⟩
theorem mOk_0 (n t : Nat) : mOk n t mt0 := ⟨Nat.zero_le _, (by decide : (0 : Nat) < 16), Nat.two_pow_pos n, fun _ => Nat.zero_le _⟩
theorem passF_ok {n t : Nat} {m : Mt} (h : mOk n t m) : mOk n (t + 1) (passF m) := by
  refine ⟨Nat.succ_le_succ h.1, h.2.1, h.2.2.1, fun i => ?_⟩
  have := h.2.2.2 i
  show (if (mP m).testBit i = true then (if mH m i < 9 then mH m i + 1 else 9) else mH m i) ≤ 9
  split
  · split <;> omega
  · exact this
theorem deedF_ok {n t d : Nat} {m : Mt} (h : mOk n t m) (hd : dOk n d) : mOk n (t + 1) (deedF d m) := by
  unfold deedF
  split
  · exact passF_ok h
  · split
    · exact ⟨Nat.le_trans h.1 (Nat.le_succ _), Nat.xor_lt_two_pow (n := 4) h.2.1 (Nat.pow_lt_pow_right (by decide : 1 < 2) (by have := hd.1; omega) : 2 ^ (d - 8) < 2 ^ 4), h.2.2.1, h.2.2.2⟩
    · have hdn : d < n := hd.2 (by omega)
      refine ⟨Nat.le_trans h.1 (Nat.le_succ _), h.2.1, Nat.xor_lt_two_pow h.2.2.1 (Nat.pow_lt_pow_right (by decide : 1 < 2) hdn), fun i => ?_⟩
      have := h.2.2.2 i
      show (if i = d then 0 else mH m i) ≤ 9
      split <;> omega
theorem mtR_ok {n : Nat} {ds : Nat → Nat} {k : Nat} (h : ∀ i, i < k → dOk n (ds i)) : mOk n k (mtR ds k) := by
  induction k with
  | zero => exact mOk_0 n 0
  | succ k ih => exact deedF_ok (ih (fun i hi => h i (by omega))) (h k (by omega))
theorem mtR_congr {ds ds' : Nat → Nat} {k : Nat} (h : ∀ i, i < k → ds i = ds' i) : mtR ds k = mtR ds' k := by
  induction k with
  | zero => rfl
  | succ k ih =>
    show deedF (ds k) (mtR ds k) = deedF (ds' k) (mtR ds' k)
    rw [ih (fun i hi => h i (by omega)), h k (by omega)]
/-! the parts of what holds -/
def ShR (xs xc ms mc w P : Nat) (u : St) : Prop := ∀ r, r < P → (gi u xs r = -1 ∧ gi u ms r = -1) ∨ ∃ n, n ≤ w ∧ gi u xs r = nI n ∧ gi u ms r = nI n ∧ ∀ i, i < n → gi u mc (w * r + i) = gi u xc (w * r + i)
def iC (u : St) : Prop := gi u 1 0 = nI 6 ∧ gi u 1 1 = nI 40 ∧ gi u 4 0 = nI 4 ∧ gi u 4 1 = nI 60 ∧ gi u 7 0 = nI 4 ∧ gi u 7 1 = nI 40
def iF (u : St) : Prop := gi u 39 0 = gi u 0 11 ∧ ∀ f, f < 6 → gi u 40 f = gi u 38 f
def BM (b : Bd) (u : St) : Prop := gi u 39 10 = nI (bN b) ∧ ∀ i, i < bN b → gi u 46 i = nI (bK b i) ∧ gi u 47 i = nI (bL b i) ∧ gi u 48 i = nI (bC b i) ∧ gi u 49 i = nI (bD b i)
def bdD (b : Bd) : Prop := ∀ i j, i < bN b → j < bN b → bL b i = bL b j → bC b i = bC b j → i = j
def iB (b : Bd) (u : St) : Prop := bdOk b ∧ bdD b ∧ (bN b = 0 ∨ 2 ≤ bN b) ∧ LX 10 b u ∧ BM b u
def iD (b : Bd) (ds : Nat → Nat) (nd : Nat) (u : St) : Prop := nd ≤ 40 ∧ gi u 8 3 = nI nd ∧ gi u 39 16 = nI nd ∧ (∀ i, i < nd → dOk (bN b) (ds i) ∧ gi u 9 (120 + i) = nI (ds i)) ∧ (∀ d, d ≤ nd → ∀ j, j < 10 → gi u 50 (10 * d + j) = nI (mtv (mtR ds d) j)) ∧ MX 20 (mtR ds nd) u
def iK (b : Bd) (u : St) : Prop := ∀ k, k < 3 → (gi u 8 k = -1 ∧ gi u 52 k = -1) ∨ ∃ n ds, n ≤ 40 ∧ gi u 8 k = nI n ∧ gi u 52 k = nI n ∧ (∀ i, i < n → dOk (bN b) (ds i) ∧ gi u 9 (40 * k + i) = nI (ds i)) ∧ ∀ d, d ≤ n → ∀ j, j < 10 → gi u 51 (410 * k + 10 * d + j) = nI (mtv (mtR ds d) j)
def core (u : St) : Prop := iC u ∧ ShR 2 3 41 42 40 6 u ∧ ShR 5 6 43 44 60 4 u ∧ iF u ∧ ∃ b, iB b u ∧ (∃ ds nd, iD b ds nd u) ∧ iK b u
def Inv (u : St) : Prop := core u ∧ gi u 39 2 = gi u 0 12 ∧ gl u 39 3 = gl u 0 13 ∧ gl u 39 4 = gl u 0 14
/-- the cells that hold what lasts -/
def pers (k : Nat) : Prop := (1 ≤ k ∧ k ≤ 14) ∨ k = 20 ∨ k = 21 ∨ k = 38 ∨ (40 ≤ k ∧ k ≤ 44) ∨ (46 ≤ k ∧ k ≤ 52)
def Frm (u u' : St) : Prop := Same pers u u' ∧ gi u' 0 11 = gi u 0 11 ∧ gi u' 39 0 = gi u 39 0 ∧ gi u' 39 10 = gi u 39 10 ∧ gi u' 39 16 = gi u 39 16
theorem Frm.rfl' {u : St} : Frm u u := ⟨Same.rfl', rfl, rfl, rfl, rfl⟩
theorem Frm.trans {u v w : St} (h : Frm u v) (h2 : Frm v w) : Frm u w := ⟨h.1.trans h2.1, h2.2.1.trans h.2.1, h2.2.2.1.trans h.2.2.1, h2.2.2.2.1.trans h.2.2.2.1, h2.2.2.2.2.trans h.2.2.2.2⟩
theorem Frm.wr {u v : St} {k i : Nat} {x : Int32} (h : Frm u v) (hk : ¬ pers k) (h0 : k = 0 → i ≠ 11) (h1 : k = 39 → i ≠ 0 ∧ i ≠ 10 ∧ i ≠ 16) : Frm u (si v k i x) := by
  have key : ∀ k' i', (k' = k → i' ≠ i) → gi (si v k i x) k' i' = gi v k' i' := fun k' i' q => by
    by_cases e : k' = k
    · exact gi_ni (q e)
    · exact gi_nk e
  refine ⟨h.1.si hk, ?_, ?_, ?_, ?_⟩
  · rw [key _ _ (fun e => (h0 e.symm).symm)]; exact h.2.1
  · rw [key _ _ (fun e => (h1 e.symm).1.symm)]; exact h.2.2.1
  · rw [key _ _ (fun e => (h1 e.symm).2.1.symm)]; exact h.2.2.2.1
  · rw [key _ _ (fun e => (h1 e.symm).2.2.symm)]; exact h.2.2.2.2
theorem Frm.same {P : Nat → Prop} {u v : St} (h : Same P u v) (hp : ∀ k, pers k → P k) (h0 : P 0) (h9 : P 39) : Frm u v := ⟨h.weak hp, h.1 _ _ h0, h.1 _ _ h9, h.1 _ _ h9, h.1 _ _ h9⟩
theorem ShR.same {P : Nat → Prop} {u v : St} {xs xc ms mc w p : Nat} (h : ShR xs xc ms mc w p u) (s : Same P u v) (h1 : P xs) (h2 : P xc) (h3 : P ms) (h4 : P mc) : ShR xs xc ms mc w p v := fun r hr => by
  rcases h r hr with ⟨q1, q2⟩ | ⟨n, q1, q2, q3, q4⟩
  · exact Or.inl ⟨(s.1 _ _ h1).trans q1, (s.1 _ _ h3).trans q2⟩
  · exact Or.inr ⟨n, q1, (s.1 _ _ h1).trans q2, (s.1 _ _ h3).trans q3, fun i hi => (s.1 _ _ h4).trans ((q4 i hi).trans (s.1 _ _ h2).symm)⟩
theorem iC.same {P : Nat → Prop} {u v : St} (h : iC u) (s : Same P u v) (h1 : P 1) (h4 : P 4) (h7 : P 7) : iC v := ⟨(s.1 _ _ h1).trans h.1, (s.1 _ _ h1).trans h.2.1, (s.1 _ _ h4).trans h.2.2.1, (s.1 _ _ h4).trans h.2.2.2.1, (s.1 _ _ h7).trans h.2.2.2.2.1, (s.1 _ _ h7).trans h.2.2.2.2.2⟩
theorem BM.same {P : Nat → Prop} {u v : St} {b : Bd} (h : BM b u) (s : Same P u v) (h9 : gi v 39 10 = gi u 39 10) (h1 : P 46 ∧ P 47 ∧ P 48 ∧ P 49) : BM b v := ⟨h9.trans h.1, fun i hi => ⟨(s.1 _ _ h1.1).trans (h.2 i hi).1, (s.1 _ _ h1.2.1).trans (h.2 i hi).2.1, (s.1 _ _ h1.2.2.1).trans (h.2 i hi).2.2.1, (s.1 _ _ h1.2.2.2).trans (h.2 i hi).2.2.2⟩⟩
theorem iB.same {P : Nat → Prop} {u v : St} {b : Bd} (h : iB b u) (s : Same P u v) (h9 : gi v 39 10 = gi u 39 10) (h1 : P 46 ∧ P 47 ∧ P 48 ∧ P 49) (h2 : ∀ j, j ≤ 4 → P (10 + j)) : iB b v := ⟨h.1, h.2.1, h.2.2.1, h.2.2.2.1.same s h2, h.2.2.2.2.same s h9 h1⟩
theorem iD.same {P : Nat → Prop} {u v : St} {b : Bd} {ds : Nat → Nat} {nd : Nat} (h : iD b ds nd u) (s : Same P u v) (h9 : gi v 39 16 = gi u 39 16) (h1 : P 8 ∧ P 9 ∧ P 50 ∧ P 20 ∧ P 21) : iD b ds nd v := ⟨h.1, (s.1 _ _ h1.1).trans h.2.1, h9.trans h.2.2.1, fun i hi => ⟨(h.2.2.2.1 i hi).1, (s.1 _ _ h1.2.1).trans (h.2.2.2.1 i hi).2⟩, fun d hd j hj => (s.1 _ _ h1.2.2.1).trans (h.2.2.2.2.1 d hd j hj), h.2.2.2.2.2.same s (fun j hj => by
    have : j = 0 ∨ j = 1 := by omega
    rcases this with rfl | rfl
    · exact h1.2.2.2.1
    · exact h1.2.2.2.2)⟩
theorem iK.same {P : Nat → Prop} {u v : St} {b : Bd} (h : iK b u) (s : Same P u v) (h1 : P 8 ∧ P 9 ∧ P 51 ∧ P 52) : iK b v := fun k hk => by
  rcases h k hk with ⟨q1, q2⟩ | ⟨n, ds, q1, q2, q3, q4, q5⟩
  · exact Or.inl ⟨(s.1 _ _ h1.1).trans q1, (s.1 _ _ h1.2.2.2).trans q2⟩
  · exact Or.inr ⟨n, ds, q1, (s.1 _ _ h1.1).trans q2, (s.1 _ _ h1.2.2.2).trans q3, fun i hi => ⟨(q4 i hi).1, (s.1 _ _ h1.2.1).trans (q4 i hi).2⟩, fun d hd j hj => (s.1 _ _ h1.2.2.1).trans (q5 d hd j hj)⟩
theorem core.frm {u v : St} (h : core u) (f : Frm u v) : core v := by
  obtain ⟨c1, c2, c3, ⟨c4, c5⟩, b, c6, ⟨ds, nd, c7⟩, c8⟩ := h
  have s := f.1
  have p : ∀ k, (1 ≤ k ∧ k ≤ 14) ∨ k = 20 ∨ k = 21 ∨ k = 38 ∨ (40 ≤ k ∧ k ≤ 44) ∨ (46 ≤ k ∧ k ≤ 52) → pers k := fun k h => h
  refine ⟨c1.same s (p _ (by omega)) (p _ (by omega)) (p _ (by omega)), c2.same s (p _ (by omega)) (p _ (by omega)) (p _ (by omega)) (p _ (by omega)), c3.same s (p _ (by omega)) (p _ (by omega)) (p _ (by omega)) (p _ (by omega)), ⟨f.2.2.1.trans (c4.trans f.2.1.symm), fun i hi => (s.1 _ _ (p _ (by omega))).trans ((c5 i hi).trans (s.1 _ _ (p _ (by omega))).symm)⟩, b, c6.same s f.2.2.2.1 ⟨p _ (by omega), p _ (by omega), p _ (by omega), p _ (by omega)⟩ (fun j hj => p _ (by omega)), ⟨ds, nd, c7.same s f.2.2.2.2 ⟨p _ (by omega), p _ (by omega), p _ (by omega), p _ (by omega), p _ (by omega)⟩⟩, c8.same s ⟨p _ (by omega), p _ (by omega), p _ (by omega), p _ (by omega)⟩⟩
/-! take, told now, on both sides -/
def NM (m : Mt) (nd : Nat) (u : St) : Prop := nd ≤ 40 ∧ gi u 39 16 = nI nd ∧ ∀ j, j < 10 → gi u 50 (10 * nd + j) = nI (mtv m j)
theorem s_X5_now {m : Mt} {nd j : Nat} {u : St} {Q : Int32 → St → Prop} (hN : NM m nd u) (hj : j < 10) (h : Q (nI (mtv m j)) u) : wp_X5_now (nI j) u Q := by
  have := hN.1
  unfold wp_X5_now
  rw [hN.2.1, show (10 : Int32) = nI 10 from rfl, pk_mul, nI_add, tNn (by omega), hN.2.2 j hj]
  exact ⟨vp_in_nI (by omega) (by decide), h⟩
def notK (k : Nat) : Prop := k ≠ 53 ∧ k ≠ 54 ∧ k ≠ 55 ∧ k ≠ 56
theorem s_X5_take {b : Bd} {m : Mt} {nd : Nat} {u : St} {Q : St → Prop} (hb : bdOk b) (hB : BM b u) (hN : NM m nd u) (h : ∀ u', TM b m (mP m) u' → Same notK u u' → Q u') : wp_X5_take u Q := by
  have hn := hb.1
  unfold wp_X5_take
  simp only [wp_X5_take_L2]
  refine lc1 10 (fun j v => Same notK u v ∧ ∀ i, i < j → gi v 53 i = nI (mtv m i)) ⟨Same.rfl', fun i hi => absurd hi (by omega)⟩ ?_ ?_
  · rintro K j v hj ⟨hS, hr⟩ hK
    have hNv : NM m nd v := ⟨hN.1, (hS.1 _ _ (by unfold notK; omega)).trans hN.2.1, fun j hj => (hS.1 _ _ (by unfold notK; omega)).trans (hN.2.2 j hj)⟩
    unfold wp_X5_take_B2
    refine ⟨fun c => absurd c (nI_ge hj (by decide)), fun _ => s_X5_now hNv hj ⟨vp_in_nI hj (by decide), ?_⟩⟩
    simp only [nxt]
    rw [tNn (by omega), nI_1]
    refine hK _ ⟨hS.si (by unfold notK; omega), fun i hi => ?_⟩
    rcases Nat.lt_or_ge i j with q | q
    · rw [gi_ni (by omega)]; exact hr i q
    · have : i = j := by omega
      subst this
      rw [gi_same]
  · rintro K v ⟨hS, hr⟩
    unfold wp_X5_take_B2
    refine ⟨fun _ => ?_, fun c => absurd (Int32.le_refl _) c⟩
    simp only [wp_X5_take_L27]
    refine lc1 (bN b) (fun i w => Same notK u w ∧ (∀ j, j < 10 → gi w 53 j = nI (mtv m j)) ∧ ∀ j, j < i → gi w 54 j = nI (bK b j) ∧ gi w 55 j = nI (bL b j) ∧ gi w 56 j = nI (bC b j)) ⟨hS, hr, fun i hi => absurd hi (by omega)⟩ ?_ ?_
    · rintro K2 i w hi ⟨hS, hr, ha⟩ hK2
      have hBw : BM b w := hB.same hS (hS.1 _ _ (by unfold notK; omega)) ⟨by unfold notK; omega, by unfold notK; omega, by unfold notK; omega, by unfold notK; omega⟩
      obtain ⟨e46, e47, e48, e49⟩ := hBw.2 i hi
      have v7 : vp_in (nI i) 7 := vp_in_nI (by omega) (by omega)
      have v14 : vp_in (nI i) 14 := vp_in_nI (by omega) (by omega)
      unfold wp_X5_take_B27
      simp only [nxt]
      rw [tNn (by omega), e46, hBw.1, gi_nk (show (47 : Nat) ≠ 54 by decide), e47, gi_nk (show (48 : Nat) ≠ 55 by decide), gi_nk (show (48 : Nat) ≠ 54 by decide), e48, nI_1]
      refine ⟨fun c => absurd c (nI_ge hi (by omega)), fun _ => ⟨v14, v7, v14, v7, v14, v7, hK2 _ ⟨((hS.si (by unfold notK; omega)).si (by unfold notK; omega)).si (by unfold notK; omega), fun j hj => ?_, fun j hj => ?_⟩⟩⟩
      · rw [gi_nk (by decide), gi_nk (by decide), gi_nk (by decide)]; exact hr j hj
      · rcases Nat.lt_or_ge j i with q | q
        · rw [gi_nk (by decide), gi_nk (by decide), gi_ni (by omega), gi_nk (by decide), gi_ni (by omega), gi_nk (by decide), gi_ni (by omega), gi_nk (by decide), gi_nk (by decide)]; exact ha j q
        · have : j = i := by omega
          subst this
          exact ⟨by rw [gi_nk (by decide), gi_nk (by decide), gi_same], by rw [gi_nk (by decide), gi_same], by rw [gi_same]⟩
    · rintro K2 w ⟨hS, hr, ha⟩
      have hBw : BM b w := hB.same hS (hS.1 _ _ (by unfold notK; omega)) ⟨by unfold notK; omega, by unfold notK; omega, by unfold notK; omega, by unfold notK; omega⟩
      unfold wp_X5_take_B27
      refine ⟨fun _ => h w ⟨hBw.1, fun i hi => ⟨(ha i hi).1, (ha i hi).2.1, (ha i hi).2.2, (hBw.2 i hi).2.2.2⟩, hr 0 (by decide), hr 1 (by decide), hr 2 (by decide), fun i hi => ?_⟩ hS, fun c => absurd (by rw [hBw.1]; exact Int32.le_refl _) c⟩
      have := hr (3 + i) (by omega)
      rw [this]
      unfold mtv
      rw [if_neg (by omega), if_neg (by omega), if_neg (by omega), show 3 + i - 3 = i by omega]
