/-! PURE: Wires.attach -/
def PAt (u0 : St) (b : Bd) (m : Mt) (i j6 j7 j8 : Nat) (v : St) : Prop := gi v 24 5 = nI (bN b) ∧ (∀ k, k < i → gi v 25 k = nI (bL b k) ∧ gi v 26 k = nI (2 ^ bC b k)) ∧ gi v 24 6 = nI (maskF (rdyF b m) j6) ∧ gi v 24 7 = nI (maskF (alwF b m) j7) ∧ gi v 24 8 = nI (maskF (oneF b) j8) ∧ Same notW u0 v
theorem nI_mask (f : Nat → Bool) (i : Nat) : nI (maskF f i) ||| nI (if f i then 2 ^ i else 0) = nI (maskF f (i + 1)) := by rw [nI_or]; rfl
theorem notW24 : ¬ notW 24 := fun h => h.1 rfl
theorem notW25 : ¬ notW 25 := fun h => h.2.1 rfl
theorem notW26 : ¬ notW 26 := fun h => h.2.2 rfl
section AT
variable {lb mb : Nat} {b : Bd} {m : Mt} {u0 : St} {Q : St → Prop} {K : Int32 → St → Prop} {i : Nat}
theorem lay_notW (hlb : isLay lb) : ∀ j, j ≤ 4 → notW (lb + j) := fun j hj => by
  have : lb = 10 ∨ lb = 15 := hlb
  exact ⟨by omega, by omega, by omega⟩
theorem mom_notW (hmb : isMom mb) : ∀ j, j ≤ 1 → notW (mb + j) := fun j hj => by
  have : mb = 20 ∨ mb = 22 := hmb
  exact ⟨by omega, by omega, by omega⟩
theorem at_C (hlb : isLay lb) (hL : LX lb b u0) (hb : bdOk b) (hi : i < bN b) (hK : ∀ v, PAt u0 b m (i + 1) (i + 1) (i + 1) (i + 1) v → K (nI (i + 1)) v) {v : St} {t0 t1 : Int32} (ht : t1 ||| t0 = nI (maskF (alwF b m) (i + 1))) (h : PAt u0 b m (i + 1) (i + 1) i i v) : wp_X3_attach_J150 lb mb Q K (nI i) (nI (2 ^ i)) t0 t1 v := by
  have hn := hb.1
  obtain ⟨h5, hA, h6, h7, h8, hs⟩ := h
  unfold wp_X3_attach_J150
  simp only [nxt, ht]
  have hL2 := hL.same (hs.si (k := 24) (i := 7) (x := nI (maskF (alwF b m) (i + 1))) notW24) (lay_notW hlb)
  refine ⟨vp_in_nI (by omega) (by omega), ?_⟩
  rw [tNn (by omega), (hL2.2 i hi).1]
  refine s_X4_isOf (o := 1) (hb.2 i hi).1 (by decide) ?_
  have e8 : gi (si v 24 7 (nI (maskF (alwF b m) (i + 1)))) 24 8 = nI (maskF (oneF b) i) := by rw [gi_ni (by omega)]; exact h8
  rw [e8]
  have fin : ∀ w : Nat, w = (if oneF b i then 2 ^ i else 0) → wp_X3_attach_J178 lb mb Q K (nI i) (nI w) (nI (maskF (oneF b) i)) (si v 24 7 (nI (maskF (alwF b m) (i + 1)))) := by
    intro w hw
    unfold wp_X3_attach_J178
    simp only [nxt, hw, nI_mask]
    rw [nI_1]
    refine hK _ ⟨?_, fun k hk => ?_, ?_, ?_, ?_, ?_⟩
    · rw [gi_ni (by omega), gi_ni (by omega)]; exact h5
    · rw [gi_nk (by omega), gi_nk (by omega), gi_nk (by omega), gi_nk (by omega)]; exact hA k hk
    · rw [gi_ni (by omega), gi_ni (by omega)]; exact h6
    · rw [gi_ni (by omega), gi_same]
    · rw [gi_same]
    · exact (hs.si notW24).si notW24
  have ho : decide (bK b i = 1 ∨ (bK b i = 4 ∧ 1 = 1) ∨ (bK b i = 5 ∧ 1 = 2) ∨ ((bK b i = 1 ∨ bK b i = 2 ∨ bK b i = 3) ∧ 1 = 0)) = oneF b i := by
    unfold oneF
    simp
  rw [ho]
  cases e : oneF b i
  · rw [e] at fin
    exact ⟨fun _ => fin 0 rfl, fun c => absurd rfl c⟩
  · rw [e] at fin
    exact ⟨fun c => absurd c (by decide), fun _ => fin (2 ^ i) rfl⟩
theorem at_B (hlb : isLay lb) (hmb : isMom mb) (hL : LX lb b u0) (hM : MX mb m u0) (hb : bdOk b) (hm : mtOk m) (hi : i < bN b) (hK : ∀ v, PAt u0 b m (i + 1) (i + 1) (i + 1) (i + 1) v → K (nI (i + 1)) v) {v : St} {t0 t1 : Int32} (ht : t1 ||| t0 = nI (maskF (rdyF b m) (i + 1))) (h : PAt u0 b m (i + 1) i i i v) : wp_X3_attach_J120 lb mb Q K (nI i) (nI (2 ^ i)) (nI (!(mC m).testBit (bL b i)).toNat) t0 t1 v := by
  have hn := hb.1
  obtain ⟨h5, hA, h6, h7, h8, hs⟩ := h
  unfold wp_X3_attach_J120
  simp only [nxt, ht]
  have hs2 : Same notW u0 (si v 24 6 (nI (maskF (rdyF b m) (i + 1)))) := hs.si notW24
  have h2 : PAt u0 b m (i + 1) (i + 1) i i (si v 24 6 (nI (maskF (rdyF b m) (i + 1)))) := by
    refine ⟨?_, fun k hk => ?_, ?_, ?_, ?_, hs2⟩
    · rw [gi_ni (by omega)]; exact h5
    · rw [gi_nk (by omega), gi_nk (by omega)]; exact hA k hk
    · rw [gi_same]
    · rw [gi_ni (by omega)]; exact h7
    · rw [gi_ni (by omega)]; exact h8
  generalize si v 24 6 (nI (maskF (rdyF b m) (i + 1))) = w at hs2 h2 ⊢
  have hL2 := hL.same hs2 (lay_notW hlb)
  have hM2 := hM.same hs2 (mom_notW hmb)
  rw [h2.2.2.2.1]
  cases e : (mC m).testBit (bL b i)
  · refine ⟨fun c => absurd c (by decide), fun _ => ?_⟩
    refine s_X0_conducts (s := 0) hL2 hM2 hb hm (by decide) hi ?_
    rw [show Nat.testBit 0 i = false by simp]
    cases e2 : condF (bK b i) (bD b i) (mH m i) (mS m) false
    · refine ⟨fun _ => ?_, fun c => absurd rfl c⟩
      unfold wp_X3_attach_J149
      refine at_C hlb hL hb hi hK ?_ h2
      rw [← nI_mask]
      simp [alwF, e, e2, nI_0]
    · refine ⟨fun c => absurd c (by decide), fun _ => ?_⟩
      refine at_C hlb hL hb hi hK ?_ h2
      rw [← nI_mask]
      simp [alwF, e, e2]
  · refine ⟨fun _ => ?_, fun c => absurd rfl c⟩
    unfold wp_X3_attach_J149
    refine at_C hlb hL hb hi hK ?_ h2
    rw [← nI_mask]
    simp [alwF, e, nI_0]
theorem at_A (hlb : isLay lb) (hmb : isMom mb) (hL : LX lb b u0) (hM : MX mb m u0) (hb : bdOk b) (hm : mtOk m) (hi : i < bN b) (hK : ∀ v, PAt u0 b m (i + 1) (i + 1) (i + 1) (i + 1) v → K (nI (i + 1)) v) {v : St} (h : PAt u0 b m (i + 1) i i i v) : wp_X3_attach_J91 lb mb Q K (nI i) (nI (2 ^ i)) (nI (!(mC m).testBit (bL b i)).toNat) v := by
  have hn := hb.1
  have hL2 := hL.same h.2.2.2.2.2 (lay_notW hlb)
  have hM2 := hM.same h.2.2.2.2.2 (mom_notW hmb)
  unfold wp_X3_attach_J91
  rw [h.2.2.1]
  have hpow : 2 ^ i < 128 := (Nat.pow_lt_pow_right (by decide : 1 < 2) (show i < 7 by omega) : 2 ^ i < 2 ^ 7)
  cases e : (mC m).testBit (bL b i)
  · refine ⟨fun c => absurd c (by decide), fun _ => ?_⟩
    refine s_X0_conducts hL2 hM2 hb hm hpow hi ?_
    rw [show Nat.testBit (2 ^ i) i = true by simp [bit_pow]]
    have := fun (t0 t1 : Int32) => at_B (Q := Q) hlb hmb hL hM hb hm hi hK (v := v) (i := i) (t0 := t0) (t1 := t1)
    rw [e] at this
    cases e2 : condF (bK b i) (bD b i) (mH m i) (mS m) true
    · refine ⟨fun _ => ?_, fun c => absurd rfl c⟩
      unfold wp_X3_attach_J119
      refine this _ _ ?_ h
      rw [← nI_mask]
      simp [rdyF, e, e2, nI_0]
    · refine ⟨fun c => absurd c (by decide), fun _ => ?_⟩
      refine this _ _ ?_ h
      rw [← nI_mask]
      simp [rdyF, e, e2]
  · refine ⟨fun _ => ?_, fun c => absurd rfl c⟩
    have := fun (t0 t1 : Int32) => at_B (Q := Q) hlb hmb hL hM hb hm hi hK (v := v) (i := i) (t0 := t0) (t1 := t1)
    rw [e] at this
    unfold wp_X3_attach_J119
    refine this _ _ ?_ h
    rw [← nI_mask]
    simp [rdyF, e, nI_0]
end AT
theorem s_X3_attach {lb mb : Nat} {b : Bd} {m : Mt} {u : St} {Q : St → Prop} (hlb : isLay lb) (hmb : isMom mb) (hL : LX lb b u) (hM : MX mb m u) (hb : bdOk b) (hm : mtOk m) (h : ∀ u', WR b m u' → Same notW u u' → Q u') : wp_X3_attach lb mb u Q := by
  have hn := hb.1
  have hlb' : lb = 10 ∨ lb = 15 := hlb
  have hmb' : mb = 20 ∨ mb = 22 := hmb
  unfold wp_X3_attach
  simp only [nxt, wp_X3_attach_L25]
  refine lc1 (bN b) (fun i v => PAt u b m i i i i v) ?_ ?_ ?_
  · refine ⟨?_, fun k hk => absurd hk (by omega), ?_, ?_, ?_, ?_⟩
    · rw [gi_ni (by omega), gi_ni (by omega), gi_ni (by omega), gi_same]; exact hL.1
    · rw [gi_ni (by omega), gi_ni (by omega), gi_same]; rfl
    · rw [gi_ni (by omega), gi_same]; rfl
    · rw [gi_same]; rfl
    · exact (((Same.rfl'.si notW24).si notW24).si notW24).si notW24
  · intro K i v hi hJ hK
    obtain ⟨h5, hA, h6, h7, h8, hs⟩ := hJ
    have hL2 := hL.same hs (lay_notW hlb)
    obtain ⟨k1, k2, k3, k4⟩ := hb.2 i hi
    obtain ⟨e1, e2, e3, e4⟩ := hL2.2 i hi
    have hcut := hm.2.1
    unfold wp_X3_attach_B25
    simp only [nxt, tNn (show i < 2 ^ 31 by omega), e2]
    have e3' : gi (si v 25 i (nI (bL b i))) (lb + 3) i = nI (bC b i) := by rw [gi_nk (by omega)]; exact e3
    have e25 : gi (si (si v 25 i (nI (bL b i))) 26 i (nI (2 ^ bC b i))) 25 i = nI (bL b i) := by rw [gi_nk (by omega), gi_same]
    have es : Same notW u (si (si v 25 i (nI (bL b i))) 26 i (nI (2 ^ bC b i))) := (hs.si notW25).si notW26
    have ecut := (hM.same es (mom_notW hmb)).2.2.1
    rw [e3', nI_one (show bC b i < 31 by omega), nI_one (show i < 31 by omega), e25, ecut, h5]
    have hP : PAt u b m (i + 1) i i i (si (si v 25 i (nI (bL b i))) 26 i (nI (2 ^ bC b i))) := by
      refine ⟨?_, fun k hk => ?_, ?_, ?_, ?_, es⟩
      · rw [gi_nk (by omega), gi_nk (by omega)]; exact h5
      · rcases Nat.lt_or_ge k i with q | q
        · rw [gi_nk (by omega), gi_ni (by omega), gi_ni (by omega), gi_nk (by omega)]; exact hA k q
        · have : k = i := by omega
          subst this
          exact ⟨e25, gi_same⟩
      · rw [gi_nk (by omega), gi_nk (by omega)]; exact h6
      · rw [gi_nk (by omega), gi_nk (by omega)]; exact h7
      · rw [gi_nk (by omega), gi_nk (by omega)]; exact h8
    have v7 : vp_in (nI i) 7 := vp_in_nI (by omega) (by omega)
    refine ⟨fun c => absurd c (nI_ge hi (by omega)), fun _ => ⟨fun c => absurd c (nI_ge (a := i) (b := 7) (by omega) (by omega)), fun _ => ⟨v7, v7, v7, v7, v7, ?_⟩⟩⟩
    refine s_X4_holds (by omega) (by omega) ?_
    have := at_A (Q := Q) hlb hmb hL hM hb hm hi hK hP
    cases e : (mC m).testBit (bL b i)
    · rw [e] at this
      exact ⟨fun c => absurd rfl c, fun _ => this⟩
    · rw [e] at this
      exact ⟨fun _ => this, fun c => absurd c (by decide)⟩
  · intro K v hJ
    unfold wp_X3_attach_B25
    refine ⟨fun _ => h v ?_ hJ.2.2.2.2.2, fun c => absurd (by rw [hJ.1]; exact Int32.le_refl _) c⟩
    exact ⟨hJ.1, hJ.2.1, hJ.2.2.1, hJ.2.2.2.1, hJ.2.2.2.2.1⟩
