/-! MACHINE: the reference comes into being -/
set_option maxRecDepth 100000 in
theorem k_X5_fill1 {p : Program} {l : Launch} {e : Env} {R : Room} {s : State} {m : MethodId} {args : Array Value} {below : List Frame} {meth : Method} {c : Code} {g : GG} {A : Nat → Prop} {h q0 a cells slots : Nat} {fs : List Value} {R0 : (Nat → Int32) → va_W} {Qs : State → Prop} (C : NC p s m args meth c cX5_init 2 RX5 g A) (hv : fs[5]? = some (.ref a)) (hq : ∀ f, ((h, .inr (5, fs)) :: R0 f)[q0]? = some (a, Zf g 6 f)) (hset : ∀ f f', ((h, .inr (5, fs)) :: R0 f).set q0 (a, Zf g 6 f') = (h, .inr (5, fs)) :: R0 f') (kk : ∀ (f : Nat → Int32) (H : Heap) (locs : List Loc) (ls : Array Slot), (∀ j, j < 6 → f j = -1) → ND g A s ((h, .inr (5, fs)) :: R0 f) H locs → lv_has ls 2 [(1, .int (nI 6)), (0, .ref h)] → W p l e R s m args below meth c H locs cells slots Qs (F0 m 200 ls [])) : ∀ (n i : Nat) (f : Nat → Int32) (H : Heap) (locs : List Loc) (ls : Array Slot), 6 - i < n → i ≤ 6 → (∀ j, j < i → f j = -1) → ND g A s ((h, .inr (5, fs)) :: R0 f) H locs → lv_has ls 2 [(1, .int (nI i)), (0, .ref h)] → W p l e R s m args below meth c H locs cells slots Qs (F0 m 181 ls []) := by
  intro n
  induction n with
  | zero => intro i f H locs ls hm; exact absurd hm (Nat.not_lt_zero _)
  | succ n ih =>
    intro i f H locs ls hm hi hf hW hl
    refine lv_iload_n C.1 C.2.1 dX5_init_181 rfl (lv_at hl 0 rfl) ?_
    refine lv_bipush (v := 6) C.1 C.2.1 dX5_init_182 (by decide) ?_
    refine lv_icmp_ge (tgt := 200) C.1 C.2.1 dX5_init_184 (by decide) (fun c1 => ?_) (fun c1 => ?_)
    · have e1 : i = 6 := by
        have := (nI_leI (a := 6) (by decide) (by omega)).mp c1
        omega
      subst e1
      exact kk f H locs ls hf hW hl
    · have e1 : i < 6 := Nat.not_le.mp (fun q => c1 ((nI_leI (a := 6) (by decide) (by omega)).mpr q))
      refine lv_aload_n C.1 C.2.1 dX5_init_187 rfl (lv_at hl 1 rfl) ?_
      refine n_get C hW cd5 5 (by decide) rfl hv qf_X5_17 dX5_init_188 ?_
      refine lv_iload_n C.1 C.2.1 dX5_init_191 rfl (lv_at hl 0 rfl) ?_
      refine lv_iconst (v := -1) C.1 C.2.1 dX5_init_192 (by decide) ?_
      refine n_iast C hW q0 (hq f) (vp_in_nI e1 (by omega)) dX5_init_193 (fun H locs hW => ?_)
      rw [tNn (by omega)] at hW
      have hW : ND g A s ((h, .inr (5, fs)) :: R0 (upd f i (-1))) H _ := hset f (upd f i (-1)) ▸ hW
      refine lv_iinc (v := nI (i + 1)) (lv' := [(1, .int (nI (i + 1))), (0, .ref h)]) C.1 C.2.1 dX5_init_194 hl (k := 0) rfl (nI_1 i) (by decide) rfl (fun ls hl => ?_)
      refine lv_goto (tgt := 181) C.1 C.2.1 dX5_init_197 (by decide) ?_
      refine ih (i + 1) _ H locs ls (by omega) e1 (fun j hj => ?_) hW hl
      unfold upd
      by_cases e2 : j = i
      · rw [if_pos e2]
      · rw [if_neg e2]; exact hf j (by omega)
set_option maxRecDepth 100000 in
theorem k_X5_fill2 {p : Program} {l : Launch} {e : Env} {R : Room} {s : State} {m : MethodId} {args : Array Value} {below : List Frame} {meth : Method} {c : Code} {g : GG} {A : Nat → Prop} {h q0 a cells slots : Nat} {fs : List Value} {R0 : (Nat → Int32) → va_W} {Qs : State → Prop} (C : NC p s m args meth c cX5_init 2 RX5 g A) (hv : fs[7]? = some (.ref a)) (hq : ∀ f, ((h, .inr (5, fs)) :: R0 f)[q0]? = some (a, Zf g 4 f)) (hset : ∀ f f', ((h, .inr (5, fs)) :: R0 f).set q0 (a, Zf g 4 f') = (h, .inr (5, fs)) :: R0 f') (kk : ∀ (f : Nat → Int32) (H : Heap) (locs : List Loc) (ls : Array Slot), (∀ j, j < 4 → f j = -1) → ND g A s ((h, .inr (5, fs)) :: R0 f) H locs → lv_has ls 2 [(1, .int (nI 4)), (0, .ref h)] → W p l e R s m args below meth c H locs cells slots Qs (F0 m 220 ls [])) : ∀ (n i : Nat) (f : Nat → Int32) (H : Heap) (locs : List Loc) (ls : Array Slot), 4 - i < n → i ≤ 4 → (∀ j, j < i → f j = -1) → ND g A s ((h, .inr (5, fs)) :: R0 f) H locs → lv_has ls 2 [(1, .int (nI i)), (0, .ref h)] → W p l e R s m args below meth c H locs cells slots Qs (F0 m 202 ls []) := by
  intro n
  induction n with
  | zero => intro i f H locs ls hm; exact absurd hm (Nat.not_lt_zero _)
  | succ n ih =>
    intro i f H locs ls hm hi hf hW hl
    refine lv_iload_n C.1 C.2.1 dX5_init_202 rfl (lv_at hl 0 rfl) ?_
    refine lv_iconst (v := 4) C.1 C.2.1 dX5_init_203 (by decide) ?_
    refine lv_icmp_ge (tgt := 220) C.1 C.2.1 dX5_init_204 (by decide) (fun c1 => ?_) (fun c1 => ?_)
    · have e1 : i = 4 := by
        have := (nI_leI (a := 4) (by decide) (by omega)).mp c1
        omega
      subst e1
      exact kk f H locs ls hf hW hl
    · have e1 : i < 4 := Nat.not_le.mp (fun q => c1 ((nI_leI (a := 4) (by decide) (by omega)).mpr q))
      refine lv_aload_n C.1 C.2.1 dX5_init_207 rfl (lv_at hl 1 rfl) ?_
      refine n_get C hW cd5 7 (by decide) rfl hv qf_X5_23 dX5_init_208 ?_
      refine lv_iload_n C.1 C.2.1 dX5_init_211 rfl (lv_at hl 0 rfl) ?_
      refine lv_iconst (v := -1) C.1 C.2.1 dX5_init_212 (by decide) ?_
      refine n_iast C hW q0 (hq f) (vp_in_nI e1 (by omega)) dX5_init_213 (fun H locs hW => ?_)
      rw [tNn (by omega)] at hW
      have hW : ND g A s ((h, .inr (5, fs)) :: R0 (upd f i (-1))) H _ := hset f (upd f i (-1)) ▸ hW
      refine lv_iinc (v := nI (i + 1)) (lv' := [(1, .int (nI (i + 1))), (0, .ref h)]) C.1 C.2.1 dX5_init_214 hl (k := 0) rfl (nI_1 i) (by decide) rfl (fun ls hl => ?_)
      refine lv_goto (tgt := 202) C.1 C.2.1 dX5_init_217 (by decide) ?_
      refine ih (i + 1) _ H locs ls (by omega) e1 (fun j hj => ?_) hW hl
      unfold upd
      by_cases e2 : j = i
      · rw [if_pos e2]
      · rw [if_neg e2]; exact hf j (by omega)
set_option maxRecDepth 100000 in
theorem k_X5_fill3 {p : Program} {l : Launch} {e : Env} {R : Room} {s : State} {m : MethodId} {args : Array Value} {below : List Frame} {meth : Method} {c : Code} {g : GG} {A : Nat → Prop} {h q0 a cells slots : Nat} {fs : List Value} {R0 : (Nat → Int32) → va_W} {Qs : State → Prop} (C : NC p s m args meth c cX5_init 2 RX5 g A) (hv : fs[18]? = some (.ref a)) (hq : ∀ f, ((h, .inr (5, fs)) :: R0 f)[q0]? = some (a, Zf g 3 f)) (hset : ∀ f f', ((h, .inr (5, fs)) :: R0 f).set q0 (a, Zf g 3 f') = (h, .inr (5, fs)) :: R0 f') (kk : ∀ (f : Nat → Int32) (H : Heap) (locs : List Loc) (ls : Array Slot), (∀ j, j < 3 → f j = -1) → ND g A s ((h, .inr (5, fs)) :: R0 f) H locs → lv_has ls 2 [(1, .int (nI 3)), (0, .ref h)] → W p l e R s m args below meth c H locs cells slots Qs (F0 m 240 ls [])) : ∀ (n i : Nat) (f : Nat → Int32) (H : Heap) (locs : List Loc) (ls : Array Slot), 3 - i < n → i ≤ 3 → (∀ j, j < i → f j = -1) → ND g A s ((h, .inr (5, fs)) :: R0 f) H locs → lv_has ls 2 [(1, .int (nI i)), (0, .ref h)] → W p l e R s m args below meth c H locs cells slots Qs (F0 m 222 ls []) := by
  intro n
  induction n with
  | zero => intro i f H locs ls hm; exact absurd hm (Nat.not_lt_zero _)
  | succ n ih =>
    intro i f H locs ls hm hi hf hW hl
    refine lv_iload_n C.1 C.2.1 dX5_init_222 rfl (lv_at hl 0 rfl) ?_
    refine lv_iconst (v := 3) C.1 C.2.1 dX5_init_223 (by decide) ?_
    refine lv_icmp_ge (tgt := 240) C.1 C.2.1 dX5_init_224 (by decide) (fun c1 => ?_) (fun c1 => ?_)
    · have e1 : i = 3 := by
        have := (nI_leI (a := 3) (by decide) (by omega)).mp c1
        omega
      subst e1
      exact kk f H locs ls hf hW hl
    · have e1 : i < 3 := Nat.not_le.mp (fun q => c1 ((nI_leI (a := 3) (by decide) (by omega)).mpr q))
      refine lv_aload_n C.1 C.2.1 dX5_init_227 rfl (lv_at hl 1 rfl) ?_
      refine n_get C hW cd5 18 (by decide) rfl hv qf_X5_51 dX5_init_228 ?_
      refine lv_iload_n C.1 C.2.1 dX5_init_231 rfl (lv_at hl 0 rfl) ?_
      refine lv_iconst (v := -1) C.1 C.2.1 dX5_init_232 (by decide) ?_
      refine n_iast C hW q0 (hq f) (vp_in_nI e1 (by omega)) dX5_init_233 (fun H locs hW => ?_)
      rw [tNn (by omega)] at hW
      have hW : ND g A s ((h, .inr (5, fs)) :: R0 (upd f i (-1))) H _ := hset f (upd f i (-1)) ▸ hW
      refine lv_iinc (v := nI (i + 1)) (lv' := [(1, .int (nI (i + 1))), (0, .ref h)]) C.1 C.2.1 dX5_init_234 hl (k := 0) rfl (nI_1 i) (by decide) rfl (fun ls hl => ?_)
      refine lv_goto (tgt := 222) C.1 C.2.1 dX5_init_237 (by decide) ?_
      refine ih (i + 1) _ H locs ls (by omega) e1 (fun j hj => ?_) hW hl
      unfold upd
      by_cases e2 : j = i
      · rw [if_pos e2]
      · rw [if_neg e2]; exact hf j (by omega)
def wX5 (g : GG) (q : Nat → Nat) (fw ff fk : Nat → Int32) : va_W := [(q 39, .inr (5, [.int 0, .ref (q 40), .int 0, .long 0, .long 1, .ref (q 41), .ref (q 42), .ref (q 43), .ref (q 44), .ref (q 45), .int 0, .ref (q 46), .ref (q 47), .ref (q 48), .ref (q 49), .ref (q 50), .int 0, .ref (q 51), .ref (q 52), .ref (q 53), .ref (q 54), .ref (q 55), .ref (q 56), .ref (q 57), .ref (q 58), .ref (q 59), .ref (q 60)])),
  (q 40, Za g 6),
  (q 41, Zf g 6 fw),
  (q 42, Za g 240),
  (q 43, Zf g 4 ff),
  (q 44, Zb g 240),
  (q 45, Za g 40),
  (q 46, Za g 14),
  (q 47, Za g 14),
  (q 48, Za g 14),
  (q 49, Za g 14),
  (q 50, Za g 410),
  (q 51, Za g 1230),
  (q 52, Zf g 3 fk),
  (q 53, Za g 10),
  (q 54, Za g 7),
  (q 55, Za g 7),
  (q 56, Za g 7),
  (q 57, Za g 4),
  (q 58, Za g 21),
  (q 59, Za g 6),
  (q 60, Za g 128)]
set_option maxRecDepth 100000 in
set_option maxHeartbeats 4000000 in
theorem c_X5_init (l : Launch) (g : GG) (h : Nat) : CN l yX5_init cX5_init 2 { frames := 1, cells := 21, slots := 2425, locals := 12 } g [.ref h] [(h, .inr (5, [.int 0, .null, .int 0, .long 0, .long 0, .null, .null, .null, .null, .null, .int 0, .null, .null, .null, .null, .null, .int 0, .null, .null, .null, .null, .null, .null, .null, .null, .null, .null]))] 21 2425 (fun w => ∃ (q : Nat → Nat) (fw ff fk : Nat → Int32), q 39 = h ∧ (∀ i, i < 6 → fw i = -1) ∧ (∀ i, i < 4 → ff i = -1) ∧ (∀ i, i < 3 → fk i = -1) ∧ w = wX5 g q fw ff fk) := by
  refine n_ent (own := RX5) (by decide) rfl (Nat.le_of_ble_eq_true rfl) ?_
  intro p e s m below meth c A ls C hret hlk hnm hl hW
  have hl : lv_has ls 2 [(0, .ref h)] := hl
  refine lv_aload_n C.1 C.2.1 dX5_init_0 rfl (lv_at hl 0 rfl) ?_
  refine n_obj C hl.1 qm_X5_1 ⟨Nat.le_of_ble_eq_true rfl, Nat.le_of_ble_eq_true rfl⟩ dX5_init_1 ?_
  refine lv_aload_n C.1 C.2.1 dX5_init_4 rfl (lv_at hl 0 rfl) ?_
  refine lv_bipush (v := 6) C.1 C.2.1 dX5_init_5 (by decide) ?_
  refine n_newi C hW 6 rfl (by decide) ⟨Nat.le_of_ble_eq_true rfl, Nat.le_of_ble_eq_true rfl⟩ dX5_init_7 (fun q1 H hW => ?_)
  have hW : ND g A s [(h, .inr (5, [.int 0, .null, .int 0, .long 0, .long 0, .null, .null, .null, .null, .null, .int 0, .null, .null, .null, .null, .null, .int 0, .null, .null, .null, .null, .null, .null, .null, .null, .null, .null])), (q1, Za g 6)] H _ := hW
  refine W.widen (k := 1) (n := 6) (Nat.le_of_ble_eq_true rfl) (Nat.le_of_ble_eq_true rfl) ?_
  refine n_putF C hnm hW cd5 1 (by decide) rfl rfl rfl rfl (Nat.le_of_ble_eq_true rfl) qf_X5_7 dX5_init_9 (fun H locs hW => ?_)
  have hW : ND g A s [(h, .inr (5, [.int 0, .ref q1, .int 0, .long 0, .long 0, .null, .null, .null, .null, .null, .int 0, .null, .null, .null, .null, .null, .int 0, .null, .null, .null, .null, .null, .null, .null, .null, .null, .null])), (q1, Za g 6)] H _ := hW
  refine lv_aload_n C.1 C.2.1 dX5_init_12 rfl (lv_at hl 0 rfl) ?_
  refine lv_lconst (v := 1) C.1 C.2.1 dX5_init_13 (by decide) ?_
  refine n_put C hW cd5 4 (by decide) rfl rfl rfl rfl (Nat.le_of_ble_eq_true rfl) qf_X5_13 dX5_init_14 (fun H locs hW => ?_)
  have hW : ND g A s [(h, .inr (5, [.int 0, .ref q1, .int 0, .long 0, .long 1, .null, .null, .null, .null, .null, .int 0, .null, .null, .null, .null, .null, .int 0, .null, .null, .null, .null, .null, .null, .null, .null, .null, .null])), (q1, Za g 6)] H _ := hW
  refine lv_aload_n C.1 C.2.1 dX5_init_17 rfl (lv_at hl 0 rfl) ?_
  refine lv_bipush (v := 6) C.1 C.2.1 dX5_init_18 (by decide) ?_
  refine n_newi C hW 6 rfl (by decide) ⟨Nat.le_of_ble_eq_true rfl, Nat.le_of_ble_eq_true rfl⟩ dX5_init_20 (fun q2 H hW => ?_)
  have hW : ND g A s [(h, .inr (5, [.int 0, .ref q1, .int 0, .long 0, .long 1, .null, .null, .null, .null, .null, .int 0, .null, .null, .null, .null, .null, .int 0, .null, .null, .null, .null, .null, .null, .null, .null, .null, .null])), (q1, Za g 6), (q2, Za g 6)] H _ := hW
  refine W.widen (k := 2) (n := 12) (Nat.le_of_ble_eq_true rfl) (Nat.le_of_ble_eq_true rfl) ?_
  refine n_putF C hnm hW cd5 5 (by decide) rfl rfl rfl rfl (Nat.le_of_ble_eq_true rfl) qf_X5_17 dX5_init_22 (fun H locs hW => ?_)
  have hW : ND g A s [(h, .inr (5, [.int 0, .ref q1, .int 0, .long 0, .long 1, .ref q2, .null, .null, .null, .null, .int 0, .null, .null, .null, .null, .null, .int 0, .null, .null, .null, .null, .null, .null, .null, .null, .null, .null])), (q1, Za g 6), (q2, Za g 6)] H _ := hW
  refine lv_aload_n C.1 C.2.1 dX5_init_25 rfl (lv_at hl 0 rfl) ?_
  refine lv_sipush (v := 240) C.1 C.2.1 dX5_init_26 (by decide) ?_
  refine n_newi C hW 240 rfl (by decide) ⟨Nat.le_of_ble_eq_true rfl, Nat.le_of_ble_eq_true rfl⟩ dX5_init_29 (fun q3 H hW => ?_)
  have hW : ND g A s [(h, .inr (5, [.int 0, .ref q1, .int 0, .long 0, .long 1, .ref q2, .null, .null, .null, .null, .int 0, .null, .null, .null, .null, .null, .int 0, .null, .null, .null, .null, .null, .null, .null, .null, .null, .null])), (q1, Za g 6), (q2, Za g 6), (q3, Za g 240)] H _ := hW
  refine W.widen (k := 3) (n := 252) (Nat.le_of_ble_eq_true rfl) (Nat.le_of_ble_eq_true rfl) ?_
  refine n_putF C hnm hW cd5 6 (by decide) rfl rfl rfl rfl (Nat.le_of_ble_eq_true rfl) qf_X5_20 dX5_init_31 (fun H locs hW => ?_)
  have hW : ND g A s [(h, .inr (5, [.int 0, .ref q1, .int 0, .long 0, .long 1, .ref q2, .ref q3, .null, .null, .null, .int 0, .null, .null, .null, .null, .null, .int 0, .null, .null, .null, .null, .null, .null, .null, .null, .null, .null])), (q1, Za g 6), (q2, Za g 6), (q3, Za g 240)] H _ := hW
  refine lv_aload_n C.1 C.2.1 dX5_init_34 rfl (lv_at hl 0 rfl) ?_
  refine lv_iconst (v := 4) C.1 C.2.1 dX5_init_35 (by decide) ?_
  refine n_newi C hW 4 rfl (by decide) ⟨Nat.le_of_ble_eq_true rfl, Nat.le_of_ble_eq_true rfl⟩ dX5_init_36 (fun q4 H hW => ?_)
  have hW : ND g A s [(h, .inr (5, [.int 0, .ref q1, .int 0, .long 0, .long 1, .ref q2, .ref q3, .null, .null, .null, .int 0, .null, .null, .null, .null, .null, .int 0, .null, .null, .null, .null, .null, .null, .null, .null, .null, .null])), (q1, Za g 6), (q2, Za g 6), (q3, Za g 240), (q4, Za g 4)] H _ := hW
  refine W.widen (k := 4) (n := 256) (Nat.le_of_ble_eq_true rfl) (Nat.le_of_ble_eq_true rfl) ?_
  refine n_putF C hnm hW cd5 7 (by decide) rfl rfl rfl rfl (Nat.le_of_ble_eq_true rfl) qf_X5_23 dX5_init_38 (fun H locs hW => ?_)
  have hW : ND g A s [(h, .inr (5, [.int 0, .ref q1, .int 0, .long 0, .long 1, .ref q2, .ref q3, .ref q4, .null, .null, .int 0, .null, .null, .null, .null, .null, .int 0, .null, .null, .null, .null, .null, .null, .null, .null, .null, .null])), (q1, Za g 6), (q2, Za g 6), (q3, Za g 240), (q4, Za g 4)] H _ := hW
  refine lv_aload_n C.1 C.2.1 dX5_init_41 rfl (lv_at hl 0 rfl) ?_
  refine lv_sipush (v := 240) C.1 C.2.1 dX5_init_42 (by decide) ?_
  refine n_newb C hW 240 rfl (by decide) ⟨Nat.le_of_ble_eq_true rfl, Nat.le_of_ble_eq_true rfl⟩ dX5_init_45 (fun q5 H hW => ?_)
  have hW : ND g A s [(h, .inr (5, [.int 0, .ref q1, .int 0, .long 0, .long 1, .ref q2, .ref q3, .ref q4, .null, .null, .int 0, .null, .null, .null, .null, .null, .int 0, .null, .null, .null, .null, .null, .null, .null, .null, .null, .null])), (q1, Za g 6), (q2, Za g 6), (q3, Za g 240), (q4, Za g 4), (q5, Zb g 240)] H _ := hW
  refine W.widen (k := 5) (n := 496) (Nat.le_of_ble_eq_true rfl) (Nat.le_of_ble_eq_true rfl) ?_
  refine n_putF C hnm hW cd5 8 (by decide) rfl rfl rfl rfl (Nat.le_of_ble_eq_true rfl) qf_X5_26 dX5_init_47 (fun H locs hW => ?_)
  have hW : ND g A s [(h, .inr (5, [.int 0, .ref q1, .int 0, .long 0, .long 1, .ref q2, .ref q3, .ref q4, .ref q5, .null, .int 0, .null, .null, .null, .null, .null, .int 0, .null, .null, .null, .null, .null, .null, .null, .null, .null, .null])), (q1, Za g 6), (q2, Za g 6), (q3, Za g 240), (q4, Za g 4), (q5, Zb g 240)] H _ := hW
  refine lv_aload_n C.1 C.2.1 dX5_init_50 rfl (lv_at hl 0 rfl) ?_
  refine lv_bipush (v := 40) C.1 C.2.1 dX5_init_51 (by decide) ?_
  refine n_newi C hW 40 rfl (by decide) ⟨Nat.le_of_ble_eq_true rfl, Nat.le_of_ble_eq_true rfl⟩ dX5_init_53 (fun q6 H hW => ?_)
  have hW : ND g A s [(h, .inr (5, [.int 0, .ref q1, .int 0, .long 0, .long 1, .ref q2, .ref q3, .ref q4, .ref q5, .null, .int 0, .null, .null, .null, .null, .null, .int 0, .null, .null, .null, .null, .null, .null, .null, .null, .null, .null])), (q1, Za g 6), (q2, Za g 6), (q3, Za g 240), (q4, Za g 4), (q5, Zb g 240), (q6, Za g 40)] H _ := hW
  refine W.widen (k := 6) (n := 536) (Nat.le_of_ble_eq_true rfl) (Nat.le_of_ble_eq_true rfl) ?_
  refine n_putF C hnm hW cd5 9 (by decide) rfl rfl rfl rfl (Nat.le_of_ble_eq_true rfl) qf_X5_30 dX5_init_55 (fun H locs hW => ?_)
  have hW : ND g A s [(h, .inr (5, [.int 0, .ref q1, .int 0, .long 0, .long 1, .ref q2, .ref q3, .ref q4, .ref q5, .ref q6, .int 0, .null, .null, .null, .null, .null, .int 0, .null, .null, .null, .null, .null, .null, .null, .null, .null, .null])), (q1, Za g 6), (q2, Za g 6), (q3, Za g 240), (q4, Za g 4), (q5, Zb g 240), (q6, Za g 40)] H _ := hW
  refine lv_aload_n C.1 C.2.1 dX5_init_58 rfl (lv_at hl 0 rfl) ?_
  refine lv_bipush (v := 14) C.1 C.2.1 dX5_init_59 (by decide) ?_
  refine n_newi C hW 14 rfl (by decide) ⟨Nat.le_of_ble_eq_true rfl, Nat.le_of_ble_eq_true rfl⟩ dX5_init_61 (fun q7 H hW => ?_)
  have hW : ND g A s [(h, .inr (5, [.int 0, .ref q1, .int 0, .long 0, .long 1, .ref q2, .ref q3, .ref q4, .ref q5, .ref q6, .int 0, .null, .null, .null, .null, .null, .int 0, .null, .null, .null, .null, .null, .null, .null, .null, .null, .null])), (q1, Za g 6), (q2, Za g 6), (q3, Za g 240), (q4, Za g 4), (q5, Zb g 240), (q6, Za g 40), (q7, Za g 14)] H _ := hW
  refine W.widen (k := 7) (n := 550) (Nat.le_of_ble_eq_true rfl) (Nat.le_of_ble_eq_true rfl) ?_
  refine n_putF C hnm hW cd5 11 (by decide) rfl rfl rfl rfl (Nat.le_of_ble_eq_true rfl) qf_X5_33 dX5_init_63 (fun H locs hW => ?_)
  have hW : ND g A s [(h, .inr (5, [.int 0, .ref q1, .int 0, .long 0, .long 1, .ref q2, .ref q3, .ref q4, .ref q5, .ref q6, .int 0, .ref q7, .null, .null, .null, .null, .int 0, .null, .null, .null, .null, .null, .null, .null, .null, .null, .null])), (q1, Za g 6), (q2, Za g 6), (q3, Za g 240), (q4, Za g 4), (q5, Zb g 240), (q6, Za g 40), (q7, Za g 14)] H _ := hW
  refine lv_aload_n C.1 C.2.1 dX5_init_66 rfl (lv_at hl 0 rfl) ?_
  refine lv_bipush (v := 14) C.1 C.2.1 dX5_init_67 (by decide) ?_
  refine n_newi C hW 14 rfl (by decide) ⟨Nat.le_of_ble_eq_true rfl, Nat.le_of_ble_eq_true rfl⟩ dX5_init_69 (fun q8 H hW => ?_)
  have hW : ND g A s [(h, .inr (5, [.int 0, .ref q1, .int 0, .long 0, .long 1, .ref q2, .ref q3, .ref q4, .ref q5, .ref q6, .int 0, .ref q7, .null, .null, .null, .null, .int 0, .null, .null, .null, .null, .null, .null, .null, .null, .null, .null])), (q1, Za g 6), (q2, Za g 6), (q3, Za g 240), (q4, Za g 4), (q5, Zb g 240), (q6, Za g 40), (q7, Za g 14), (q8, Za g 14)] H _ := hW
  refine W.widen (k := 8) (n := 564) (Nat.le_of_ble_eq_true rfl) (Nat.le_of_ble_eq_true rfl) ?_
  refine n_putF C hnm hW cd5 12 (by decide) rfl rfl rfl rfl (Nat.le_of_ble_eq_true rfl) qf_X5_36 dX5_init_71 (fun H locs hW => ?_)
  have hW : ND g A s [(h, .inr (5, [.int 0, .ref q1, .int 0, .long 0, .long 1, .ref q2, .ref q3, .ref q4, .ref q5, .ref q6, .int 0, .ref q7, .ref q8, .null, .null, .null, .int 0, .null, .null, .null, .null, .null, .null, .null, .null, .null, .null])), (q1, Za g 6), (q2, Za g 6), (q3, Za g 240), (q4, Za g 4), (q5, Zb g 240), (q6, Za g 40), (q7, Za g 14), (q8, Za g 14)] H _ := hW
  refine lv_aload_n C.1 C.2.1 dX5_init_74 rfl (lv_at hl 0 rfl) ?_
  refine lv_bipush (v := 14) C.1 C.2.1 dX5_init_75 (by decide) ?_
  refine n_newi C hW 14 rfl (by decide) ⟨Nat.le_of_ble_eq_true rfl, Nat.le_of_ble_eq_true rfl⟩ dX5_init_77 (fun q9 H hW => ?_)
  have hW : ND g A s [(h, .inr (5, [.int 0, .ref q1, .int 0, .long 0, .long 1, .ref q2, .ref q3, .ref q4, .ref q5, .ref q6, .int 0, .ref q7, .ref q8, .null, .null, .null, .int 0, .null, .null, .null, .null, .null, .null, .null, .null, .null, .null])), (q1, Za g 6), (q2, Za g 6), (q3, Za g 240), (q4, Za g 4), (q5, Zb g 240), (q6, Za g 40), (q7, Za g 14), (q8, Za g 14), (q9, Za g 14)] H _ := hW
  refine W.widen (k := 9) (n := 578) (Nat.le_of_ble_eq_true rfl) (Nat.le_of_ble_eq_true rfl) ?_
  refine n_putF C hnm hW cd5 13 (by decide) rfl rfl rfl rfl (Nat.le_of_ble_eq_true rfl) qf_X5_39 dX5_init_79 (fun H locs hW => ?_)
  have hW : ND g A s [(h, .inr (5, [.int 0, .ref q1, .int 0, .long 0, .long 1, .ref q2, .ref q3, .ref q4, .ref q5, .ref q6, .int 0, .ref q7, .ref q8, .ref q9, .null, .null, .int 0, .null, .null, .null, .null, .null, .null, .null, .null, .null, .null])), (q1, Za g 6), (q2, Za g 6), (q3, Za g 240), (q4, Za g 4), (q5, Zb g 240), (q6, Za g 40), (q7, Za g 14), (q8, Za g 14), (q9, Za g 14)] H _ := hW
  refine lv_aload_n C.1 C.2.1 dX5_init_82 rfl (lv_at hl 0 rfl) ?_
  refine lv_bipush (v := 14) C.1 C.2.1 dX5_init_83 (by decide) ?_
  refine n_newi C hW 14 rfl (by decide) ⟨Nat.le_of_ble_eq_true rfl, Nat.le_of_ble_eq_true rfl⟩ dX5_init_85 (fun q10 H hW => ?_)
  have hW : ND g A s [(h, .inr (5, [.int 0, .ref q1, .int 0, .long 0, .long 1, .ref q2, .ref q3, .ref q4, .ref q5, .ref q6, .int 0, .ref q7, .ref q8, .ref q9, .null, .null, .int 0, .null, .null, .null, .null, .null, .null, .null, .null, .null, .null])), (q1, Za g 6), (q2, Za g 6), (q3, Za g 240), (q4, Za g 4), (q5, Zb g 240), (q6, Za g 40), (q7, Za g 14), (q8, Za g 14), (q9, Za g 14), (q10, Za g 14)] H _ := hW
  refine W.widen (k := 10) (n := 592) (Nat.le_of_ble_eq_true rfl) (Nat.le_of_ble_eq_true rfl) ?_
  refine n_putF C hnm hW cd5 14 (by decide) rfl rfl rfl rfl (Nat.le_of_ble_eq_true rfl) qf_X5_42 dX5_init_87 (fun H locs hW => ?_)
  have hW : ND g A s [(h, .inr (5, [.int 0, .ref q1, .int 0, .long 0, .long 1, .ref q2, .ref q3, .ref q4, .ref q5, .ref q6, .int 0, .ref q7, .ref q8, .ref q9, .ref q10, .null, .int 0, .null, .null, .null, .null, .null, .null, .null, .null, .null, .null])), (q1, Za g 6), (q2, Za g 6), (q3, Za g 240), (q4, Za g 4), (q5, Zb g 240), (q6, Za g 40), (q7, Za g 14), (q8, Za g 14), (q9, Za g 14), (q10, Za g 14)] H _ := hW
  refine lv_aload_n C.1 C.2.1 dX5_init_90 rfl (lv_at hl 0 rfl) ?_
  refine lv_sipush (v := 410) C.1 C.2.1 dX5_init_91 (by decide) ?_
  refine n_newi C hW 410 rfl (by decide) ⟨Nat.le_of_ble_eq_true rfl, Nat.le_of_ble_eq_true rfl⟩ dX5_init_94 (fun q11 H hW => ?_)
  have hW : ND g A s [(h, .inr (5, [.int 0, .ref q1, .int 0, .long 0, .long 1, .ref q2, .ref q3, .ref q4, .ref q5, .ref q6, .int 0, .ref q7, .ref q8, .ref q9, .ref q10, .null, .int 0, .null, .null, .null, .null, .null, .null, .null, .null, .null, .null])), (q1, Za g 6), (q2, Za g 6), (q3, Za g 240), (q4, Za g 4), (q5, Zb g 240), (q6, Za g 40), (q7, Za g 14), (q8, Za g 14), (q9, Za g 14), (q10, Za g 14), (q11, Za g 410)] H _ := hW
  refine W.widen (k := 11) (n := 1002) (Nat.le_of_ble_eq_true rfl) (Nat.le_of_ble_eq_true rfl) ?_
  refine n_putF C hnm hW cd5 15 (by decide) rfl rfl rfl rfl (Nat.le_of_ble_eq_true rfl) qf_X5_45 dX5_init_96 (fun H locs hW => ?_)
  have hW : ND g A s [(h, .inr (5, [.int 0, .ref q1, .int 0, .long 0, .long 1, .ref q2, .ref q3, .ref q4, .ref q5, .ref q6, .int 0, .ref q7, .ref q8, .ref q9, .ref q10, .ref q11, .int 0, .null, .null, .null, .null, .null, .null, .null, .null, .null, .null])), (q1, Za g 6), (q2, Za g 6), (q3, Za g 240), (q4, Za g 4), (q5, Zb g 240), (q6, Za g 40), (q7, Za g 14), (q8, Za g 14), (q9, Za g 14), (q10, Za g 14), (q11, Za g 410)] H _ := hW
  refine lv_aload_n C.1 C.2.1 dX5_init_99 rfl (lv_at hl 0 rfl) ?_
  refine lv_sipush (v := 1230) C.1 C.2.1 dX5_init_100 (by decide) ?_
  refine n_newi C hW 1230 rfl (by decide) ⟨Nat.le_of_ble_eq_true rfl, Nat.le_of_ble_eq_true rfl⟩ dX5_init_103 (fun q12 H hW => ?_)
  have hW : ND g A s [(h, .inr (5, [.int 0, .ref q1, .int 0, .long 0, .long 1, .ref q2, .ref q3, .ref q4, .ref q5, .ref q6, .int 0, .ref q7, .ref q8, .ref q9, .ref q10, .ref q11, .int 0, .null, .null, .null, .null, .null, .null, .null, .null, .null, .null])), (q1, Za g 6), (q2, Za g 6), (q3, Za g 240), (q4, Za g 4), (q5, Zb g 240), (q6, Za g 40), (q7, Za g 14), (q8, Za g 14), (q9, Za g 14), (q10, Za g 14), (q11, Za g 410), (q12, Za g 1230)] H _ := hW
  refine W.widen (k := 12) (n := 2232) (Nat.le_of_ble_eq_true rfl) (Nat.le_of_ble_eq_true rfl) ?_
  refine n_putF C hnm hW cd5 17 (by decide) rfl rfl rfl rfl (Nat.le_of_ble_eq_true rfl) qf_X5_48 dX5_init_105 (fun H locs hW => ?_)
  have hW : ND g A s [(h, .inr (5, [.int 0, .ref q1, .int 0, .long 0, .long 1, .ref q2, .ref q3, .ref q4, .ref q5, .ref q6, .int 0, .ref q7, .ref q8, .ref q9, .ref q10, .ref q11, .int 0, .ref q12, .null, .null, .null, .null, .null, .null, .null, .null, .null])), (q1, Za g 6), (q2, Za g 6), (q3, Za g 240), (q4, Za g 4), (q5, Zb g 240), (q6, Za g 40), (q7, Za g 14), (q8, Za g 14), (q9, Za g 14), (q10, Za g 14), (q11, Za g 410), (q12, Za g 1230)] H _ := hW
  refine lv_aload_n C.1 C.2.1 dX5_init_108 rfl (lv_at hl 0 rfl) ?_
  refine lv_iconst (v := 3) C.1 C.2.1 dX5_init_109 (by decide) ?_
  refine n_newi C hW 3 rfl (by decide) ⟨Nat.le_of_ble_eq_true rfl, Nat.le_of_ble_eq_true rfl⟩ dX5_init_110 (fun q13 H hW => ?_)
  have hW : ND g A s [(h, .inr (5, [.int 0, .ref q1, .int 0, .long 0, .long 1, .ref q2, .ref q3, .ref q4, .ref q5, .ref q6, .int 0, .ref q7, .ref q8, .ref q9, .ref q10, .ref q11, .int 0, .ref q12, .null, .null, .null, .null, .null, .null, .null, .null, .null])), (q1, Za g 6), (q2, Za g 6), (q3, Za g 240), (q4, Za g 4), (q5, Zb g 240), (q6, Za g 40), (q7, Za g 14), (q8, Za g 14), (q9, Za g 14), (q10, Za g 14), (q11, Za g 410), (q12, Za g 1230), (q13, Za g 3)] H _ := hW
  refine W.widen (k := 13) (n := 2235) (Nat.le_of_ble_eq_true rfl) (Nat.le_of_ble_eq_true rfl) ?_
  refine n_putF C hnm hW cd5 18 (by decide) rfl rfl rfl rfl (Nat.le_of_ble_eq_true rfl) qf_X5_51 dX5_init_112 (fun H locs hW => ?_)
  have hW : ND g A s [(h, .inr (5, [.int 0, .ref q1, .int 0, .long 0, .long 1, .ref q2, .ref q3, .ref q4, .ref q5, .ref q6, .int 0, .ref q7, .ref q8, .ref q9, .ref q10, .ref q11, .int 0, .ref q12, .ref q13, .null, .null, .null, .null, .null, .null, .null, .null])), (q1, Za g 6), (q2, Za g 6), (q3, Za g 240), (q4, Za g 4), (q5, Zb g 240), (q6, Za g 40), (q7, Za g 14), (q8, Za g 14), (q9, Za g 14), (q10, Za g 14), (q11, Za g 410), (q12, Za g 1230), (q13, Za g 3)] H _ := hW
  refine lv_aload_n C.1 C.2.1 dX5_init_115 rfl (lv_at hl 0 rfl) ?_
  refine lv_bipush (v := 10) C.1 C.2.1 dX5_init_116 (by decide) ?_
  refine n_newi C hW 10 rfl (by decide) ⟨Nat.le_of_ble_eq_true rfl, Nat.le_of_ble_eq_true rfl⟩ dX5_init_118 (fun q14 H hW => ?_)
  have hW : ND g A s [(h, .inr (5, [.int 0, .ref q1, .int 0, .long 0, .long 1, .ref q2, .ref q3, .ref q4, .ref q5, .ref q6, .int 0, .ref q7, .ref q8, .ref q9, .ref q10, .ref q11, .int 0, .ref q12, .ref q13, .null, .null, .null, .null, .null, .null, .null, .null])), (q1, Za g 6), (q2, Za g 6), (q3, Za g 240), (q4, Za g 4), (q5, Zb g 240), (q6, Za g 40), (q7, Za g 14), (q8, Za g 14), (q9, Za g 14), (q10, Za g 14), (q11, Za g 410), (q12, Za g 1230), (q13, Za g 3), (q14, Za g 10)] H _ := hW
  refine W.widen (k := 14) (n := 2245) (Nat.le_of_ble_eq_true rfl) (Nat.le_of_ble_eq_true rfl) ?_
  refine n_putF C hnm hW cd5 19 (by decide) rfl rfl rfl rfl (Nat.le_of_ble_eq_true rfl) qf_X5_54 dX5_init_120 (fun H locs hW => ?_)
  have hW : ND g A s [(h, .inr (5, [.int 0, .ref q1, .int 0, .long 0, .long 1, .ref q2, .ref q3, .ref q4, .ref q5, .ref q6, .int 0, .ref q7, .ref q8, .ref q9, .ref q10, .ref q11, .int 0, .ref q12, .ref q13, .ref q14, .null, .null, .null, .null, .null, .null, .null])), (q1, Za g 6), (q2, Za g 6), (q3, Za g 240), (q4, Za g 4), (q5, Zb g 240), (q6, Za g 40), (q7, Za g 14), (q8, Za g 14), (q9, Za g 14), (q10, Za g 14), (q11, Za g 410), (q12, Za g 1230), (q13, Za g 3), (q14, Za g 10)] H _ := hW
  refine lv_aload_n C.1 C.2.1 dX5_init_123 rfl (lv_at hl 0 rfl) ?_
  refine lv_bipush (v := 7) C.1 C.2.1 dX5_init_124 (by decide) ?_
  refine n_newi C hW 7 rfl (by decide) ⟨Nat.le_of_ble_eq_true rfl, Nat.le_of_ble_eq_true rfl⟩ dX5_init_126 (fun q15 H hW => ?_)
  have hW : ND g A s [(h, .inr (5, [.int 0, .ref q1, .int 0, .long 0, .long 1, .ref q2, .ref q3, .ref q4, .ref q5, .ref q6, .int 0, .ref q7, .ref q8, .ref q9, .ref q10, .ref q11, .int 0, .ref q12, .ref q13, .ref q14, .null, .null, .null, .null, .null, .null, .null])), (q1, Za g 6), (q2, Za g 6), (q3, Za g 240), (q4, Za g 4), (q5, Zb g 240), (q6, Za g 40), (q7, Za g 14), (q8, Za g 14), (q9, Za g 14), (q10, Za g 14), (q11, Za g 410), (q12, Za g 1230), (q13, Za g 3), (q14, Za g 10), (q15, Za g 7)] H _ := hW
  refine W.widen (k := 15) (n := 2252) (Nat.le_of_ble_eq_true rfl) (Nat.le_of_ble_eq_true rfl) ?_
  refine n_putF C hnm hW cd5 20 (by decide) rfl rfl rfl rfl (Nat.le_of_ble_eq_true rfl) qf_X5_57 dX5_init_128 (fun H locs hW => ?_)
  have hW : ND g A s [(h, .inr (5, [.int 0, .ref q1, .int 0, .long 0, .long 1, .ref q2, .ref q3, .ref q4, .ref q5, .ref q6, .int 0, .ref q7, .ref q8, .ref q9, .ref q10, .ref q11, .int 0, .ref q12, .ref q13, .ref q14, .ref q15, .null, .null, .null, .null, .null, .null])), (q1, Za g 6), (q2, Za g 6), (q3, Za g 240), (q4, Za g 4), (q5, Zb g 240), (q6, Za g 40), (q7, Za g 14), (q8, Za g 14), (q9, Za g 14), (q10, Za g 14), (q11, Za g 410), (q12, Za g 1230), (q13, Za g 3), (q14, Za g 10), (q15, Za g 7)] H _ := hW
  refine lv_aload_n C.1 C.2.1 dX5_init_131 rfl (lv_at hl 0 rfl) ?_
  refine lv_bipush (v := 7) C.1 C.2.1 dX5_init_132 (by decide) ?_
  refine n_newi C hW 7 rfl (by decide) ⟨Nat.le_of_ble_eq_true rfl, Nat.le_of_ble_eq_true rfl⟩ dX5_init_134 (fun q16 H hW => ?_)
  have hW : ND g A s [(h, .inr (5, [.int 0, .ref q1, .int 0, .long 0, .long 1, .ref q2, .ref q3, .ref q4, .ref q5, .ref q6, .int 0, .ref q7, .ref q8, .ref q9, .ref q10, .ref q11, .int 0, .ref q12, .ref q13, .ref q14, .ref q15, .null, .null, .null, .null, .null, .null])), (q1, Za g 6), (q2, Za g 6), (q3, Za g 240), (q4, Za g 4), (q5, Zb g 240), (q6, Za g 40), (q7, Za g 14), (q8, Za g 14), (q9, Za g 14), (q10, Za g 14), (q11, Za g 410), (q12, Za g 1230), (q13, Za g 3), (q14, Za g 10), (q15, Za g 7), (q16, Za g 7)] H _ := hW
  refine W.widen (k := 16) (n := 2259) (Nat.le_of_ble_eq_true rfl) (Nat.le_of_ble_eq_true rfl) ?_
  refine n_putF C hnm hW cd5 21 (by decide) rfl rfl rfl rfl (Nat.le_of_ble_eq_true rfl) qf_X5_60 dX5_init_136 (fun H locs hW => ?_)
  have hW : ND g A s [(h, .inr (5, [.int 0, .ref q1, .int 0, .long 0, .long 1, .ref q2, .ref q3, .ref q4, .ref q5, .ref q6, .int 0, .ref q7, .ref q8, .ref q9, .ref q10, .ref q11, .int 0, .ref q12, .ref q13, .ref q14, .ref q15, .ref q16, .null, .null, .null, .null, .null])), (q1, Za g 6), (q2, Za g 6), (q3, Za g 240), (q4, Za g 4), (q5, Zb g 240), (q6, Za g 40), (q7, Za g 14), (q8, Za g 14), (q9, Za g 14), (q10, Za g 14), (q11, Za g 410), (q12, Za g 1230), (q13, Za g 3), (q14, Za g 10), (q15, Za g 7), (q16, Za g 7)] H _ := hW
  refine lv_aload_n C.1 C.2.1 dX5_init_139 rfl (lv_at hl 0 rfl) ?_
  refine lv_bipush (v := 7) C.1 C.2.1 dX5_init_140 (by decide) ?_
  refine n_newi C hW 7 rfl (by decide) ⟨Nat.le_of_ble_eq_true rfl, Nat.le_of_ble_eq_true rfl⟩ dX5_init_142 (fun q17 H hW => ?_)
  have hW : ND g A s [(h, .inr (5, [.int 0, .ref q1, .int 0, .long 0, .long 1, .ref q2, .ref q3, .ref q4, .ref q5, .ref q6, .int 0, .ref q7, .ref q8, .ref q9, .ref q10, .ref q11, .int 0, .ref q12, .ref q13, .ref q14, .ref q15, .ref q16, .null, .null, .null, .null, .null])), (q1, Za g 6), (q2, Za g 6), (q3, Za g 240), (q4, Za g 4), (q5, Zb g 240), (q6, Za g 40), (q7, Za g 14), (q8, Za g 14), (q9, Za g 14), (q10, Za g 14), (q11, Za g 410), (q12, Za g 1230), (q13, Za g 3), (q14, Za g 10), (q15, Za g 7), (q16, Za g 7), (q17, Za g 7)] H _ := hW
  refine W.widen (k := 17) (n := 2266) (Nat.le_of_ble_eq_true rfl) (Nat.le_of_ble_eq_true rfl) ?_
  refine n_putF C hnm hW cd5 22 (by decide) rfl rfl rfl rfl (Nat.le_of_ble_eq_true rfl) qf_X5_63 dX5_init_144 (fun H locs hW => ?_)
  have hW : ND g A s [(h, .inr (5, [.int 0, .ref q1, .int 0, .long 0, .long 1, .ref q2, .ref q3, .ref q4, .ref q5, .ref q6, .int 0, .ref q7, .ref q8, .ref q9, .ref q10, .ref q11, .int 0, .ref q12, .ref q13, .ref q14, .ref q15, .ref q16, .ref q17, .null, .null, .null, .null])), (q1, Za g 6), (q2, Za g 6), (q3, Za g 240), (q4, Za g 4), (q5, Zb g 240), (q6, Za g 40), (q7, Za g 14), (q8, Za g 14), (q9, Za g 14), (q10, Za g 14), (q11, Za g 410), (q12, Za g 1230), (q13, Za g 3), (q14, Za g 10), (q15, Za g 7), (q16, Za g 7), (q17, Za g 7)] H _ := hW
  refine lv_aload_n C.1 C.2.1 dX5_init_147 rfl (lv_at hl 0 rfl) ?_
  refine lv_iconst (v := 4) C.1 C.2.1 dX5_init_148 (by decide) ?_
  refine n_newi C hW 4 rfl (by decide) ⟨Nat.le_of_ble_eq_true rfl, Nat.le_of_ble_eq_true rfl⟩ dX5_init_149 (fun q18 H hW => ?_)
  have hW : ND g A s [(h, .inr (5, [.int 0, .ref q1, .int 0, .long 0, .long 1, .ref q2, .ref q3, .ref q4, .ref q5, .ref q6, .int 0, .ref q7, .ref q8, .ref q9, .ref q10, .ref q11, .int 0, .ref q12, .ref q13, .ref q14, .ref q15, .ref q16, .ref q17, .null, .null, .null, .null])), (q1, Za g 6), (q2, Za g 6), (q3, Za g 240), (q4, Za g 4), (q5, Zb g 240), (q6, Za g 40), (q7, Za g 14), (q8, Za g 14), (q9, Za g 14), (q10, Za g 14), (q11, Za g 410), (q12, Za g 1230), (q13, Za g 3), (q14, Za g 10), (q15, Za g 7), (q16, Za g 7), (q17, Za g 7), (q18, Za g 4)] H _ := hW
  refine W.widen (k := 18) (n := 2270) (Nat.le_of_ble_eq_true rfl) (Nat.le_of_ble_eq_true rfl) ?_
  refine n_putF C hnm hW cd5 23 (by decide) rfl rfl rfl rfl (Nat.le_of_ble_eq_true rfl) qf_X5_66 dX5_init_151 (fun H locs hW => ?_)
  have hW : ND g A s [(h, .inr (5, [.int 0, .ref q1, .int 0, .long 0, .long 1, .ref q2, .ref q3, .ref q4, .ref q5, .ref q6, .int 0, .ref q7, .ref q8, .ref q9, .ref q10, .ref q11, .int 0, .ref q12, .ref q13, .ref q14, .ref q15, .ref q16, .ref q17, .ref q18, .null, .null, .null])), (q1, Za g 6), (q2, Za g 6), (q3, Za g 240), (q4, Za g 4), (q5, Zb g 240), (q6, Za g 40), (q7, Za g 14), (q8, Za g 14), (q9, Za g 14), (q10, Za g 14), (q11, Za g 410), (q12, Za g 1230), (q13, Za g 3), (q14, Za g 10), (q15, Za g 7), (q16, Za g 7), (q17, Za g 7), (q18, Za g 4)] H _ := hW
  refine lv_aload_n C.1 C.2.1 dX5_init_154 rfl (lv_at hl 0 rfl) ?_
  refine lv_bipush (v := 21) C.1 C.2.1 dX5_init_155 (by decide) ?_
  refine n_newi C hW 21 rfl (by decide) ⟨Nat.le_of_ble_eq_true rfl, Nat.le_of_ble_eq_true rfl⟩ dX5_init_157 (fun q19 H hW => ?_)
  have hW : ND g A s [(h, .inr (5, [.int 0, .ref q1, .int 0, .long 0, .long 1, .ref q2, .ref q3, .ref q4, .ref q5, .ref q6, .int 0, .ref q7, .ref q8, .ref q9, .ref q10, .ref q11, .int 0, .ref q12, .ref q13, .ref q14, .ref q15, .ref q16, .ref q17, .ref q18, .null, .null, .null])), (q1, Za g 6), (q2, Za g 6), (q3, Za g 240), (q4, Za g 4), (q5, Zb g 240), (q6, Za g 40), (q7, Za g 14), (q8, Za g 14), (q9, Za g 14), (q10, Za g 14), (q11, Za g 410), (q12, Za g 1230), (q13, Za g 3), (q14, Za g 10), (q15, Za g 7), (q16, Za g 7), (q17, Za g 7), (q18, Za g 4), (q19, Za g 21)] H _ := hW
  refine W.widen (k := 19) (n := 2291) (Nat.le_of_ble_eq_true rfl) (Nat.le_of_ble_eq_true rfl) ?_
  refine n_putF C hnm hW cd5 24 (by decide) rfl rfl rfl rfl (Nat.le_of_ble_eq_true rfl) qf_X5_69 dX5_init_159 (fun H locs hW => ?_)
  have hW : ND g A s [(h, .inr (5, [.int 0, .ref q1, .int 0, .long 0, .long 1, .ref q2, .ref q3, .ref q4, .ref q5, .ref q6, .int 0, .ref q7, .ref q8, .ref q9, .ref q10, .ref q11, .int 0, .ref q12, .ref q13, .ref q14, .ref q15, .ref q16, .ref q17, .ref q18, .ref q19, .null, .null])), (q1, Za g 6), (q2, Za g 6), (q3, Za g 240), (q4, Za g 4), (q5, Zb g 240), (q6, Za g 40), (q7, Za g 14), (q8, Za g 14), (q9, Za g 14), (q10, Za g 14), (q11, Za g 410), (q12, Za g 1230), (q13, Za g 3), (q14, Za g 10), (q15, Za g 7), (q16, Za g 7), (q17, Za g 7), (q18, Za g 4), (q19, Za g 21)] H _ := hW
  refine lv_aload_n C.1 C.2.1 dX5_init_162 rfl (lv_at hl 0 rfl) ?_
  refine lv_bipush (v := 6) C.1 C.2.1 dX5_init_163 (by decide) ?_
  refine n_newi C hW 6 rfl (by decide) ⟨Nat.le_of_ble_eq_true rfl, Nat.le_of_ble_eq_true rfl⟩ dX5_init_165 (fun q20 H hW => ?_)
  have hW : ND g A s [(h, .inr (5, [.int 0, .ref q1, .int 0, .long 0, .long 1, .ref q2, .ref q3, .ref q4, .ref q5, .ref q6, .int 0, .ref q7, .ref q8, .ref q9, .ref q10, .ref q11, .int 0, .ref q12, .ref q13, .ref q14, .ref q15, .ref q16, .ref q17, .ref q18, .ref q19, .null, .null])), (q1, Za g 6), (q2, Za g 6), (q3, Za g 240), (q4, Za g 4), (q5, Zb g 240), (q6, Za g 40), (q7, Za g 14), (q8, Za g 14), (q9, Za g 14), (q10, Za g 14), (q11, Za g 410), (q12, Za g 1230), (q13, Za g 3), (q14, Za g 10), (q15, Za g 7), (q16, Za g 7), (q17, Za g 7), (q18, Za g 4), (q19, Za g 21), (q20, Za g 6)] H _ := hW
  refine W.widen (k := 20) (n := 2297) (Nat.le_of_ble_eq_true rfl) (Nat.le_of_ble_eq_true rfl) ?_
  refine n_putF C hnm hW cd5 25 (by decide) rfl rfl rfl rfl (Nat.le_of_ble_eq_true rfl) qf_X5_72 dX5_init_167 (fun H locs hW => ?_)
  have hW : ND g A s [(h, .inr (5, [.int 0, .ref q1, .int 0, .long 0, .long 1, .ref q2, .ref q3, .ref q4, .ref q5, .ref q6, .int 0, .ref q7, .ref q8, .ref q9, .ref q10, .ref q11, .int 0, .ref q12, .ref q13, .ref q14, .ref q15, .ref q16, .ref q17, .ref q18, .ref q19, .ref q20, .null])), (q1, Za g 6), (q2, Za g 6), (q3, Za g 240), (q4, Za g 4), (q5, Zb g 240), (q6, Za g 40), (q7, Za g 14), (q8, Za g 14), (q9, Za g 14), (q10, Za g 14), (q11, Za g 410), (q12, Za g 1230), (q13, Za g 3), (q14, Za g 10), (q15, Za g 7), (q16, Za g 7), (q17, Za g 7), (q18, Za g 4), (q19, Za g 21), (q20, Za g 6)] H _ := hW
  refine lv_aload_n C.1 C.2.1 dX5_init_170 rfl (lv_at hl 0 rfl) ?_
  refine lv_sipush (v := 128) C.1 C.2.1 dX5_init_171 (by decide) ?_
  refine n_newi C hW 128 rfl (by decide) ⟨Nat.le_of_ble_eq_true rfl, Nat.le_of_ble_eq_true rfl⟩ dX5_init_174 (fun q21 H hW => ?_)
  have hW : ND g A s [(h, .inr (5, [.int 0, .ref q1, .int 0, .long 0, .long 1, .ref q2, .ref q3, .ref q4, .ref q5, .ref q6, .int 0, .ref q7, .ref q8, .ref q9, .ref q10, .ref q11, .int 0, .ref q12, .ref q13, .ref q14, .ref q15, .ref q16, .ref q17, .ref q18, .ref q19, .ref q20, .null])), (q1, Za g 6), (q2, Za g 6), (q3, Za g 240), (q4, Za g 4), (q5, Zb g 240), (q6, Za g 40), (q7, Za g 14), (q8, Za g 14), (q9, Za g 14), (q10, Za g 14), (q11, Za g 410), (q12, Za g 1230), (q13, Za g 3), (q14, Za g 10), (q15, Za g 7), (q16, Za g 7), (q17, Za g 7), (q18, Za g 4), (q19, Za g 21), (q20, Za g 6), (q21, Za g 128)] H _ := hW
  refine W.widen (k := 21) (n := 2425) (Nat.le_of_ble_eq_true rfl) (Nat.le_of_ble_eq_true rfl) ?_
  refine n_putF C hnm hW cd5 26 (by decide) rfl rfl rfl rfl (Nat.le_of_ble_eq_true rfl) qf_X5_75 dX5_init_176 (fun H locs hW => ?_)
  have hW : ND g A s [(h, .inr (5, [.int 0, .ref q1, .int 0, .long 0, .long 1, .ref q2, .ref q3, .ref q4, .ref q5, .ref q6, .int 0, .ref q7, .ref q8, .ref q9, .ref q10, .ref q11, .int 0, .ref q12, .ref q13, .ref q14, .ref q15, .ref q16, .ref q17, .ref q18, .ref q19, .ref q20, .ref q21])), (q1, Za g 6), (q2, Za g 6), (q3, Za g 240), (q4, Za g 4), (q5, Zb g 240), (q6, Za g 40), (q7, Za g 14), (q8, Za g 14), (q9, Za g 14), (q10, Za g 14), (q11, Za g 410), (q12, Za g 1230), (q13, Za g 3), (q14, Za g 10), (q15, Za g 7), (q16, Za g 7), (q17, Za g 7), (q18, Za g 4), (q19, Za g 21), (q20, Za g 6), (q21, Za g 128)] H _ := hW
  have hW : ND g A s ((h, .inr (5, [.int 0, .ref q1, .int 0, .long 0, .long 1, .ref q2, .ref q3, .ref q4, .ref q5, .ref q6, .int 0, .ref q7, .ref q8, .ref q9, .ref q10, .ref q11, .int 0, .ref q12, .ref q13, .ref q14, .ref q15, .ref q16, .ref q17, .ref q18, .ref q19, .ref q20, .ref q21])) :: [(q1, Za g 6), (q2, Zf g 6 (fun _ => 0)), (q3, Za g 240), (q4, Zf g 4 (fun _ => 0)), (q5, Zb g 240), (q6, Za g 40), (q7, Za g 14), (q8, Za g 14), (q9, Za g 14), (q10, Za g 14), (q11, Za g 410), (q12, Za g 1230), (q13, Zf g 3 (fun _ => 0)), (q14, Za g 10), (q15, Za g 7), (q16, Za g 7), (q17, Za g 7), (q18, Za g 4), (q19, Za g 21), (q20, Za g 6), (q21, Za g 128)]) H _ := hW
  refine lv_iconst (v := 0) C.1 C.2.1 dX5_init_179 (by decide) ?_
  refine lv_istore_n (lv' := [(1, .int 0), (0, .ref h)]) C.1 C.2.1 dX5_init_180 rfl hl (by decide) rfl (fun ls hl => ?_)
  refine k_X5_fill1 (q0 := 2) (R0 := fun f => [(q1, Za g 6), (q2, Zf g 6 f), (q3, Za g 240), (q4, Zf g 4 (fun _ => 0)), (q5, Zb g 240), (q6, Za g 40), (q7, Za g 14), (q8, Za g 14), (q9, Za g 14), (q10, Za g 14), (q11, Za g 410), (q12, Za g 1230), (q13, Zf g 3 (fun _ => 0)), (q14, Za g 10), (q15, Za g 7), (q16, Za g 7), (q17, Za g 7), (q18, Za g 4), (q19, Za g 21), (q20, Za g 6), (q21, Za g 128)]) C rfl (fun _ => rfl) (fun _ _ => rfl) (fun fw H locs ls hfw hW hl => ?_) 7 0 _ H _ ls (by omega) (by omega) (fun j hj => absurd hj (Nat.not_lt_zero _)) hW hl
  refine lv_iconst (v := 0) C.1 C.2.1 dX5_init_200 (by decide) ?_
  refine lv_istore_n (lv' := [(1, .int 0), (0, .ref h)]) C.1 C.2.1 dX5_init_201 rfl hl (by decide) rfl (fun ls hl => ?_)
  refine k_X5_fill2 (q0 := 4) (R0 := fun f => [(q1, Za g 6), (q2, Zf g 6 fw), (q3, Za g 240), (q4, Zf g 4 f), (q5, Zb g 240), (q6, Za g 40), (q7, Za g 14), (q8, Za g 14), (q9, Za g 14), (q10, Za g 14), (q11, Za g 410), (q12, Za g 1230), (q13, Zf g 3 (fun _ => 0)), (q14, Za g 10), (q15, Za g 7), (q16, Za g 7), (q17, Za g 7), (q18, Za g 4), (q19, Za g 21), (q20, Za g 6), (q21, Za g 128)]) C rfl (fun _ => rfl) (fun _ _ => rfl) (fun ff H locs ls hff hW hl => ?_) 5 0 _ H _ ls (by omega) (by omega) (fun j hj => absurd hj (Nat.not_lt_zero _)) hW hl
  refine lv_iconst (v := 0) C.1 C.2.1 dX5_init_220 (by decide) ?_
  refine lv_istore_n (lv' := [(1, .int 0), (0, .ref h)]) C.1 C.2.1 dX5_init_221 rfl hl (by decide) rfl (fun ls hl => ?_)
  refine k_X5_fill3 (q0 := 13) (R0 := fun f => [(q1, Za g 6), (q2, Zf g 6 fw), (q3, Za g 240), (q4, Zf g 4 ff), (q5, Zb g 240), (q6, Za g 40), (q7, Za g 14), (q8, Za g 14), (q9, Za g 14), (q10, Za g 14), (q11, Za g 410), (q12, Za g 1230), (q13, Zf g 3 f), (q14, Za g 10), (q15, Za g 7), (q16, Za g 7), (q17, Za g 7), (q18, Za g 4), (q19, Za g 21), (q20, Za g 6), (q21, Za g 128)]) C rfl (fun _ => rfl) (fun _ _ => rfl) (fun fk H locs ls hfk hW hl => ?_) 4 0 _ H _ ls (by omega) (by omega) (fun j hj => absurd hj (Nat.not_lt_zero _)) hW hl
  exact n_ret C hret hlk hW ⟨fun k => if k = 40 then q1 else if k = 41 then q2 else if k = 42 then q3 else if k = 43 then q4 else if k = 44 then q5 else if k = 45 then q6 else if k = 46 then q7 else if k = 47 then q8 else if k = 48 then q9 else if k = 49 then q10 else if k = 50 then q11 else if k = 51 then q12 else if k = 52 then q13 else if k = 53 then q14 else if k = 54 then q15 else if k = 55 then q16 else if k = 56 then q17 else if k = 57 then q18 else if k = 58 then q19 else if k = 59 then q20 else if k = 60 then q21 else h, fw, ff, fk, rfl, hfw, hff, hfk, rfl⟩ dX5_init_240
