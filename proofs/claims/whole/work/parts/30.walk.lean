set_option maxRecDepth 100000 in
theorem c_J6_bitCount_0f7a4 (l : Launch) (g : GG) {p0 : Int32} {u : St} {Q : Int32 → St → Prop} (h : wp_J6_bitCount_0f7a4 p0 u Q) : CI l yJ6_bitCount_0f7a4 cJ6_bitCount_0f7a4 1 (some .int) rm_J6_bitCount_0f7a4 g [.int p0] u Q := by
  refine ent (own := RJ6) (Qc := va_Qi Q (WQ g)) (by decide) rfl (Nat.le_of_ble_eq_true rfl) ?_
  intro p e s m below meth c A ls C hl hW
  have hl : lv_has ls 1 [(0, .int p0)] := hl
  unfold wp_J6_bitCount_0f7a4 at h
  refine lv_iload_n C.1 C.2.1 dJ6_bitCount_0f7a4_0 rfl (lv_at hl 0 rfl) ?_
  refine lv_iload_n C.1 C.2.1 dJ6_bitCount_0f7a4_1 rfl (lv_at hl 0 rfl) ?_
  refine lv_iconst (v := 1) C.1 C.2.1 dJ6_bitCount_0f7a4_2 (by decide) ?_
  refine lv_iushr (v := (p0.toUInt32 >>> (Int32.toUInt32 1 &&& Int32.toUInt32 31)).toInt32) C.1 C.2.1 dJ6_bitCount_0f7a4_3 rfl ?_
  refine lv_ldcw (v := 1431655765) C.1 C.2.1 C.2.2.2.1 (C.2.2.2.2.1 _ qk_J6_265) dJ6_bitCount_0f7a4_4 ?_
  refine lv_iand C.1 C.2.1 dJ6_bitCount_0f7a4_7 ?_
  refine lv_isub C.1 C.2.1 dJ6_bitCount_0f7a4_8 ?_
  refine lv_istore_n (lv' := [(0, .int (p0 - (((p0.toUInt32 >>> (Int32.toUInt32 1 &&& Int32.toUInt32 31)).toInt32) &&& 1431655765)))]) C.1 C.2.1 dJ6_bitCount_0f7a4_9 rfl hl (by decide) rfl (fun ls hl => ?_)
  refine lv_iload_n C.1 C.2.1 dJ6_bitCount_0f7a4_10 rfl (lv_at hl 0 rfl) ?_
  refine lv_ldcw (v := 858993459) C.1 C.2.1 C.2.2.2.1 (C.2.2.2.2.1 _ qk_J6_266) dJ6_bitCount_0f7a4_11 ?_
  refine lv_iand C.1 C.2.1 dJ6_bitCount_0f7a4_14 ?_
  refine lv_iload_n C.1 C.2.1 dJ6_bitCount_0f7a4_15 rfl (lv_at hl 0 rfl) ?_
  refine lv_iconst (v := 2) C.1 C.2.1 dJ6_bitCount_0f7a4_16 (by decide) ?_
  refine lv_iushr (v := ((p0 - (((p0.toUInt32 >>> (Int32.toUInt32 1 &&& Int32.toUInt32 31)).toInt32) &&& 1431655765)).toUInt32 >>> (Int32.toUInt32 2 &&& Int32.toUInt32 31)).toInt32) C.1 C.2.1 dJ6_bitCount_0f7a4_17 rfl ?_
  refine lv_ldcw (v := 858993459) C.1 C.2.1 C.2.2.2.1 (C.2.2.2.2.1 _ qk_J6_266) dJ6_bitCount_0f7a4_18 ?_
  refine lv_iand C.1 C.2.1 dJ6_bitCount_0f7a4_21 ?_
  refine lv_iadd C.1 C.2.1 dJ6_bitCount_0f7a4_22 ?_
  refine lv_istore_n (lv' := [(0, .int (((p0 - (((p0.toUInt32 >>> (Int32.toUInt32 1 &&& Int32.toUInt32 31)).toInt32) &&& 1431655765)) &&& 858993459) + ((((p0 - (((p0.toUInt32 >>> (Int32.toUInt32 1 &&& Int32.toUInt32 31)).toInt32) &&& 1431655765)).toUInt32 >>> (Int32.toUInt32 2 &&& Int32.toUInt32 31)).toInt32) &&& 858993459)))]) C.1 C.2.1 dJ6_bitCount_0f7a4_23 rfl hl (by decide) rfl (fun ls hl => ?_)
  refine lv_iload_n C.1 C.2.1 dJ6_bitCount_0f7a4_24 rfl (lv_at hl 0 rfl) ?_
  refine lv_iload_n C.1 C.2.1 dJ6_bitCount_0f7a4_25 rfl (lv_at hl 0 rfl) ?_
  refine lv_iconst (v := 4) C.1 C.2.1 dJ6_bitCount_0f7a4_26 (by decide) ?_
  refine lv_iushr (v := ((((p0 - (((p0.toUInt32 >>> (Int32.toUInt32 1 &&& Int32.toUInt32 31)).toInt32) &&& 1431655765)) &&& 858993459) + ((((p0 - (((p0.toUInt32 >>> (Int32.toUInt32 1 &&& Int32.toUInt32 31)).toInt32) &&& 1431655765)).toUInt32 >>> (Int32.toUInt32 2 &&& Int32.toUInt32 31)).toInt32) &&& 858993459)).toUInt32 >>> (Int32.toUInt32 4 &&& Int32.toUInt32 31)).toInt32) C.1 C.2.1 dJ6_bitCount_0f7a4_27 rfl ?_
  refine lv_iadd C.1 C.2.1 dJ6_bitCount_0f7a4_28 ?_
  refine lv_ldcw (v := 252645135) C.1 C.2.1 C.2.2.2.1 (C.2.2.2.2.1 _ qk_J6_267) dJ6_bitCount_0f7a4_29 ?_
  refine lv_iand C.1 C.2.1 dJ6_bitCount_0f7a4_32 ?_
  refine lv_istore_n (lv' := [(0, .int (((((p0 - (((p0.toUInt32 >>> (Int32.toUInt32 1 &&& Int32.toUInt32 31)).toInt32) &&& 1431655765)) &&& 858993459) + ((((p0 - (((p0.toUInt32 >>> (Int32.toUInt32 1 &&& Int32.toUInt32 31)).toInt32) &&& 1431655765)).toUInt32 >>> (Int32.toUInt32 2 &&& Int32.toUInt32 31)).toInt32) &&& 858993459)) + (((((p0 - (((p0.toUInt32 >>> (Int32.toUInt32 1 &&& Int32.toUInt32 31)).toInt32) &&& 1431655765)) &&& 858993459) + ((((p0 - (((p0.toUInt32 >>> (Int32.toUInt32 1 &&& Int32.toUInt32 31)).toInt32) &&& 1431655765)).toUInt32 >>> (Int32.toUInt32 2 &&& Int32.toUInt32 31)).toInt32) &&& 858993459)).toUInt32 >>> (Int32.toUInt32 4 &&& Int32.toUInt32 31)).toInt32)) &&& 252645135))]) C.1 C.2.1 dJ6_bitCount_0f7a4_33 rfl hl (by decide) rfl (fun ls hl => ?_)
  refine lv_iload_n C.1 C.2.1 dJ6_bitCount_0f7a4_34 rfl (lv_at hl 0 rfl) ?_
  refine lv_iload_n C.1 C.2.1 dJ6_bitCount_0f7a4_35 rfl (lv_at hl 0 rfl) ?_
  refine lv_bipush (v := 8) C.1 C.2.1 dJ6_bitCount_0f7a4_36 (by decide) ?_
  refine lv_iushr (v := ((((((p0 - (((p0.toUInt32 >>> (Int32.toUInt32 1 &&& Int32.toUInt32 31)).toInt32) &&& 1431655765)) &&& 858993459) + ((((p0 - (((p0.toUInt32 >>> (Int32.toUInt32 1 &&& Int32.toUInt32 31)).toInt32) &&& 1431655765)).toUInt32 >>> (Int32.toUInt32 2 &&& Int32.toUInt32 31)).toInt32) &&& 858993459)) + (((((p0 - (((p0.toUInt32 >>> (Int32.toUInt32 1 &&& Int32.toUInt32 31)).toInt32) &&& 1431655765)) &&& 858993459) + ((((p0 - (((p0.toUInt32 >>> (Int32.toUInt32 1 &&& Int32.toUInt32 31)).toInt32) &&& 1431655765)).toUInt32 >>> (Int32.toUInt32 2 &&& Int32.toUInt32 31)).toInt32) &&& 858993459)).toUInt32 >>> (Int32.toUInt32 4 &&& Int32.toUInt32 31)).toInt32)) &&& 252645135).toUInt32 >>> (Int32.toUInt32 8 &&& Int32.toUInt32 31)).toInt32) C.1 C.2.1 dJ6_bitCount_0f7a4_38 rfl ?_
  refine lv_iadd C.1 C.2.1 dJ6_bitCount_0f7a4_39 ?_
  refine lv_istore_n (lv' := [(0, .int ((((((p0 - (((p0.toUInt32 >>> (Int32.toUInt32 1 &&& Int32.toUInt32 31)).toInt32) &&& 1431655765)) &&& 858993459) + ((((p0 - (((p0.toUInt32 >>> (Int32.toUInt32 1 &&& Int32.toUInt32 31)).toInt32) &&& 1431655765)).toUInt32 >>> (Int32.toUInt32 2 &&& Int32.toUInt32 31)).toInt32) &&& 858993459)) + (((((p0 - (((p0.toUInt32 >>> (Int32.toUInt32 1 &&& Int32.toUInt32 31)).toInt32) &&& 1431655765)) &&& 858993459) + ((((p0 - (((p0.toUInt32 >>> (Int32.toUInt32 1 &&& Int32.toUInt32 31)).toInt32) &&& 1431655765)).toUInt32 >>> (Int32.toUInt32 2 &&& Int32.toUInt32 31)).toInt32) &&& 858993459)).toUInt32 >>> (Int32.toUInt32 4 &&& Int32.toUInt32 31)).toInt32)) &&& 252645135) + (((((((p0 - (((p0.toUInt32 >>> (Int32.toUInt32 1 &&& Int32.toUInt32 31)).toInt32) &&& 1431655765)) &&& 858993459) + ((((p0 - (((p0.toUInt32 >>> (Int32.toUInt32 1 &&& Int32.toUInt32 31)).toInt32) &&& 1431655765)).toUInt32 >>> (Int32.toUInt32 2 &&& Int32.toUInt32 31)).toInt32) &&& 858993459)) + (((((p0 - (((p0.toUInt32 >>> (Int32.toUInt32 1 &&& Int32.toUInt32 31)).toInt32) &&& 1431655765)) &&& 858993459) + ((((p0 - (((p0.toUInt32 >>> (Int32.toUInt32 1 &&& Int32.toUInt32 31)).toInt32) &&& 1431655765)).toUInt32 >>> (Int32.toUInt32 2 &&& Int32.toUInt32 31)).toInt32) &&& 858993459)).toUInt32 >>> (Int32.toUInt32 4 &&& Int32.toUInt32 31)).toInt32)) &&& 252645135).toUInt32 >>> (Int32.toUInt32 8 &&& Int32.toUInt32 31)).toInt32)))]) C.1 C.2.1 dJ6_bitCount_0f7a4_40 rfl hl (by decide) rfl (fun ls hl => ?_)
  refine lv_iload_n C.1 C.2.1 dJ6_bitCount_0f7a4_41 rfl (lv_at hl 0 rfl) ?_
  refine lv_iload_n C.1 C.2.1 dJ6_bitCount_0f7a4_42 rfl (lv_at hl 0 rfl) ?_
  refine lv_bipush (v := 16) C.1 C.2.1 dJ6_bitCount_0f7a4_43 (by decide) ?_
  refine lv_iushr (v := (((((((p0 - (((p0.toUInt32 >>> (Int32.toUInt32 1 &&& Int32.toUInt32 31)).toInt32) &&& 1431655765)) &&& 858993459) + ((((p0 - (((p0.toUInt32 >>> (Int32.toUInt32 1 &&& Int32.toUInt32 31)).toInt32) &&& 1431655765)).toUInt32 >>> (Int32.toUInt32 2 &&& Int32.toUInt32 31)).toInt32) &&& 858993459)) + (((((p0 - (((p0.toUInt32 >>> (Int32.toUInt32 1 &&& Int32.toUInt32 31)).toInt32) &&& 1431655765)) &&& 858993459) + ((((p0 - (((p0.toUInt32 >>> (Int32.toUInt32 1 &&& Int32.toUInt32 31)).toInt32) &&& 1431655765)).toUInt32 >>> (Int32.toUInt32 2 &&& Int32.toUInt32 31)).toInt32) &&& 858993459)).toUInt32 >>> (Int32.toUInt32 4 &&& Int32.toUInt32 31)).toInt32)) &&& 252645135) + (((((((p0 - (((p0.toUInt32 >>> (Int32.toUInt32 1 &&& Int32.toUInt32 31)).toInt32) &&& 1431655765)) &&& 858993459) + ((((p0 - (((p0.toUInt32 >>> (Int32.toUInt32 1 &&& Int32.toUInt32 31)).toInt32) &&& 1431655765)).toUInt32 >>> (Int32.toUInt32 2 &&& Int32.toUInt32 31)).toInt32) &&& 858993459)) + (((((p0 - (((p0.toUInt32 >>> (Int32.toUInt32 1 &&& Int32.toUInt32 31)).toInt32) &&& 1431655765)) &&& 858993459) + ((((p0 - (((p0.toUInt32 >>> (Int32.toUInt32 1 &&& Int32.toUInt32 31)).toInt32) &&& 1431655765)).toUInt32 >>> (Int32.toUInt32 2 &&& Int32.toUInt32 31)).toInt32) &&& 858993459)).toUInt32 >>> (Int32.toUInt32 4 &&& Int32.toUInt32 31)).toInt32)) &&& 252645135).toUInt32 >>> (Int32.toUInt32 8 &&& Int32.toUInt32 31)).toInt32)).toUInt32 >>> (Int32.toUInt32 16 &&& Int32.toUInt32 31)).toInt32) C.1 C.2.1 dJ6_bitCount_0f7a4_45 rfl ?_
  refine lv_iadd C.1 C.2.1 dJ6_bitCount_0f7a4_46 ?_
  refine lv_istore_n (lv' := [(0, .int (((((((p0 - (((p0.toUInt32 >>> (Int32.toUInt32 1 &&& Int32.toUInt32 31)).toInt32) &&& 1431655765)) &&& 858993459) + ((((p0 - (((p0.toUInt32 >>> (Int32.toUInt32 1 &&& Int32.toUInt32 31)).toInt32) &&& 1431655765)).toUInt32 >>> (Int32.toUInt32 2 &&& Int32.toUInt32 31)).toInt32) &&& 858993459)) + (((((p0 - (((p0.toUInt32 >>> (Int32.toUInt32 1 &&& Int32.toUInt32 31)).toInt32) &&& 1431655765)) &&& 858993459) + ((((p0 - (((p0.toUInt32 >>> (Int32.toUInt32 1 &&& Int32.toUInt32 31)).toInt32) &&& 1431655765)).toUInt32 >>> (Int32.toUInt32 2 &&& Int32.toUInt32 31)).toInt32) &&& 858993459)).toUInt32 >>> (Int32.toUInt32 4 &&& Int32.toUInt32 31)).toInt32)) &&& 252645135) + (((((((p0 - (((p0.toUInt32 >>> (Int32.toUInt32 1 &&& Int32.toUInt32 31)).toInt32) &&& 1431655765)) &&& 858993459) + ((((p0 - (((p0.toUInt32 >>> (Int32.toUInt32 1 &&& Int32.toUInt32 31)).toInt32) &&& 1431655765)).toUInt32 >>> (Int32.toUInt32 2 &&& Int32.toUInt32 31)).toInt32) &&& 858993459)) + (((((p0 - (((p0.toUInt32 >>> (Int32.toUInt32 1 &&& Int32.toUInt32 31)).toInt32) &&& 1431655765)) &&& 858993459) + ((((p0 - (((p0.toUInt32 >>> (Int32.toUInt32 1 &&& Int32.toUInt32 31)).toInt32) &&& 1431655765)).toUInt32 >>> (Int32.toUInt32 2 &&& Int32.toUInt32 31)).toInt32) &&& 858993459)).toUInt32 >>> (Int32.toUInt32 4 &&& Int32.toUInt32 31)).toInt32)) &&& 252645135).toUInt32 >>> (Int32.toUInt32 8 &&& Int32.toUInt32 31)).toInt32)) + ((((((((p0 - (((p0.toUInt32 >>> (Int32.toUInt32 1 &&& Int32.toUInt32 31)).toInt32) &&& 1431655765)) &&& 858993459) + ((((p0 - (((p0.toUInt32 >>> (Int32.toUInt32 1 &&& Int32.toUInt32 31)).toInt32) &&& 1431655765)).toUInt32 >>> (Int32.toUInt32 2 &&& Int32.toUInt32 31)).toInt32) &&& 858993459)) + (((((p0 - (((p0.toUInt32 >>> (Int32.toUInt32 1 &&& Int32.toUInt32 31)).toInt32) &&& 1431655765)) &&& 858993459) + ((((p0 - (((p0.toUInt32 >>> (Int32.toUInt32 1 &&& Int32.toUInt32 31)).toInt32) &&& 1431655765)).toUInt32 >>> (Int32.toUInt32 2 &&& Int32.toUInt32 31)).toInt32) &&& 858993459)).toUInt32 >>> (Int32.toUInt32 4 &&& Int32.toUInt32 31)).toInt32)) &&& 252645135) + (((((((p0 - (((p0.toUInt32 >>> (Int32.toUInt32 1 &&& Int32.toUInt32 31)).toInt32) &&& 1431655765)) &&& 858993459) + ((((p0 - (((p0.toUInt32 >>> (Int32.toUInt32 1 &&& Int32.toUInt32 31)).toInt32) &&& 1431655765)).toUInt32 >>> (Int32.toUInt32 2 &&& Int32.toUInt32 31)).toInt32) &&& 858993459)) + (((((p0 - (((p0.toUInt32 >>> (Int32.toUInt32 1 &&& Int32.toUInt32 31)).toInt32) &&& 1431655765)) &&& 858993459) + ((((p0 - (((p0.toUInt32 >>> (Int32.toUInt32 1 &&& Int32.toUInt32 31)).toInt32) &&& 1431655765)).toUInt32 >>> (Int32.toUInt32 2 &&& Int32.toUInt32 31)).toInt32) &&& 858993459)).toUInt32 >>> (Int32.toUInt32 4 &&& Int32.toUInt32 31)).toInt32)) &&& 252645135).toUInt32 >>> (Int32.toUInt32 8 &&& Int32.toUInt32 31)).toInt32)).toUInt32 >>> (Int32.toUInt32 16 &&& Int32.toUInt32 31)).toInt32)))]) C.1 C.2.1 dJ6_bitCount_0f7a4_47 rfl hl (by decide) rfl (fun ls hl => ?_)
  refine lv_iload_n C.1 C.2.1 dJ6_bitCount_0f7a4_48 rfl (lv_at hl 0 rfl) ?_
  refine lv_bipush (v := 63) C.1 C.2.1 dJ6_bitCount_0f7a4_49 (by decide) ?_
  refine lv_iand C.1 C.2.1 dJ6_bitCount_0f7a4_51 ?_
  exact x_iret C hW h dJ6_bitCount_0f7a4_52
set_option maxRecDepth 100000 in
theorem k_X1_copyFrom_B26 {p : Program} {l : Launch} {e : Env} {s : State} {m : MethodId} {args : Array Value} {below : List Frame} {meth : Method} {c : Code} {g : GG} {A : Nat → Prop} {b0 : Nat} {b1 : Nat} (hb0 : isMom b0) (hb1 : isMom b1) {Q : St → Prop} (C : MC p s m args meth c cX1_copyFrom 3 RX1 none g A) {K26 : Int32 → St → Prop} (hK26 : ∀ (v2 : Int32) (u : St) (H : Heap) (locs : List Loc) (ls : Array Slot), K26 v2 u → WD g A s u H locs → lv_has ls 3 [(0, .ref (gad g b0)), (1, .ref (gad g b1)), (2, .int v2)] → W p l e rm_X1_copyFrom s m args below meth c H locs 0 0 (MQ below (va_Qv Q (WQ g) A) args s 0 0 A) (F0 m 26 ls [])) : ∀ (v2 : Int32) (u : St) (H : Heap) (locs : List Loc) (ls : Array Slot), wp_X1_copyFrom_B26 b0 b1 Q K26 v2 u → WD g A s u H locs → lv_has ls 3 [(0, .ref (gad g b0)), (1, .ref (gad g b1)), (2, .int v2)] → W p l e rm_X1_copyFrom s m args below meth c H locs 0 0 (MQ below (va_Qv Q (WQ g) A) args s 0 0 A) (F0 m 26 ls []) := by
  intro v2 u H locs ls h hW hl
  refine lv_iload_n C.1 C.2.1 dX1_copyFrom_26 rfl (lv_at hl 2 rfl) ?_
  refine lv_bipush (v := 7) C.1 C.2.1 dX1_copyFrom_27 (by decide) ?_
  refine lv_icmp_ge (tgt := 50) C.1 C.2.1 dX1_copyFrom_29 (by decide) (fun c4 => ?_) (fun c4 => ?_)
  · have h := h.1 c4
    exact x_vret C hW h dX1_copyFrom_50
  · have h := h.2 c4
    refine lv_aload_n C.1 C.2.1 dX1_copyFrom_32 rfl (lv_at hl 0 rfl) ?_
    refine fg_X1_9 C hW hb0 dX1_copyFrom_33 ?_
    refine lv_iload_n C.1 C.2.1 dX1_copyFrom_36 rfl (lv_at hl 2 rfl) ?_
    refine lv_aload_n C.1 C.2.1 dX1_copyFrom_37 rfl (lv_at hl 1 rfl) ?_
    refine fg_X1_9 C hW hb1 dX1_copyFrom_38 ?_
    refine lv_iload_n C.1 C.2.1 dX1_copyFrom_41 rfl (lv_at hl 2 rfl) ?_
    obtain ⟨h5, h⟩ := h
    refine x_iald C hW (gMom1 hb1) h5 dX1_copyFrom_42 ?_
    obtain ⟨h6, h⟩ := h
    refine x_iast C hW (gMom1 hb0) h6 dX1_copyFrom_43 (fun u7 H locs e7 hW => ?_)
    have h := nxt_get h e7
    refine lv_iinc (v := (v2 + 1)) (lv' := [(2, .int (v2 + 1)), (0, .ref (gad g b0)), (1, .ref (gad g b1))]) C.1 C.2.1 dX1_copyFrom_44 hl (k := 2) rfl rfl (by decide) rfl (fun ls hl => ?_)
    refine lv_goto (tgt := 26) C.1 C.2.1 dX1_copyFrom_47 (by decide) ?_
    exact hK26 (v2 + 1) u7 _ _ _ h hW (lv_sub hl [1, 2, 0] rfl)
theorem k_X1_copyFrom_L26 {p : Program} {l : Launch} {e : Env} {s : State} {m : MethodId} {args : Array Value} {below : List Frame} {meth : Method} {c : Code} {g : GG} {A : Nat → Prop} {b0 : Nat} {b1 : Nat} (hb0 : isMom b0) (hb1 : isMom b1) {Q : St → Prop} (C : MC p s m args meth c cX1_copyFrom 3 RX1 none g A) : ∀ (n : Nat), ∀ (v2 : Int32) (u : St) (H : Heap) (locs : List Loc) (ls : Array Slot), wp_X1_copyFrom_L26 b0 b1 Q n v2 u → WD g A s u H locs → lv_has ls 3 [(0, .ref (gad g b0)), (1, .ref (gad g b1)), (2, .int v2)] → W p l e rm_X1_copyFrom s m args below meth c H locs 0 0 (MQ below (va_Qv Q (WQ g) A) args s 0 0 A) (F0 m 26 ls []) := by
  intro n
  induction n with
  | zero => intro v2 u H locs ls h; exact False.elim h
  | succ n ih => exact k_X1_copyFrom_B26 (b0 := b0) (b1 := b1) hb0 hb1 C ih
set_option maxRecDepth 100000 in
theorem c_X1_copyFrom (l : Launch) (g : GG) {b0 : Nat} {b1 : Nat} (hb0 : isMom b0) (hb1 : isMom b1) {u : St} {Q : St → Prop} (h : wp_X1_copyFrom b0 b1 u Q) : CV l yX1_copyFrom cX1_copyFrom 3 none rm_X1_copyFrom g [.ref (gad g b0), .ref (gad g b1)] u Q := by
  refine ent (own := RX1) (Qc := va_Qv Q (WQ g)) (by decide) rfl (Nat.le_of_ble_eq_true rfl) ?_
  intro p e s m below meth c A ls C hl hW
  have hl : lv_has ls 3 [(0, .ref (gad g b0)), (1, .ref (gad g b1))] := hl
  unfold wp_X1_copyFrom at h
  refine lv_aload_n C.1 C.2.1 dX1_copyFrom_0 rfl (lv_at hl 0 rfl) ?_
  refine lv_aload_n C.1 C.2.1 dX1_copyFrom_1 rfl (lv_at hl 1 rfl) ?_
  refine fg_X1_15 C hW hb1 dX1_copyFrom_2 ?_
  refine fp_X1_15 C hW hb0 dX1_copyFrom_5 (fun u1 H locs e1 hW => ?_)
  have h := nxt_get h e1
  refine lv_aload_n C.1 C.2.1 dX1_copyFrom_8 rfl (lv_at hl 0 rfl) ?_
  refine lv_aload_n C.1 C.2.1 dX1_copyFrom_9 rfl (lv_at hl 1 rfl) ?_
  refine fg_X1_19 C hW hb1 dX1_copyFrom_10 ?_
  refine fp_X1_19 C hW hb0 dX1_copyFrom_13 (fun u2 H locs e2 hW => ?_)
  have h := nxt_get h e2
  refine lv_aload_n C.1 C.2.1 dX1_copyFrom_16 rfl (lv_at hl 0 rfl) ?_
  refine lv_aload_n C.1 C.2.1 dX1_copyFrom_17 rfl (lv_at hl 1 rfl) ?_
  refine fg_X1_22 C hW hb1 dX1_copyFrom_18 ?_
  refine fp_X1_22 C hW hb0 dX1_copyFrom_21 (fun u3 H locs e3 hW => ?_)
  have h := nxt_get h e3
  refine lv_iconst (v := 0) C.1 C.2.1 dX1_copyFrom_24 (by decide) ?_
  refine lv_istore_n (lv' := [(2, .int 0), (0, .ref (gad g b0)), (1, .ref (gad g b1))]) C.1 C.2.1 dX1_copyFrom_25 rfl hl (by decide) rfl (fun ls hl => ?_)
  obtain ⟨n, h⟩ := h
  exact k_X1_copyFrom_L26 hb0 hb1 C n 0 u3 _ _ _ h hW (lv_sub hl [1, 2, 0] rfl)
set_option maxRecDepth 100000 in
theorem c_X1_heldFor (l : Launch) (g : GG) {b0 : Nat} {p1 : Int32} (hb0 : isMom b0) {u : St} {Q : Int32 → St → Prop} (h : wp_X1_heldFor b0 p1 u Q) : CI l yX1_heldFor cX1_heldFor 2 (some .int) rm_X1_heldFor g [.ref (gad g b0), .int p1] u Q := by
  refine ent (own := RX1) (Qc := va_Qi Q (WQ g)) (by decide) rfl (Nat.le_of_ble_eq_true rfl) ?_
  intro p e s m below meth c A ls C hl hW
  have hl : lv_has ls 2 [(0, .ref (gad g b0)), (1, .int p1)] := hl
  unfold wp_X1_heldFor at h
  refine lv_iload_n C.1 C.2.1 dX1_heldFor_0 rfl (lv_at hl 1 rfl) ?_
  refine lv_if_lt (tgt := 19) C.1 C.2.1 dX1_heldFor_1 (by decide) (fun c1 => ?_) (fun c1 => ?_)
  · have h := h.1 c1
    refine lv_iconst (v := 0) C.1 C.2.1 dX1_heldFor_19 (by decide) ?_
    exact x_iret C hW h dX1_heldFor_20
  · have h := h.2 c1
    refine lv_iload_n C.1 C.2.1 dX1_heldFor_4 rfl (lv_at hl 1 rfl) ?_
    refine lv_bipush (v := 7) C.1 C.2.1 dX1_heldFor_5 (by decide) ?_
    refine lv_icmp_ge (tgt := 19) C.1 C.2.1 dX1_heldFor_7 (by decide) (fun c2 => ?_) (fun c2 => ?_)
    · have h := h.1 c2
      refine lv_iconst (v := 0) C.1 C.2.1 dX1_heldFor_19 (by decide) ?_
      exact x_iret C hW h dX1_heldFor_20
    · have h := h.2 c2
      refine lv_aload_n C.1 C.2.1 dX1_heldFor_10 rfl (lv_at hl 0 rfl) ?_
      refine fg_X1_9 C hW hb0 dX1_heldFor_11 ?_
      refine lv_iload_n C.1 C.2.1 dX1_heldFor_14 rfl (lv_at hl 1 rfl) ?_
      obtain ⟨h3, h⟩ := h
      refine x_iald C hW (gMom1 hb0) h3 dX1_heldFor_15 ?_
      refine lv_goto (tgt := 20) C.1 C.2.1 dX1_heldFor_16 (by decide) ?_
      exact x_iret C hW h dX1_heldFor_20
set_option maxRecDepth 100000 in
theorem c_X4_holds (l : Launch) (g : GG) {p0 : Int32} {p1 : Int32} {u : St} {Q : Int32 → St → Prop} (h : wp_X4_holds p0 p1 u Q) : CI l yX4_holds cX4_holds 2 (some .boolean) rm_X4_holds g [.int p0, .int p1] u Q := by
  refine ent (own := RX4) (Qc := va_Qi Q (WQ g)) (by decide) rfl (Nat.le_of_ble_eq_true rfl) ?_
  intro p e s m below meth c A ls C hl hW
  have hl : lv_has ls 2 [(0, .int p0), (1, .int p1)] := hl
  unfold wp_X4_holds at h
  refine lv_iload_n C.1 C.2.1 dX4_holds_0 rfl (lv_at hl 0 rfl) ?_
  refine lv_iload_n C.1 C.2.1 dX4_holds_1 rfl (lv_at hl 1 rfl) ?_
  refine lv_ishr C.1 C.2.1 dX4_holds_2 ?_
  refine lv_iconst (v := 1) C.1 C.2.1 dX4_holds_3 (by decide) ?_
  refine lv_iand C.1 C.2.1 dX4_holds_4 ?_
  refine lv_if_eq (tgt := 12) C.1 C.2.1 dX4_holds_5 (by decide) (fun c1 => ?_) (fun c1 => ?_)
  · have h := h.1 c1
    refine lv_iconst (v := 0) C.1 C.2.1 dX4_holds_12 (by decide) ?_
    exact x_zret C hW rfl h dX4_holds_13
  · have h := h.2 c1
    refine lv_iconst (v := 1) C.1 C.2.1 dX4_holds_8 (by decide) ?_
    refine lv_goto (tgt := 13) C.1 C.2.1 dX4_holds_9 (by decide) ?_
    exact x_zret C hW rfl h dX4_holds_13
set_option maxRecDepth 100000 in
theorem k_X1_passScan_B12 {p : Program} {l : Launch} {e : Env} {s : State} {m : MethodId} {args : Array Value} {below : List Frame} {meth : Method} {c : Code} {g : GG} {A : Nat → Prop} {b0 : Nat} (hb0 : isMom b0) {Q : St → Prop} (C : MC p s m args meth c cX1_passScan 2 RX1 none g A) {K12 : Int32 → St → Prop} (hK12 : ∀ (v1 : Int32) (u : St) (H : Heap) (locs : List Loc) (ls : Array Slot), K12 v1 u → WD g A s u H locs → lv_has ls 2 [(0, .ref (gad g b0)), (1, .int v1)] → W p l e rm_X1_passScan s m args below meth c H locs 0 0 (MQ below (va_Qv Q (WQ g) A) args s 0 0 A) (F0 m 12 ls [])) : ∀ (v1 : Int32) (u : St) (H : Heap) (locs : List Loc) (ls : Array Slot), wp_X1_passScan_B12 b0 Q K12 v1 u → WD g A s u H locs → lv_has ls 2 [(0, .ref (gad g b0)), (1, .int v1)] → W p l e rm_X1_passScan s m args below meth c H locs 0 0 (MQ below (va_Qv Q (WQ g) A) args s 0 0 A) (F0 m 12 ls []) := by
  intro v1 u H locs ls h hW hl
  refine lv_iload_n C.1 C.2.1 dX1_passScan_12 rfl (lv_at hl 1 rfl) ?_
  refine lv_bipush (v := 7) C.1 C.2.1 dX1_passScan_13 (by decide) ?_
  refine lv_icmp_ge (tgt := 54) C.1 C.2.1 dX1_passScan_15 (by decide) (fun c2 => ?_) (fun c2 => ?_)
  · have h := h.1 c2
    exact x_vret C hW h dX1_passScan_54
  · have h := h.2 c2
    refine lv_aload_n C.1 C.2.1 dX1_passScan_18 rfl (lv_at hl 0 rfl) ?_
    refine fg_X1_19 C hW hb0 dX1_passScan_19 ?_
    refine lv_iload_n C.1 C.2.1 dX1_passScan_22 rfl (lv_at hl 1 rfl) ?_
    refine x_SNi (rest := []) C hW (c_X4_holds l g h) km_X4_holds qmn_X1_32 ⟨rfl, rfl⟩ (by decide) rfl hl.1 rfl (Nat.le_of_ble_eq_true rfl) ⟨Nat.zero_le _, Nat.zero_le _⟩ dX1_passScan_23 (fun r3 u3 H locs h hW => ?_)
    refine lv_if_eq (tgt := 48) C.1 C.2.1 dX1_passScan_26 (by decide) (fun c4 => ?_) (fun c4 => ?_)
    · have h := h.1 c4
      refine lv_iinc (v := (v1 + 1)) (lv' := [(1, .int (v1 + 1)), (0, .ref (gad g b0))]) C.1 C.2.1 dX1_passScan_48 hl (k := 1) rfl rfl (by decide) rfl (fun ls hl => ?_)
      refine lv_goto (tgt := 12) C.1 C.2.1 dX1_passScan_51 (by decide) ?_
      exact hK12 (v1 + 1) u3 _ _ _ h hW (lv_sub hl [1, 0] rfl)
    · have h := h.2 c4
      refine lv_aload_n C.1 C.2.1 dX1_passScan_29 rfl (lv_at hl 0 rfl) ?_
      refine fg_X1_9 C hW hb0 dX1_passScan_30 ?_
      refine lv_iload_n C.1 C.2.1 dX1_passScan_33 rfl (lv_at hl 1 rfl) ?_
      refine lv_bipush (v := 9) C.1 C.2.1 dX1_passScan_34 (by decide) ?_
      refine lv_aload_n C.1 C.2.1 dX1_passScan_36 rfl (lv_at hl 0 rfl) ?_
      refine fg_X1_9 C hW hb0 dX1_passScan_37 ?_
      refine lv_iload_n C.1 C.2.1 dX1_passScan_40 rfl (lv_at hl 1 rfl) ?_
      obtain ⟨h5, h⟩ := h
      refine x_iald C hW (gMom1 hb0) h5 dX1_passScan_41 ?_
      refine lv_iconst (v := 1) C.1 C.2.1 dX1_passScan_42 (by decide) ?_
      refine lv_iadd C.1 C.2.1 dX1_passScan_43 ?_
      refine x_mmin C hl.1 qm_X1_35 (by decide) (Nat.le_of_ble_eq_true rfl) ⟨Nat.zero_le _, Nat.zero_le _⟩ dX1_passScan_44 ?_
      obtain ⟨h6, h⟩ := h
      refine x_iast C hW (gMom1 hb0) h6 dX1_passScan_47 (fun u7 H locs e7 hW => ?_)
      have h := nxt_get h e7
      refine lv_iinc (v := (v1 + 1)) (lv' := [(1, .int (v1 + 1)), (0, .ref (gad g b0))]) C.1 C.2.1 dX1_passScan_48 hl (k := 1) rfl rfl (by decide) rfl (fun ls hl => ?_)
      refine lv_goto (tgt := 12) C.1 C.2.1 dX1_passScan_51 (by decide) ?_
      exact hK12 (v1 + 1) u7 _ _ _ h hW (lv_sub hl [1, 0] rfl)
theorem k_X1_passScan_L12 {p : Program} {l : Launch} {e : Env} {s : State} {m : MethodId} {args : Array Value} {below : List Frame} {meth : Method} {c : Code} {g : GG} {A : Nat → Prop} {b0 : Nat} (hb0 : isMom b0) {Q : St → Prop} (C : MC p s m args meth c cX1_passScan 2 RX1 none g A) : ∀ (n : Nat), ∀ (v1 : Int32) (u : St) (H : Heap) (locs : List Loc) (ls : Array Slot), wp_X1_passScan_L12 b0 Q n v1 u → WD g A s u H locs → lv_has ls 2 [(0, .ref (gad g b0)), (1, .int v1)] → W p l e rm_X1_passScan s m args below meth c H locs 0 0 (MQ below (va_Qv Q (WQ g) A) args s 0 0 A) (F0 m 12 ls []) := by
  intro n
  induction n with
  | zero => intro v1 u H locs ls h; exact False.elim h
  | succ n ih => exact k_X1_passScan_B12 (b0 := b0) hb0 C ih
set_option maxRecDepth 100000 in
theorem c_X1_passScan (l : Launch) (g : GG) {b0 : Nat} (hb0 : isMom b0) {u : St} {Q : St → Prop} (h : wp_X1_passScan b0 u Q) : CV l yX1_passScan cX1_passScan 2 none rm_X1_passScan g [.ref (gad g b0)] u Q := by
  refine ent (own := RX1) (Qc := va_Qv Q (WQ g)) (by decide) rfl (Nat.le_of_ble_eq_true rfl) ?_
  intro p e s m below meth c A ls C hl hW
  have hl : lv_has ls 2 [(0, .ref (gad g b0))] := hl
  unfold wp_X1_passScan at h
  refine lv_aload_n C.1 C.2.1 dX1_passScan_0 rfl (lv_at hl 0 rfl) ?_
  refine lv_dup C.1 C.2.1 dX1_passScan_1 rfl ?_
  refine fg_X1_15 C hW hb0 dX1_passScan_2 ?_
  refine lv_iconst (v := 1) C.1 C.2.1 dX1_passScan_5 (by decide) ?_
  refine lv_iadd C.1 C.2.1 dX1_passScan_6 ?_
  refine fp_X1_15 C hW hb0 dX1_passScan_7 (fun u1 H locs e1 hW => ?_)
  have h := nxt_get h e1
  refine lv_iconst (v := 0) C.1 C.2.1 dX1_passScan_10 (by decide) ?_
  refine lv_istore_n (lv' := [(1, .int 0), (0, .ref (gad g b0))]) C.1 C.2.1 dX1_passScan_11 rfl hl (by decide) rfl (fun ls hl => ?_)
  obtain ⟨n, h⟩ := h
  exact k_X1_passScan_L12 hb0 C n 0 u1 _ _ _ h hW (lv_sub hl [1, 0] rfl)
set_option maxRecDepth 100000 in
theorem k_X1_reset_B17 {p : Program} {l : Launch} {e : Env} {s : State} {m : MethodId} {args : Array Value} {below : List Frame} {meth : Method} {c : Code} {g : GG} {A : Nat → Prop} {b0 : Nat} (hb0 : isMom b0) {Q : St → Prop} (C : MC p s m args meth c cX1_reset 2 RX1 none g A) {K17 : Int32 → St → Prop} (hK17 : ∀ (v1 : Int32) (u : St) (H : Heap) (locs : List Loc) (ls : Array Slot), K17 v1 u → WD g A s u H locs → lv_has ls 2 [(0, .ref (gad g b0)), (1, .int v1)] → W p l e rm_X1_reset s m args below meth c H locs 0 0 (MQ below (va_Qv Q (WQ g) A) args s 0 0 A) (F0 m 17 ls [])) : ∀ (v1 : Int32) (u : St) (H : Heap) (locs : List Loc) (ls : Array Slot), wp_X1_reset_B17 b0 Q K17 v1 u → WD g A s u H locs → lv_has ls 2 [(0, .ref (gad g b0)), (1, .int v1)] → W p l e rm_X1_reset s m args below meth c H locs 0 0 (MQ below (va_Qv Q (WQ g) A) args s 0 0 A) (F0 m 17 ls []) := by
  intro v1 u H locs ls h hW hl
  refine lv_iload_n C.1 C.2.1 dX1_reset_17 rfl (lv_at hl 1 rfl) ?_
  refine lv_bipush (v := 7) C.1 C.2.1 dX1_reset_18 (by decide) ?_
  refine lv_icmp_ge (tgt := 36) C.1 C.2.1 dX1_reset_20 (by decide) (fun c4 => ?_) (fun c4 => ?_)
  · have h := h.1 c4
    exact x_vret C hW h dX1_reset_36
  · have h := h.2 c4
    refine lv_aload_n C.1 C.2.1 dX1_reset_23 rfl (lv_at hl 0 rfl) ?_
    refine fg_X1_9 C hW hb0 dX1_reset_24 ?_
    refine lv_iload_n C.1 C.2.1 dX1_reset_27 rfl (lv_at hl 1 rfl) ?_
    refine lv_iconst (v := 0) C.1 C.2.1 dX1_reset_28 (by decide) ?_
    obtain ⟨h5, h⟩ := h
    refine x_iast C hW (gMom1 hb0) h5 dX1_reset_29 (fun u6 H locs e6 hW => ?_)
    have h := nxt_get h e6
    refine lv_iinc (v := (v1 + 1)) (lv' := [(1, .int (v1 + 1)), (0, .ref (gad g b0))]) C.1 C.2.1 dX1_reset_30 hl (k := 1) rfl rfl (by decide) rfl (fun ls hl => ?_)
    refine lv_goto (tgt := 17) C.1 C.2.1 dX1_reset_33 (by decide) ?_
    exact hK17 (v1 + 1) u6 _ _ _ h hW (lv_sub hl [1, 0] rfl)
theorem k_X1_reset_L17 {p : Program} {l : Launch} {e : Env} {s : State} {m : MethodId} {args : Array Value} {below : List Frame} {meth : Method} {c : Code} {g : GG} {A : Nat → Prop} {b0 : Nat} (hb0 : isMom b0) {Q : St → Prop} (C : MC p s m args meth c cX1_reset 2 RX1 none g A) : ∀ (n : Nat), ∀ (v1 : Int32) (u : St) (H : Heap) (locs : List Loc) (ls : Array Slot), wp_X1_reset_L17 b0 Q n v1 u → WD g A s u H locs → lv_has ls 2 [(0, .ref (gad g b0)), (1, .int v1)] → W p l e rm_X1_reset s m args below meth c H locs 0 0 (MQ below (va_Qv Q (WQ g) A) args s 0 0 A) (F0 m 17 ls []) := by
  intro n
  induction n with
  | zero => intro v1 u H locs ls h; exact False.elim h
  | succ n ih => exact k_X1_reset_B17 (b0 := b0) hb0 C ih
set_option maxRecDepth 100000 in
theorem c_X1_reset (l : Launch) (g : GG) {b0 : Nat} (hb0 : isMom b0) {u : St} {Q : St → Prop} (h : wp_X1_reset b0 u Q) : CV l yX1_reset cX1_reset 2 none rm_X1_reset g [.ref (gad g b0)] u Q := by
  refine ent (own := RX1) (Qc := va_Qv Q (WQ g)) (by decide) rfl (Nat.le_of_ble_eq_true rfl) ?_
  intro p e s m below meth c A ls C hl hW
  have hl : lv_has ls 2 [(0, .ref (gad g b0))] := hl
  unfold wp_X1_reset at h
  refine lv_aload_n C.1 C.2.1 dX1_reset_0 rfl (lv_at hl 0 rfl) ?_
  refine lv_iconst (v := 0) C.1 C.2.1 dX1_reset_1 (by decide) ?_
  refine fp_X1_15 C hW hb0 dX1_reset_2 (fun u1 H locs e1 hW => ?_)
  have h := nxt_get h e1
  refine lv_aload_n C.1 C.2.1 dX1_reset_5 rfl (lv_at hl 0 rfl) ?_
  refine lv_iconst (v := 0) C.1 C.2.1 dX1_reset_6 (by decide) ?_
  refine fp_X1_19 C hW hb0 dX1_reset_7 (fun u2 H locs e2 hW => ?_)
  have h := nxt_get h e2
  refine lv_aload_n C.1 C.2.1 dX1_reset_10 rfl (lv_at hl 0 rfl) ?_
  refine lv_iconst (v := 0) C.1 C.2.1 dX1_reset_11 (by decide) ?_
  refine fp_X1_22 C hW hb0 dX1_reset_12 (fun u3 H locs e3 hW => ?_)
  have h := nxt_get h e3
  refine lv_iconst (v := 0) C.1 C.2.1 dX1_reset_15 (by decide) ?_
  refine lv_istore_n (lv' := [(1, .int 0), (0, .ref (gad g b0))]) C.1 C.2.1 dX1_reset_16 rfl hl (by decide) rfl (fun ls hl => ?_)
  obtain ⟨n, h⟩ := h
  exact k_X1_reset_L17 hb0 C n 0 u3 _ _ _ h hW (lv_sub hl [1, 0] rfl)
set_option maxRecDepth 100000 in
theorem c_X4_within (l : Launch) (g : GG) {p0 : Int32} {p1 : Int32} {u : St} {Q : Int32 → St → Prop} (h : wp_X4_within p0 p1 u Q) : CI l yX4_within cX4_within 2 (some .boolean) rm_X4_within g [.int p0, .int p1] u Q := by
  refine ent (own := RX4) (Qc := va_Qi Q (WQ g)) (by decide) rfl (Nat.le_of_ble_eq_true rfl) ?_
  intro p e s m below meth c A ls C hl hW
  have hl : lv_has ls 2 [(0, .int p0), (1, .int p1)] := hl
  unfold wp_X4_within at h
  refine lv_iload_n C.1 C.2.1 dX4_within_0 rfl (lv_at hl 0 rfl) ?_
  refine lv_if_lt (tgt := 13) C.1 C.2.1 dX4_within_1 (by decide) (fun c1 => ?_) (fun c1 => ?_)
  · have h := h.1 c1
    refine lv_iconst (v := 0) C.1 C.2.1 dX4_within_13 (by decide) ?_
    exact x_zret C hW rfl h dX4_within_14
  · have h := h.2 c1
    refine lv_iload_n C.1 C.2.1 dX4_within_4 rfl (lv_at hl 0 rfl) ?_
    refine lv_iload_n C.1 C.2.1 dX4_within_5 rfl (lv_at hl 1 rfl) ?_
    refine lv_icmp_ge (tgt := 13) C.1 C.2.1 dX4_within_6 (by decide) (fun c2 => ?_) (fun c2 => ?_)
    · have h := h.1 c2
      refine lv_iconst (v := 0) C.1 C.2.1 dX4_within_13 (by decide) ?_
      exact x_zret C hW rfl h dX4_within_14
    · have h := h.2 c2
      refine lv_iconst (v := 1) C.1 C.2.1 dX4_within_9 (by decide) ?_
      refine lv_goto (tgt := 14) C.1 C.2.1 dX4_within_10 (by decide) ?_
      exact x_zret C hW rfl h dX4_within_14
set_option maxRecDepth 100000 in
theorem c_X1_undergo (l : Launch) (g : GG) {b0 : Nat} {p1 : Int32} (hb0 : isMom b0) {u : St} {Q : St → Prop} (h : wp_X1_undergo b0 p1 u Q) : CV l yX1_undergo cX1_undergo 2 none rm_X1_undergo g [.ref (gad g b0), .int p1] u Q := by
  refine ent (own := RX1) (Qc := va_Qv Q (WQ g)) (by decide) rfl (Nat.le_of_ble_eq_true rfl) ?_
  intro p e s m below meth c A ls C hl hW
  have hl : lv_has ls 2 [(0, .ref (gad g b0)), (1, .int p1)] := hl
  unfold wp_X1_undergo at h
  refine lv_iload_n C.1 C.2.1 dX1_undergo_0 rfl (lv_at hl 1 rfl) ?_
  refine lv_bipush (v := 7) C.1 C.2.1 dX1_undergo_1 (by decide) ?_
  refine lv_icmp_ne (tgt := 13) C.1 C.2.1 dX1_undergo_3 (by decide) (fun c1 => ?_) (fun c1 => ?_)
  · have h := h.1 c1
    refine lv_iload_n C.1 C.2.1 dX1_undergo_13 rfl (lv_at hl 1 rfl) ?_
    refine lv_bipush (v := 8) C.1 C.2.1 dX1_undergo_14 (by decide) ?_
    refine lv_isub C.1 C.2.1 dX1_undergo_16 ?_
    refine lv_iconst (v := 4) C.1 C.2.1 dX1_undergo_17 (by decide) ?_
    refine x_SNi (rest := []) C hW (c_X4_within l g h) km_X4_within qmn_X1_28 ⟨rfl, rfl⟩ (by decide) rfl hl.1 rfl (Nat.le_of_ble_eq_true rfl) ⟨Nat.zero_le _, Nat.zero_le _⟩ dX1_undergo_18 (fun r2 u2 H locs h hW => ?_)
    refine lv_if_eq (tgt := 42) C.1 C.2.1 dX1_undergo_21 (by decide) (fun c3 => ?_) (fun c3 => ?_)
    · have h := h.1 c3
      refine lv_iload_n C.1 C.2.1 dX1_undergo_42 rfl (lv_at hl 1 rfl) ?_
      refine lv_bipush (v := 7) C.1 C.2.1 dX1_undergo_43 (by decide) ?_
      refine x_SNi (rest := []) C hW (c_X4_within l g h) km_X4_within qmn_X1_28 ⟨rfl, rfl⟩ (by decide) rfl hl.1 rfl (Nat.le_of_ble_eq_true rfl) ⟨Nat.zero_le _, Nat.zero_le _⟩ dX1_undergo_45 (fun r4 u4 H locs h hW => ?_)
      refine lv_if_eq (tgt := 70) C.1 C.2.1 dX1_undergo_48 (by decide) (fun c5 => ?_) (fun c5 => ?_)
      · have h := h.1 c5
        exact x_vret C hW h dX1_undergo_70
      · have h := h.2 c5
        refine lv_aload_n C.1 C.2.1 dX1_undergo_51 rfl (lv_at hl 0 rfl) ?_
        refine lv_dup C.1 C.2.1 dX1_undergo_52 rfl ?_
        refine fg_X1_19 C hW hb0 dX1_undergo_53 ?_
        refine lv_iconst (v := 1) C.1 C.2.1 dX1_undergo_56 (by decide) ?_
        refine lv_iload_n C.1 C.2.1 dX1_undergo_57 rfl (lv_at hl 1 rfl) ?_
        refine lv_ishl C.1 C.2.1 dX1_undergo_58 ?_
        refine lv_ixor C.1 C.2.1 dX1_undergo_59 ?_
        refine fp_X1_19 C hW hb0 dX1_undergo_60 (fun u6 H locs e6 hW => ?_)
        have h := nxt_get h e6
        refine lv_aload_n C.1 C.2.1 dX1_undergo_63 rfl (lv_at hl 0 rfl) ?_
        refine fg_X1_9 C hW hb0 dX1_undergo_64 ?_
        refine lv_iload_n C.1 C.2.1 dX1_undergo_67 rfl (lv_at hl 1 rfl) ?_
        refine lv_iconst (v := 0) C.1 C.2.1 dX1_undergo_68 (by decide) ?_
        obtain ⟨h7, h⟩ := h
        refine x_iast C hW (gMom1 hb0) h7 dX1_undergo_69 (fun u8 H locs e8 hW => ?_)
        have h := nxt_get h e8
        exact x_vret C hW h dX1_undergo_70
    · have h := h.2 c3
      refine lv_aload_n C.1 C.2.1 dX1_undergo_24 rfl (lv_at hl 0 rfl) ?_
      refine lv_dup C.1 C.2.1 dX1_undergo_25 rfl ?_
      refine fg_X1_22 C hW hb0 dX1_undergo_26 ?_
      refine lv_iconst (v := 1) C.1 C.2.1 dX1_undergo_29 (by decide) ?_
      refine lv_iload_n C.1 C.2.1 dX1_undergo_30 rfl (lv_at hl 1 rfl) ?_
      refine lv_bipush (v := 8) C.1 C.2.1 dX1_undergo_31 (by decide) ?_
      refine lv_isub C.1 C.2.1 dX1_undergo_33 ?_
      refine lv_ishl C.1 C.2.1 dX1_undergo_34 ?_
      refine lv_ixor C.1 C.2.1 dX1_undergo_35 ?_
      refine fp_X1_22 C hW hb0 dX1_undergo_36 (fun u9 H locs e9 hW => ?_)
      have h := nxt_get h e9
      refine lv_goto (tgt := 70) C.1 C.2.1 dX1_undergo_39 (by decide) ?_
      exact x_vret C hW h dX1_undergo_70
  · have h := h.2 c1
    refine lv_aload_n C.1 C.2.1 dX1_undergo_6 rfl (lv_at hl 0 rfl) ?_
    refine x_Vv (rest := []) C hW (c_X1_passScan l g hb0 h) km_X1_passScan (oMom hb0) rfl qm_X1_25 ⟨rfl, rfl⟩ (by decide) rfl hl.1 rfl (Nat.le_of_ble_eq_true rfl) ⟨Nat.zero_le _, Nat.zero_le _⟩ dX1_undergo_7 (fun u10 H locs h hW => ?_)
    refine lv_goto (tgt := 70) C.1 C.2.1 dX1_undergo_10 (by decide) ?_
    exact x_vret C hW h dX1_undergo_70
set_option maxRecDepth 100000 in
theorem c_X2_size (l : Launch) (g : GG) {b0 : Nat} {p1 : Int32} (hb0 : isShf b0) {u : St} {Q : Int32 → St → Prop} (h : wp_X2_size b0 p1 u Q) : CI l yX2_size cX2_size 2 (some .int) rm_X2_size g [.ref (gad g b0), .int p1] u Q := by
  refine ent (own := RX2) (Qc := va_Qi Q (WQ g)) (by decide) rfl (Nat.le_of_ble_eq_true rfl) ?_
  intro p e s m below meth c A ls C hl hW
  have hl : lv_has ls 2 [(0, .ref (gad g b0)), (1, .int p1)] := hl
  unfold wp_X2_size at h
  refine lv_iload_n C.1 C.2.1 dX2_size_0 rfl (lv_at hl 1 rfl) ?_
  refine lv_aload_n C.1 C.2.1 dX2_size_1 rfl (lv_at hl 0 rfl) ?_
  refine fg_X2_15 C hW hb0 dX2_size_2 ?_
  refine x_SNi (rest := []) C hW (c_X4_within l g h) km_X4_within qmn_X2_31 ⟨rfl, rfl⟩ (by decide) rfl hl.1 rfl (Nat.le_of_ble_eq_true rfl) ⟨Nat.zero_le _, Nat.zero_le _⟩ dX2_size_5 (fun r1 u1 H locs h hW => ?_)
  refine lv_if_eq (tgt := 20) C.1 C.2.1 dX2_size_8 (by decide) (fun c2 => ?_) (fun c2 => ?_)
  · have h := h.1 c2
    refine lv_iconst (v := (-1)) C.1 C.2.1 dX2_size_20 (by decide) ?_
    exact x_iret C hW h dX2_size_21
  · have h := h.2 c2
    refine lv_aload_n C.1 C.2.1 dX2_size_11 rfl (lv_at hl 0 rfl) ?_
    refine fg_X2_24 C hW hb0 dX2_size_12 ?_
    refine lv_iload_n C.1 C.2.1 dX2_size_15 rfl (lv_at hl 1 rfl) ?_
    obtain ⟨h3, h⟩ := h
    refine x_iald C hW (gShf1 hb0) h3 dX2_size_16 ?_
    refine lv_goto (tgt := 21) C.1 C.2.1 dX2_size_17 (by decide) ?_
    exact x_iret C hW h dX2_size_21
set_option maxRecDepth 100000 in
theorem c_X2_add (l : Launch) (g : GG) {b0 : Nat} {p1 : Int32} {p2 : Int32} (hb0 : isShf b0) {u : St} {Q : St → Prop} (h : wp_X2_add b0 p1 p2 u Q) : CV l yX2_add cX2_add 4 none rm_X2_add g [.ref (gad g b0), .int p1, .int p2] u Q := by
  refine ent (own := RX2) (Qc := va_Qv Q (WQ g)) (by decide) rfl (Nat.le_of_ble_eq_true rfl) ?_
  intro p e s m below meth c A ls C hl hW
  have hl : lv_has ls 4 [(0, .ref (gad g b0)), (1, .int p1), (2, .int p2)] := hl
  unfold wp_X2_add at h
  refine lv_aload_n C.1 C.2.1 dX2_add_0 rfl (lv_at hl 0 rfl) ?_
  refine lv_iload_n C.1 C.2.1 dX2_add_1 rfl (lv_at hl 1 rfl) ?_
  refine x_Vi (rest := []) C hW (c_X2_size l g hb0 h) km_X2_size (oShf hb0) rfl qm_X2_35 ⟨rfl, rfl⟩ (by decide) rfl hl.1 rfl (Nat.le_of_ble_eq_true rfl) ⟨Nat.zero_le _, Nat.zero_le _⟩ dX2_add_2 (fun r1 u1 H locs h hW => ?_)
  refine lv_istore_n (lv' := [(3, .int r1), (0, .ref (gad g b0)), (1, .int p1), (2, .int p2)]) C.1 C.2.1 dX2_add_5 rfl hl (by decide) rfl (fun ls hl => ?_)
  refine lv_iload_n C.1 C.2.1 dX2_add_6 rfl (lv_at hl 0 rfl) ?_
  refine lv_aload_n C.1 C.2.1 dX2_add_7 rfl (lv_at hl 1 rfl) ?_
  refine fg_X2_21 C hW hb0 dX2_add_8 ?_
  refine x_SNi (rest := []) C hW (c_X4_within l g h) km_X4_within qmn_X2_31 ⟨rfl, rfl⟩ (by decide) rfl hl.1 rfl (Nat.le_of_ble_eq_true rfl) ⟨Nat.zero_le _, Nat.zero_le _⟩ dX2_add_11 (fun r2 u2 H locs h hW => ?_)
  refine lv_if_eq (tgt := 40) C.1 C.2.1 dX2_add_14 (by decide) (fun c3 => ?_) (fun c3 => ?_)
  · have h := h.1 c3
    exact x_vret C hW h dX2_add_40
  · have h := h.2 c3
    refine lv_aload_n C.1 C.2.1 dX2_add_17 rfl (lv_at hl 1 rfl) ?_
    refine fg_X2_24 C hW hb0 dX2_add_18 ?_
    refine lv_iload_n C.1 C.2.1 dX2_add_21 rfl (lv_at hl 2 rfl) ?_
    refine lv_iload_n C.1 C.2.1 dX2_add_22 rfl (lv_at hl 0 rfl) ?_
    refine lv_iconst (v := 1) C.1 C.2.1 dX2_add_23 (by decide) ?_
    refine lv_iadd C.1 C.2.1 dX2_add_24 ?_
    obtain ⟨h4, h⟩ := h
    refine x_iast C hW (gShf1 hb0) h4 dX2_add_25 (fun u5 H locs e5 hW => ?_)
    have h := nxt_get h e5
    refine lv_aload_n C.1 C.2.1 dX2_add_26 rfl (lv_at hl 1 rfl) ?_
    refine fg_X2_28 C hW hb0 dX2_add_27 ?_
    refine lv_iload_n C.1 C.2.1 dX2_add_30 rfl (lv_at hl 2 rfl) ?_
    refine lv_aload_n C.1 C.2.1 dX2_add_31 rfl (lv_at hl 1 rfl) ?_
    refine fg_X2_21 C hW hb0 dX2_add_32 ?_
    refine lv_imul C.1 C.2.1 dX2_add_35 ?_
    refine lv_iload_n C.1 C.2.1 dX2_add_36 rfl (lv_at hl 0 rfl) ?_
    refine lv_iadd C.1 C.2.1 dX2_add_37 ?_
    refine lv_iload_n C.1 C.2.1 dX2_add_38 rfl (lv_at hl 3 rfl) ?_
    obtain ⟨h6, h⟩ := h
    refine x_iast C hW (gShf2 hb0) h6 dX2_add_39 (fun u7 H locs e7 hW => ?_)
    have h := nxt_get h e7
    exact x_vret C hW h dX2_add_40
set_option maxRecDepth 100000 in
theorem c_X2_get (l : Launch) (g : GG) {b0 : Nat} {p1 : Int32} {p2 : Int32} (hb0 : isShf b0) {u : St} {Q : Int32 → St → Prop} (h : wp_X2_get b0 p1 p2 u Q) : CI l yX2_get cX2_get 3 (some .int) rm_X2_get g [.ref (gad g b0), .int p1, .int p2] u Q := by
  refine ent (own := RX2) (Qc := va_Qi Q (WQ g)) (by decide) rfl (Nat.le_of_ble_eq_true rfl) ?_
  intro p e s m below meth c A ls C hl hW
  have hl : lv_has ls 3 [(0, .ref (gad g b0)), (1, .int p1), (2, .int p2)] := hl
  unfold wp_X2_get at h
  refine lv_iload_n C.1 C.2.1 dX2_get_0 rfl (lv_at hl 2 rfl) ?_
  refine lv_aload_n C.1 C.2.1 dX2_get_1 rfl (lv_at hl 0 rfl) ?_
  refine lv_iload_n C.1 C.2.1 dX2_get_2 rfl (lv_at hl 1 rfl) ?_
  refine x_Vi (rest := [.int p2]) C hW (c_X2_size l g hb0 h) km_X2_size (oShf hb0) rfl qm_X2_35 ⟨rfl, rfl⟩ (by decide) rfl hl.1 rfl (Nat.le_of_ble_eq_true rfl) ⟨Nat.zero_le _, Nat.zero_le _⟩ dX2_get_3 (fun r1 u1 H locs h hW => ?_)
  refine x_SNi (rest := []) C hW (c_X4_within l g h) km_X4_within qmn_X2_31 ⟨rfl, rfl⟩ (by decide) rfl hl.1 rfl (Nat.le_of_ble_eq_true rfl) ⟨Nat.zero_le _, Nat.zero_le _⟩ dX2_get_6 (fun r2 u2 H locs h hW => ?_)
  refine lv_if_eq (tgt := 28) C.1 C.2.1 dX2_get_9 (by decide) (fun c3 => ?_) (fun c3 => ?_)
  · have h := h.1 c3
    refine lv_iconst (v := 0) C.1 C.2.1 dX2_get_28 (by decide) ?_
    exact x_iret C hW h dX2_get_29
  · have h := h.2 c3
    refine lv_aload_n C.1 C.2.1 dX2_get_12 rfl (lv_at hl 0 rfl) ?_
    refine fg_X2_28 C hW hb0 dX2_get_13 ?_
    refine lv_iload_n C.1 C.2.1 dX2_get_16 rfl (lv_at hl 1 rfl) ?_
    refine lv_aload_n C.1 C.2.1 dX2_get_17 rfl (lv_at hl 0 rfl) ?_
    refine fg_X2_21 C hW hb0 dX2_get_18 ?_
    refine lv_imul C.1 C.2.1 dX2_get_21 ?_
    refine lv_iload_n C.1 C.2.1 dX2_get_22 rfl (lv_at hl 2 rfl) ?_
    refine lv_iadd C.1 C.2.1 dX2_get_23 ?_
    obtain ⟨h4, h⟩ := h
    refine x_iald C hW (gShf2 hb0) h4 dX2_get_24 ?_
    refine lv_goto (tgt := 29) C.1 C.2.1 dX2_get_25 (by decide) ?_
    exact x_iret C hW h dX2_get_29
set_option maxRecDepth 100000 in
theorem c_X2_has (l : Launch) (g : GG) {b0 : Nat} {p1 : Int32} (hb0 : isShf b0) {u : St} {Q : Int32 → St → Prop} (h : wp_X2_has b0 p1 u Q) : CI l yX2_has cX2_has 2 (some .boolean) rm_X2_has g [.ref (gad g b0), .int p1] u Q := by
  refine ent (own := RX2) (Qc := va_Qi Q (WQ g)) (by decide) rfl (Nat.le_of_ble_eq_true rfl) ?_
  intro p e s m below meth c A ls C hl hW
  have hl : lv_has ls 2 [(0, .ref (gad g b0)), (1, .int p1)] := hl
  unfold wp_X2_has at h
  refine lv_aload_n C.1 C.2.1 dX2_has_0 rfl (lv_at hl 0 rfl) ?_
  refine lv_iload_n C.1 C.2.1 dX2_has_1 rfl (lv_at hl 1 rfl) ?_
  refine x_Vi (rest := []) C hW (c_X2_size l g hb0 h) km_X2_size (oShf hb0) rfl qm_X2_35 ⟨rfl, rfl⟩ (by decide) rfl hl.1 rfl (Nat.le_of_ble_eq_true rfl) ⟨Nat.zero_le _, Nat.zero_le _⟩ dX2_has_2 (fun r1 u1 H locs h hW => ?_)
  refine lv_iconst (v := (-1)) C.1 C.2.1 dX2_has_5 (by decide) ?_
  refine lv_icmp_eq (tgt := 13) C.1 C.2.1 dX2_has_6 (by decide) (fun c2 => ?_) (fun c2 => ?_)
  · have h := h.1 c2
    refine lv_iconst (v := 0) C.1 C.2.1 dX2_has_13 (by decide) ?_
    exact x_zret C hW rfl h dX2_has_14
  · have h := h.2 c2
    refine lv_iconst (v := 1) C.1 C.2.1 dX2_has_9 (by decide) ?_
    refine lv_goto (tgt := 14) C.1 C.2.1 dX2_has_10 (by decide) ?_
    exact x_zret C hW rfl h dX2_has_14
set_option maxRecDepth 100000 in
theorem k_X2_howMany_B4 {p : Program} {l : Launch} {e : Env} {s : State} {m : MethodId} {args : Array Value} {below : List Frame} {meth : Method} {c : Code} {g : GG} {A : Nat → Prop} {b0 : Nat} {p1 : Int32} (hb0 : isShf b0) {Q : Int32 → St → Prop} (C : MC p s m args meth c cX2_howMany 4 RX2 (some .int) g A) {K4 : Int32 → Int32 → St → Prop} (hK4 : ∀ (v2 : Int32) (v3 : Int32) (u : St) (H : Heap) (locs : List Loc) (ls : Array Slot), K4 v2 v3 u → WD g A s u H locs → lv_has ls 4 [(0, .ref (gad g b0)), (1, .int p1), (2, .int v2), (3, .int v3)] → W p l e rm_X2_howMany s m args below meth c H locs 0 0 (MQ below (va_Qi Q (WQ g) A) args s 0 0 A) (F0 m 4 ls [])) : ∀ (v2 : Int32) (v3 : Int32) (u : St) (H : Heap) (locs : List Loc) (ls : Array Slot), wp_X2_howMany_B4 b0 p1 Q K4 v2 v3 u → WD g A s u H locs → lv_has ls 4 [(0, .ref (gad g b0)), (1, .int p1), (2, .int v2), (3, .int v3)] → W p l e rm_X2_howMany s m args below meth c H locs 0 0 (MQ below (va_Qi Q (WQ g) A) args s 0 0 A) (F0 m 4 ls []) := by
  intro v2 v3 u H locs ls h hW hl
  refine lv_iload_n C.1 C.2.1 dX2_howMany_4 rfl (lv_at hl 3 rfl) ?_
  refine lv_iload_n C.1 C.2.1 dX2_howMany_5 rfl (lv_at hl 1 rfl) ?_
  refine lv_icmp_ge (tgt := 26) C.1 C.2.1 dX2_howMany_6 (by decide) (fun c1 => ?_) (fun c1 => ?_)
  · have h := h.1 c1
    refine lv_iload_n C.1 C.2.1 dX2_howMany_26 rfl (lv_at hl 2 rfl) ?_
    exact x_iret C hW h dX2_howMany_27
  · have h := h.2 c1
    refine lv_aload_n C.1 C.2.1 dX2_howMany_9 rfl (lv_at hl 0 rfl) ?_
    refine lv_iload_n C.1 C.2.1 dX2_howMany_10 rfl (lv_at hl 3 rfl) ?_
    refine x_Vi (rest := []) C hW (c_X2_has l g hb0 h) km_X2_has (oShf hb0) rfl qm_X2_39 ⟨rfl, rfl⟩ (by decide) rfl hl.1 rfl (Nat.le_of_ble_eq_true rfl) ⟨Nat.zero_le _, Nat.zero_le _⟩ dX2_howMany_11 (fun r2 u2 H locs h hW => ?_)
    refine lv_if_eq (tgt := 20) C.1 C.2.1 dX2_howMany_14 (by decide) (fun c3 => ?_) (fun c3 => ?_)
    · have h := h.1 c3
      refine lv_iinc (v := (v3 + 1)) (lv' := [(3, .int (v3 + 1)), (0, .ref (gad g b0)), (1, .int p1), (2, .int v2)]) C.1 C.2.1 dX2_howMany_20 hl (k := 3) rfl rfl (by decide) rfl (fun ls hl => ?_)
      refine lv_goto (tgt := 4) C.1 C.2.1 dX2_howMany_23 (by decide) ?_
      exact hK4 v2 (v3 + 1) u2 _ _ _ h hW (lv_sub hl [1, 2, 3, 0] rfl)
    · have h := h.2 c3
      refine lv_iinc (v := (v2 + 1)) (lv' := [(2, .int (v2 + 1)), (0, .ref (gad g b0)), (1, .int p1), (3, .int v3)]) C.1 C.2.1 dX2_howMany_17 hl (k := 2) rfl rfl (by decide) rfl (fun ls hl => ?_)
      refine lv_iinc (v := (v3 + 1)) (lv' := [(3, .int (v3 + 1)), (2, .int (v2 + 1)), (0, .ref (gad g b0)), (1, .int p1)]) C.1 C.2.1 dX2_howMany_20 hl (k := 3) rfl rfl (by decide) rfl (fun ls hl => ?_)
      refine lv_goto (tgt := 4) C.1 C.2.1 dX2_howMany_23 (by decide) ?_
      exact hK4 (v2 + 1) (v3 + 1) u2 _ _ _ h hW (lv_sub hl [2, 3, 1, 0] rfl)
theorem k_X2_howMany_L4 {p : Program} {l : Launch} {e : Env} {s : State} {m : MethodId} {args : Array Value} {below : List Frame} {meth : Method} {c : Code} {g : GG} {A : Nat → Prop} {b0 : Nat} {p1 : Int32} (hb0 : isShf b0) {Q : Int32 → St → Prop} (C : MC p s m args meth c cX2_howMany 4 RX2 (some .int) g A) : ∀ (n : Nat), ∀ (v2 : Int32) (v3 : Int32) (u : St) (H : Heap) (locs : List Loc) (ls : Array Slot), wp_X2_howMany_L4 b0 p1 Q n v2 v3 u → WD g A s u H locs → lv_has ls 4 [(0, .ref (gad g b0)), (1, .int p1), (2, .int v2), (3, .int v3)] → W p l e rm_X2_howMany s m args below meth c H locs 0 0 (MQ below (va_Qi Q (WQ g) A) args s 0 0 A) (F0 m 4 ls []) := by
  intro n
  induction n with
  | zero => intro v2 v3 u H locs ls h; exact False.elim h
  | succ n ih => exact k_X2_howMany_B4 (b0 := b0) (p1 := p1) hb0 C ih
set_option maxRecDepth 100000 in
theorem c_X2_howMany (l : Launch) (g : GG) {b0 : Nat} {p1 : Int32} (hb0 : isShf b0) {u : St} {Q : Int32 → St → Prop} (h : wp_X2_howMany b0 p1 u Q) : CI l yX2_howMany cX2_howMany 4 (some .int) rm_X2_howMany g [.ref (gad g b0), .int p1] u Q := by
  refine ent (own := RX2) (Qc := va_Qi Q (WQ g)) (by decide) rfl (Nat.le_of_ble_eq_true rfl) ?_
  intro p e s m below meth c A ls C hl hW
  have hl : lv_has ls 4 [(0, .ref (gad g b0)), (1, .int p1)] := hl
  unfold wp_X2_howMany at h
  refine lv_iconst (v := 0) C.1 C.2.1 dX2_howMany_0 (by decide) ?_
  refine lv_istore_n (lv' := [(2, .int 0), (0, .ref (gad g b0)), (1, .int p1)]) C.1 C.2.1 dX2_howMany_1 rfl hl (by decide) rfl (fun ls hl => ?_)
  refine lv_iconst (v := 0) C.1 C.2.1 dX2_howMany_2 (by decide) ?_
  refine lv_istore_n (lv' := [(3, .int 0), (2, .int 0), (0, .ref (gad g b0)), (1, .int p1)]) C.1 C.2.1 dX2_howMany_3 rfl hl (by decide) rfl (fun ls hl => ?_)
  obtain ⟨n, h⟩ := h
  exact k_X2_howMany_L4 hb0 C n 0 0 u _ _ _ h hW (lv_sub hl [2, 3, 1, 0] rfl)
set_option maxRecDepth 100000 in
theorem k_X2_make_B33 {p : Program} {l : Launch} {e : Env} {s : State} {m : MethodId} {args : Array Value} {below : List Frame} {meth : Method} {c : Code} {g : GG} {A : Nat → Prop} {b0 : Nat} {p1 : Int32} {p2 : Int32} {p3 : Int32} (hb0 : isShf b0) {Q : St → Prop} (C : MC p s m args meth c cX2_make 5 RX2 none g A) {K33 : Int32 → St → Prop} (hK33 : ∀ (v4 : Int32) (u : St) (H : Heap) (locs : List Loc) (ls : Array Slot), K33 v4 u → WD g A s u H locs → lv_has ls 5 [(0, .ref (gad g b0)), (1, .int p1), (2, .int p2), (3, .int p3), (4, .int v4)] → W p l e rm_X2_make s m args below meth c H locs 0 0 (MQ below (va_Qv Q (WQ g) A) args s 0 0 A) (F0 m 33 ls [])) : ∀ (v4 : Int32) (u : St) (H : Heap) (locs : List Loc) (ls : Array Slot), wp_X2_make_B33 b0 p1 p2 p3 Q K33 v4 u → WD g A s u H locs → lv_has ls 5 [(0, .ref (gad g b0)), (1, .int p1), (2, .int p2), (3, .int p3), (4, .int v4)] → W p l e rm_X2_make s m args below meth c H locs 0 0 (MQ below (va_Qv Q (WQ g) A) args s 0 0 A) (F0 m 33 ls []) := by
  intro v4 u H locs ls h hW hl
  refine lv_iload C.1 C.2.1 dX2_make_33 (lv_at hl 4 rfl) ?_
  refine lv_iload_n C.1 C.2.1 dX2_make_35 rfl (lv_at hl 2 rfl) ?_
  refine lv_icmp_ge (tgt := 60) C.1 C.2.1 dX2_make_36 (by decide) (fun c7 => ?_) (fun c7 => ?_)
  · have h := h.1 c7
    exact x_vret C hW h dX2_make_60
  · have h := h.2 c7
    refine lv_aload_n C.1 C.2.1 dX2_make_39 rfl (lv_at hl 0 rfl) ?_
    refine fg_X2_28 C hW hb0 dX2_make_40 ?_
    refine lv_iload_n C.1 C.2.1 dX2_make_43 rfl (lv_at hl 1 rfl) ?_
    refine lv_aload_n C.1 C.2.1 dX2_make_44 rfl (lv_at hl 0 rfl) ?_
    refine fg_X2_21 C hW hb0 dX2_make_45 ?_
    refine lv_imul C.1 C.2.1 dX2_make_48 ?_
    refine lv_iload C.1 C.2.1 dX2_make_49 (lv_at hl 4 rfl) ?_
    refine lv_iadd C.1 C.2.1 dX2_make_51 ?_
    refine lv_iload_n C.1 C.2.1 dX2_make_52 rfl (lv_at hl 3 rfl) ?_
    obtain ⟨h8, h⟩ := h
    refine x_iast C hW (gShf2 hb0) h8 dX2_make_53 (fun u9 H locs e9 hW => ?_)
    have h := nxt_get h e9
    refine lv_iinc (v := (v4 + 1)) (lv' := [(4, .int (v4 + 1)), (0, .ref (gad g b0)), (1, .int p1), (2, .int p2), (3, .int p3)]) C.1 C.2.1 dX2_make_54 hl (k := 4) rfl rfl (by decide) rfl (fun ls hl => ?_)
    refine lv_goto (tgt := 33) C.1 C.2.1 dX2_make_57 (by decide) ?_
    exact hK33 (v4 + 1) u9 _ _ _ h hW (lv_sub hl [1, 2, 3, 4, 0] rfl)
theorem k_X2_make_L33 {p : Program} {l : Launch} {e : Env} {s : State} {m : MethodId} {args : Array Value} {below : List Frame} {meth : Method} {c : Code} {g : GG} {A : Nat → Prop} {b0 : Nat} {p1 : Int32} {p2 : Int32} {p3 : Int32} (hb0 : isShf b0) {Q : St → Prop} (C : MC p s m args meth c cX2_make 5 RX2 none g A) : ∀ (n : Nat), ∀ (v4 : Int32) (u : St) (H : Heap) (locs : List Loc) (ls : Array Slot), wp_X2_make_L33 b0 p1 p2 p3 Q n v4 u → WD g A s u H locs → lv_has ls 5 [(0, .ref (gad g b0)), (1, .int p1), (2, .int p2), (3, .int p3), (4, .int v4)] → W p l e rm_X2_make s m args below meth c H locs 0 0 (MQ below (va_Qv Q (WQ g) A) args s 0 0 A) (F0 m 33 ls []) := by
  intro n
  induction n with
  | zero => intro v4 u H locs ls h; exact False.elim h
  | succ n ih => exact k_X2_make_B33 (b0 := b0) (p1 := p1) (p2 := p2) (p3 := p3) hb0 C ih
set_option maxRecDepth 100000 in
theorem c_X2_make (l : Launch) (g : GG) {b0 : Nat} {p1 : Int32} {p2 : Int32} {p3 : Int32} (hb0 : isShf b0) {u : St} {Q : St → Prop} (h : wp_X2_make b0 p1 p2 p3 u Q) : CV l yX2_make cX2_make 5 none rm_X2_make g [.ref (gad g b0), .int p1, .int p2, .int p3] u Q := by
  refine ent (own := RX2) (Qc := va_Qv Q (WQ g)) (by decide) rfl (Nat.le_of_ble_eq_true rfl) ?_
  intro p e s m below meth c A ls C hl hW
  have hl : lv_has ls 5 [(0, .ref (gad g b0)), (1, .int p1), (2, .int p2), (3, .int p3)] := hl
  unfold wp_X2_make at h
  refine lv_iload_n C.1 C.2.1 dX2_make_0 rfl (lv_at hl 1 rfl) ?_
  refine lv_aload_n C.1 C.2.1 dX2_make_1 rfl (lv_at hl 0 rfl) ?_
  refine fg_X2_15 C hW hb0 dX2_make_2 ?_
  refine x_SNi (rest := []) C hW (c_X4_within l g h) km_X4_within qmn_X2_31 ⟨rfl, rfl⟩ (by decide) rfl hl.1 rfl (Nat.le_of_ble_eq_true rfl) ⟨Nat.zero_le _, Nat.zero_le _⟩ dX2_make_5 (fun r1 u1 H locs h hW => ?_)
  refine lv_if_eq (tgt := 60) C.1 C.2.1 dX2_make_8 (by decide) (fun c2 => ?_) (fun c2 => ?_)
  · have h := h.1 c2
    exact x_vret C hW h dX2_make_60
  · have h := h.2 c2
    refine lv_iload_n C.1 C.2.1 dX2_make_11 rfl (lv_at hl 2 rfl) ?_
    refine lv_if_lt (tgt := 60) C.1 C.2.1 dX2_make_12 (by decide) (fun c3 => ?_) (fun c3 => ?_)
    · have h := h.1 c3
      exact x_vret C hW h dX2_make_60
    · have h := h.2 c3
      refine lv_iload_n C.1 C.2.1 dX2_make_15 rfl (lv_at hl 2 rfl) ?_
      refine lv_aload_n C.1 C.2.1 dX2_make_16 rfl (lv_at hl 0 rfl) ?_
      refine fg_X2_21 C hW hb0 dX2_make_17 ?_
      refine lv_icmp_gt (tgt := 60) C.1 C.2.1 dX2_make_20 (by decide) (fun c4 => ?_) (fun c4 => ?_)
      · have h := h.1 c4
        exact x_vret C hW h dX2_make_60
      · have h := h.2 c4
        refine lv_aload_n C.1 C.2.1 dX2_make_23 rfl (lv_at hl 0 rfl) ?_
        refine fg_X2_24 C hW hb0 dX2_make_24 ?_
        refine lv_iload_n C.1 C.2.1 dX2_make_27 rfl (lv_at hl 1 rfl) ?_
        refine lv_iload_n C.1 C.2.1 dX2_make_28 rfl (lv_at hl 2 rfl) ?_
        obtain ⟨h5, h⟩ := h
        refine x_iast C hW (gShf1 hb0) h5 dX2_make_29 (fun u6 H locs e6 hW => ?_)
        have h := nxt_get h e6
        refine lv_iconst (v := 0) C.1 C.2.1 dX2_make_30 (by decide) ?_
        refine lv_istore (lv' := [(4, .int 0), (0, .ref (gad g b0)), (1, .int p1), (2, .int p2), (3, .int p3)]) C.1 C.2.1 dX2_make_31 hl (by decide) rfl (fun ls hl => ?_)
        obtain ⟨n, h⟩ := h
        exact k_X2_make_L33 hb0 C n 0 u6 _ _ _ h hW (lv_sub hl [1, 2, 3, 4, 0] rfl)
set_option maxRecDepth 100000 in
theorem k_X2_mixInto_B35 {p : Program} {l : Launch} {e : Env} {s : State} {m : MethodId} {args : Array Value} {below : List Frame} {meth : Method} {c : Code} {g : GG} {A : Nat → Prop} {b0 : Nat} {p1 : Int64} (hb0 : isShf b0) {Q : Int64 → St → Prop} (C : MC p s m args meth c cX2_mixInto 8 RX2 (some .long) g A) {K5 : Int64 → Int32 → St → Prop} (hK5 : ∀ (v3 : Int64) (v5 : Int32) (u : St) (H : Heap) (locs : List Loc) (ls : Array Slot), K5 v3 v5 u → WD g A s u H locs → lv_has ls 8 [(0, .ref (gad g b0)), (3, .long v3), (5, .int v5)] → W p l e rm_X2_mixInto s m args below meth c H locs 0 0 (MQ below (va_Ql Q (WQ g) A) args s 0 0 A) (F0 m 5 ls [])) {K35 : Int64 → Int32 → Int32 → Int32 → St → Prop} (hK35 : ∀ (v3 : Int64) (v5 : Int32) (v6 : Int32) (v7 : Int32) (u : St) (H : Heap) (locs : List Loc) (ls : Array Slot), K35 v3 v5 v6 v7 u → WD g A s u H locs → lv_has ls 8 [(0, .ref (gad g b0)), (3, .long v3), (5, .int v5), (6, .int v6), (7, .int v7)] → W p l e rm_X2_mixInto s m args below meth c H locs 0 0 (MQ below (va_Ql Q (WQ g) A) args s 0 0 A) (F0 m 35 ls [])) : ∀ (v3 : Int64) (v5 : Int32) (v6 : Int32) (v7 : Int32) (u : St) (H : Heap) (locs : List Loc) (ls : Array Slot), wp_X2_mixInto_B35 b0 p1 Q K5 K35 v3 v5 v6 v7 u → WD g A s u H locs → lv_has ls 8 [(0, .ref (gad g b0)), (3, .long v3), (5, .int v5), (6, .int v6), (7, .int v7)] → W p l e rm_X2_mixInto s m args below meth c H locs 0 0 (MQ below (va_Ql Q (WQ g) A) args s 0 0 A) (F0 m 35 ls []) := by
  intro v3 v5 v6 v7 u H locs ls h hW hl
  refine lv_iload C.1 C.2.1 dX2_mixInto_35 (lv_at hl 4 rfl) ?_
  refine lv_iload C.1 C.2.1 dX2_mixInto_37 (lv_at hl 3 rfl) ?_
  refine lv_icmp_ge (tgt := 64) C.1 C.2.1 dX2_mixInto_39 (by decide) (fun c3 => ?_) (fun c3 => ?_)
  · have h := h.1 c3
    refine lv_iinc (v := (v5 + 1)) (lv' := [(5, .int (v5 + 1)), (0, .ref (gad g b0)), (3, .long v3), (6, .int v6), (7, .int v7)]) C.1 C.2.1 dX2_mixInto_64 hl (k := 2) rfl rfl (by decide) rfl (fun ls hl => ?_)
    refine lv_goto (tgt := 5) C.1 C.2.1 dX2_mixInto_67 (by decide) ?_
    exact hK5 v3 (v5 + 1) u _ _ _ h hW (lv_sub hl [1, 2, 0] rfl)
  · have h := h.2 c3
    refine lv_ldc2 (v := 31) C.1 C.2.1 C.2.2.2.1 (C.2.2.2.2.1 _ qk_X2_64) dX2_mixInto_42 ?_
    refine lv_lload_n C.1 C.2.1 dX2_mixInto_45 rfl (lv_at hl 1 rfl) ?_
    refine lv_lmul C.1 C.2.1 dX2_mixInto_46 ?_
    refine lv_aload_n C.1 C.2.1 dX2_mixInto_47 rfl (lv_at hl 0 rfl) ?_
    refine lv_iload C.1 C.2.1 dX2_mixInto_48 (lv_at hl 2 rfl) ?_
    refine lv_iload C.1 C.2.1 dX2_mixInto_50 (lv_at hl 4 rfl) ?_
    refine x_Vi (rest := [.long (31 * v3)]) C hW (c_X2_get l g hb0 h) km_X2_get (oShf hb0) rfl qm_X2_61 ⟨rfl, rfl⟩ (by decide) rfl hl.1 rfl (Nat.le_of_ble_eq_true rfl) ⟨Nat.zero_le _, Nat.zero_le _⟩ dX2_mixInto_52 (fun r4 u4 H locs h hW => ?_)
    refine lv_i2l (v := r4.toInt64) C.1 C.2.1 dX2_mixInto_55 rfl ?_
    refine lv_ladd C.1 C.2.1 dX2_mixInto_56 ?_
    refine lv_lstore_n (lv' := [(3, .long ((31 * v3) + r4.toInt64)), (0, .ref (gad g b0)), (5, .int v5), (6, .int v6), (7, .int v7)]) C.1 C.2.1 dX2_mixInto_57 rfl hl (by decide) rfl (fun ls hl => ?_)
    refine lv_iinc (v := (v7 + 1)) (lv' := [(7, .int (v7 + 1)), (3, .long ((31 * v3) + r4.toInt64)), (0, .ref (gad g b0)), (5, .int v5), (6, .int v6)]) C.1 C.2.1 dX2_mixInto_58 hl (k := 4) rfl rfl (by decide) rfl (fun ls hl => ?_)
    refine lv_goto (tgt := 35) C.1 C.2.1 dX2_mixInto_61 (by decide) ?_
    exact hK35 ((31 * v3) + r4.toInt64) v5 v6 (v7 + 1) u4 _ _ _ h hW (lv_sub hl [2, 1, 3, 4, 0] rfl)
theorem k_X2_mixInto_L35 {p : Program} {l : Launch} {e : Env} {s : State} {m : MethodId} {args : Array Value} {below : List Frame} {meth : Method} {c : Code} {g : GG} {A : Nat → Prop} {b0 : Nat} {p1 : Int64} (hb0 : isShf b0) {Q : Int64 → St → Prop} (C : MC p s m args meth c cX2_mixInto 8 RX2 (some .long) g A) {K5 : Int64 → Int32 → St → Prop} (hK5 : ∀ (v3 : Int64) (v5 : Int32) (u : St) (H : Heap) (locs : List Loc) (ls : Array Slot), K5 v3 v5 u → WD g A s u H locs → lv_has ls 8 [(0, .ref (gad g b0)), (3, .long v3), (5, .int v5)] → W p l e rm_X2_mixInto s m args below meth c H locs 0 0 (MQ below (va_Ql Q (WQ g) A) args s 0 0 A) (F0 m 5 ls [])) : ∀ (n : Nat), ∀ (v3 : Int64) (v5 : Int32) (v6 : Int32) (v7 : Int32) (u : St) (H : Heap) (locs : List Loc) (ls : Array Slot), wp_X2_mixInto_L35 b0 p1 Q K5 n v3 v5 v6 v7 u → WD g A s u H locs → lv_has ls 8 [(0, .ref (gad g b0)), (3, .long v3), (5, .int v5), (6, .int v6), (7, .int v7)] → W p l e rm_X2_mixInto s m args below meth c H locs 0 0 (MQ below (va_Ql Q (WQ g) A) args s 0 0 A) (F0 m 35 ls []) := by
  intro n
  induction n with
  | zero => intro v3 v5 v6 v7 u H locs ls h; exact False.elim h
  | succ n ih => exact k_X2_mixInto_B35 (b0 := b0) (p1 := p1) hb0 C hK5 ih
set_option maxRecDepth 100000 in
theorem k_X2_mixInto_B5 {p : Program} {l : Launch} {e : Env} {s : State} {m : MethodId} {args : Array Value} {below : List Frame} {meth : Method} {c : Code} {g : GG} {A : Nat → Prop} {b0 : Nat} {p1 : Int64} (hb0 : isShf b0) {Q : Int64 → St → Prop} (C : MC p s m args meth c cX2_mixInto 8 RX2 (some .long) g A) {K5 : Int64 → Int32 → St → Prop} (hK5 : ∀ (v3 : Int64) (v5 : Int32) (u : St) (H : Heap) (locs : List Loc) (ls : Array Slot), K5 v3 v5 u → WD g A s u H locs → lv_has ls 8 [(0, .ref (gad g b0)), (3, .long v3), (5, .int v5)] → W p l e rm_X2_mixInto s m args below meth c H locs 0 0 (MQ below (va_Ql Q (WQ g) A) args s 0 0 A) (F0 m 5 ls [])) : ∀ (v3 : Int64) (v5 : Int32) (u : St) (H : Heap) (locs : List Loc) (ls : Array Slot), wp_X2_mixInto_B5 b0 p1 Q K5 v3 v5 u → WD g A s u H locs → lv_has ls 8 [(0, .ref (gad g b0)), (3, .long v3), (5, .int v5)] → W p l e rm_X2_mixInto s m args below meth c H locs 0 0 (MQ below (va_Ql Q (WQ g) A) args s 0 0 A) (F0 m 5 ls []) := by
  intro v3 v5 u H locs ls h hW hl
  refine lv_iload C.1 C.2.1 dX2_mixInto_5 (lv_at hl 2 rfl) ?_
  refine lv_aload_n C.1 C.2.1 dX2_mixInto_7 rfl (lv_at hl 0 rfl) ?_
  refine fg_X2_15 C hW hb0 dX2_mixInto_8 ?_
  refine lv_icmp_ge (tgt := 70) C.1 C.2.1 dX2_mixInto_11 (by decide) (fun c1 => ?_) (fun c1 => ?_)
  · have h := h.1 c1
    refine lv_lload_n C.1 C.2.1 dX2_mixInto_70 rfl (lv_at hl 1 rfl) ?_
    exact x_lret C hW h dX2_mixInto_71
  · have h := h.2 c1
    refine lv_aload_n C.1 C.2.1 dX2_mixInto_14 rfl (lv_at hl 0 rfl) ?_
    refine lv_iload C.1 C.2.1 dX2_mixInto_15 (lv_at hl 2 rfl) ?_
    refine x_Vi (rest := []) C hW (c_X2_size l g hb0 h) km_X2_size (oShf hb0) rfl qm_X2_35 ⟨rfl, rfl⟩ (by decide) rfl hl.1 rfl (Nat.le_of_ble_eq_true rfl) ⟨Nat.zero_le _, Nat.zero_le _⟩ dX2_mixInto_17 (fun r2 u2 H locs h hW => ?_)
    refine lv_istore (lv' := [(6, .int r2), (0, .ref (gad g b0)), (3, .long v3), (5, .int v5)]) C.1 C.2.1 dX2_mixInto_20 hl (by decide) rfl (fun ls hl => ?_)
    refine lv_ldc2 (v := 31) C.1 C.2.1 C.2.2.2.1 (C.2.2.2.2.1 _ qk_X2_64) dX2_mixInto_22 ?_
    refine lv_lload_n C.1 C.2.1 dX2_mixInto_25 rfl (lv_at hl 2 rfl) ?_
    refine lv_lmul C.1 C.2.1 dX2_mixInto_26 ?_
    refine lv_iload C.1 C.2.1 dX2_mixInto_27 (lv_at hl 0 rfl) ?_
    refine lv_i2l (v := r2.toInt64) C.1 C.2.1 dX2_mixInto_29 rfl ?_
    refine lv_ladd C.1 C.2.1 dX2_mixInto_30 ?_
    refine lv_lstore_n (lv' := [(3, .long ((31 * v3) + r2.toInt64)), (6, .int r2), (0, .ref (gad g b0)), (5, .int v5)]) C.1 C.2.1 dX2_mixInto_31 rfl hl (by decide) rfl (fun ls hl => ?_)
    refine lv_iconst (v := 0) C.1 C.2.1 dX2_mixInto_32 (by decide) ?_
    refine lv_istore (lv' := [(7, .int 0), (3, .long ((31 * v3) + r2.toInt64)), (6, .int r2), (0, .ref (gad g b0)), (5, .int v5)]) C.1 C.2.1 dX2_mixInto_33 hl (by decide) rfl (fun ls hl => ?_)
    obtain ⟨n, h⟩ := h
    exact k_X2_mixInto_L35 hb0 C hK5 n ((31 * v3) + r2.toInt64) v5 r2 0 u2 _ _ _ h hW (lv_sub hl [3, 1, 4, 2, 0] rfl)
theorem k_X2_mixInto_L5 {p : Program} {l : Launch} {e : Env} {s : State} {m : MethodId} {args : Array Value} {below : List Frame} {meth : Method} {c : Code} {g : GG} {A : Nat → Prop} {b0 : Nat} {p1 : Int64} (hb0 : isShf b0) {Q : Int64 → St → Prop} (C : MC p s m args meth c cX2_mixInto 8 RX2 (some .long) g A) : ∀ (n : Nat), ∀ (v3 : Int64) (v5 : Int32) (u : St) (H : Heap) (locs : List Loc) (ls : Array Slot), wp_X2_mixInto_L5 b0 p1 Q n v3 v5 u → WD g A s u H locs → lv_has ls 8 [(0, .ref (gad g b0)), (3, .long v3), (5, .int v5)] → W p l e rm_X2_mixInto s m args below meth c H locs 0 0 (MQ below (va_Ql Q (WQ g) A) args s 0 0 A) (F0 m 5 ls []) := by
  intro n
  induction n with
  | zero => intro v3 v5 u H locs ls h; exact False.elim h
  | succ n ih => exact k_X2_mixInto_B5 (b0 := b0) (p1 := p1) hb0 C ih
set_option maxRecDepth 100000 in
theorem c_X2_mixInto (l : Launch) (g : GG) {b0 : Nat} {p1 : Int64} (hb0 : isShf b0) {u : St} {Q : Int64 → St → Prop} (h : wp_X2_mixInto b0 p1 u Q) : CL l yX2_mixInto cX2_mixInto 8 (some .long) rm_X2_mixInto g [.ref (gad g b0), .long p1] u Q := by
  refine ent (own := RX2) (Qc := va_Ql Q (WQ g)) (by decide) rfl (Nat.le_of_ble_eq_true rfl) ?_
  intro p e s m below meth c A ls C hl hW
  have hl : lv_has ls 8 [(0, .ref (gad g b0)), (1, .long p1)] := hl
  unfold wp_X2_mixInto at h
  refine lv_lload_n C.1 C.2.1 dX2_mixInto_0 rfl (lv_at hl 1 rfl) ?_
  refine lv_lstore_n (lv' := [(3, .long p1), (0, .ref (gad g b0)), (1, .long p1)]) C.1 C.2.1 dX2_mixInto_1 rfl hl (by decide) rfl (fun ls hl => ?_)
  refine lv_iconst (v := 0) C.1 C.2.1 dX2_mixInto_2 (by decide) ?_
  refine lv_istore (lv' := [(5, .int 0), (3, .long p1), (0, .ref (gad g b0)), (1, .long p1)]) C.1 C.2.1 dX2_mixInto_3 hl (by decide) rfl (fun ls hl => ?_)
  obtain ⟨n, h⟩ := h
  exact k_X2_mixInto_L5 hb0 C n p1 0 u _ _ _ h hW (lv_sub hl [2, 1, 0] rfl)
set_option maxRecDepth 100000 in
theorem c_X2_reaches (l : Launch) (g : GG) {b0 : Nat} {p1 : Int32} {p2 : Int32} {p3 : Int32} (hb0 : isShf b0) {u : St} {Q : Int32 → St → Prop} (h : wp_X2_reaches b0 p1 p2 p3 u Q) : CI l yX2_reaches cX2_reaches 4 (some .boolean) rm_X2_reaches g [.ref (gad g b0), .int p1, .int p2, .int p3] u Q := by
  refine ent (own := RX2) (Qc := va_Qi Q (WQ g)) (by decide) rfl (Nat.le_of_ble_eq_true rfl) ?_
  intro p e s m below meth c A ls C hl hW
  have hl : lv_has ls 4 [(0, .ref (gad g b0)), (1, .int p1), (2, .int p2), (3, .int p3)] := hl
  unfold wp_X2_reaches at h
  refine lv_iload_n C.1 C.2.1 dX2_reaches_0 rfl (lv_at hl 2 rfl) ?_
  refine lv_if_lt (tgt := 23) C.1 C.2.1 dX2_reaches_1 (by decide) (fun c1 => ?_) (fun c1 => ?_)
  · have h := h.1 c1
    refine lv_iconst (v := 0) C.1 C.2.1 dX2_reaches_23 (by decide) ?_
    exact x_zret C hW rfl h dX2_reaches_24
  · have h := h.2 c1
    refine lv_iload_n C.1 C.2.1 dX2_reaches_4 rfl (lv_at hl 3 rfl) ?_
    refine lv_if_lt (tgt := 23) C.1 C.2.1 dX2_reaches_5 (by decide) (fun c2 => ?_) (fun c2 => ?_)
    · have h := h.1 c2
      refine lv_iconst (v := 0) C.1 C.2.1 dX2_reaches_23 (by decide) ?_
      exact x_zret C hW rfl h dX2_reaches_24
    · have h := h.2 c2
      refine lv_iload_n C.1 C.2.1 dX2_reaches_8 rfl (lv_at hl 3 rfl) ?_
      refine lv_aload_n C.1 C.2.1 dX2_reaches_9 rfl (lv_at hl 0 rfl) ?_
      refine lv_iload_n C.1 C.2.1 dX2_reaches_10 rfl (lv_at hl 1 rfl) ?_
      refine x_Vi (rest := [.int p3]) C hW (c_X2_size l g hb0 h) km_X2_size (oShf hb0) rfl qm_X2_35 ⟨rfl, rfl⟩ (by decide) rfl hl.1 rfl (Nat.le_of_ble_eq_true rfl) ⟨Nat.zero_le _, Nat.zero_le _⟩ dX2_reaches_11 (fun r3 u3 H locs h hW => ?_)
      refine lv_iload_n C.1 C.2.1 dX2_reaches_14 rfl (lv_at hl 2 rfl) ?_
      refine lv_isub C.1 C.2.1 dX2_reaches_15 ?_
      refine lv_icmp_gt (tgt := 23) C.1 C.2.1 dX2_reaches_16 (by decide) (fun c4 => ?_) (fun c4 => ?_)
      · have h := h.1 c4
        refine lv_iconst (v := 0) C.1 C.2.1 dX2_reaches_23 (by decide) ?_
        exact x_zret C hW rfl h dX2_reaches_24
      · have h := h.2 c4
        refine lv_iconst (v := 1) C.1 C.2.1 dX2_reaches_19 (by decide) ?_
        refine lv_goto (tgt := 24) C.1 C.2.1 dX2_reaches_20 (by decide) ?_
        exact x_zret C hW rfl h dX2_reaches_24
set_option maxRecDepth 100000 in
theorem c_X2_move (l : Launch) (g : GG) {b0 : Nat} {p1 : Int32} {p2 : Int32} {p3 : Int32} {p4 : Int32} {p5 : Int32} (hb0 : isShf b0) {u : St} {Q : St → Prop} (h : wp_X2_move b0 p1 p2 p3 p4 p5 u Q) : CV l yX2_move cX2_move 6 none rm_X2_move g [.ref (gad g b0), .int p1, .int p2, .int p3, .int p4, .int p5] u Q := by
  refine ent (own := RX2) (Qc := va_Qv Q (WQ g)) (by decide) rfl (Nat.le_of_ble_eq_true rfl) ?_
  intro p e s m below meth c A ls C hl hW
  have hl : lv_has ls 6 [(0, .ref (gad g b0)), (1, .int p1), (2, .int p2), (3, .int p3), (4, .int p4), (5, .int p5)] := hl
  unfold wp_X2_move at h
  refine lv_aload_n C.1 C.2.1 dX2_move_0 rfl (lv_at hl 0 rfl) ?_
  refine lv_iload_n C.1 C.2.1 dX2_move_1 rfl (lv_at hl 1 rfl) ?_
  refine lv_iload_n C.1 C.2.1 dX2_move_2 rfl (lv_at hl 2 rfl) ?_
  refine lv_iload C.1 C.2.1 dX2_move_3 (lv_at hl 5 rfl) ?_
  refine x_Vi (rest := []) C hW (c_X2_reaches l g hb0 h) km_X2_reaches (oShf hb0) rfl qm_X2_43 ⟨rfl, rfl⟩ (by decide) rfl hl.1 rfl (Nat.le_of_ble_eq_true rfl) ⟨Nat.zero_le _, Nat.zero_le _⟩ dX2_move_5 (fun r1 u1 H locs h hW => ?_)
  refine lv_if_eq (tgt := 53) C.1 C.2.1 dX2_move_8 (by decide) (fun c2 => ?_) (fun c2 => ?_)
  · have h := h.1 c2
    exact x_vret C hW h dX2_move_53
  · have h := h.2 c2
    refine lv_aload_n C.1 C.2.1 dX2_move_11 rfl (lv_at hl 0 rfl) ?_
    refine lv_iload_n C.1 C.2.1 dX2_move_12 rfl (lv_at hl 3 rfl) ?_
    refine lv_iload C.1 C.2.1 dX2_move_13 (lv_at hl 4 rfl) ?_
    refine lv_iload C.1 C.2.1 dX2_move_15 (lv_at hl 5 rfl) ?_
    refine x_Vi (rest := []) C hW (c_X2_reaches l g hb0 h) km_X2_reaches (oShf hb0) rfl qm_X2_43 ⟨rfl, rfl⟩ (by decide) rfl hl.1 rfl (Nat.le_of_ble_eq_true rfl) ⟨Nat.zero_le _, Nat.zero_le _⟩ dX2_move_17 (fun r3 u3 H locs h hW => ?_)
    refine lv_if_eq (tgt := 53) C.1 C.2.1 dX2_move_20 (by decide) (fun c4 => ?_) (fun c4 => ?_)
    · have h := h.1 c4
      exact x_vret C hW h dX2_move_53
    · have h := h.2 c4
      refine lv_aload_n C.1 C.2.1 dX2_move_23 rfl (lv_at hl 0 rfl) ?_
      refine fg_X2_28 C hW hb0 dX2_move_24 ?_
      refine lv_iload_n C.1 C.2.1 dX2_move_27 rfl (lv_at hl 1 rfl) ?_
      refine lv_aload_n C.1 C.2.1 dX2_move_28 rfl (lv_at hl 0 rfl) ?_
      refine fg_X2_21 C hW hb0 dX2_move_29 ?_
      refine lv_imul C.1 C.2.1 dX2_move_32 ?_
      refine lv_iload_n C.1 C.2.1 dX2_move_33 rfl (lv_at hl 2 rfl) ?_
      refine lv_iadd C.1 C.2.1 dX2_move_34 ?_
      refine lv_aload_n C.1 C.2.1 dX2_move_35 rfl (lv_at hl 0 rfl) ?_
      refine fg_X2_28 C hW hb0 dX2_move_36 ?_
      refine lv_iload_n C.1 C.2.1 dX2_move_39 rfl (lv_at hl 3 rfl) ?_
      refine lv_aload_n C.1 C.2.1 dX2_move_40 rfl (lv_at hl 0 rfl) ?_
      refine fg_X2_21 C hW hb0 dX2_move_41 ?_
      refine lv_imul C.1 C.2.1 dX2_move_44 ?_
      refine lv_iload C.1 C.2.1 dX2_move_45 (lv_at hl 4 rfl) ?_
      refine lv_iadd C.1 C.2.1 dX2_move_47 ?_
      refine lv_iload C.1 C.2.1 dX2_move_48 (lv_at hl 5 rfl) ?_
      obtain ⟨h6, h7, h8, h9, h10, h⟩ := h
      refine x_copy C hW hl.1 (gShf2 hb0) qm_X2_47 h6 h7 h8 h9 h10 (by decide) (Nat.le_of_ble_eq_true rfl) dX2_move_50 (fun u5 H locs e5 hW => ?_)
      have h := nxt_get h e5
      exact x_vret C hW h dX2_move_53
set_option maxRecDepth 100000 in
theorem c_X2_moveAll (l : Launch) (g : GG) {b0 : Nat} {p1 : Int32} {p2 : Int32} (hb0 : isShf b0) {u : St} {Q : St → Prop} (h : wp_X2_moveAll b0 p1 p2 u Q) : CV l yX2_moveAll cX2_moveAll 3 none rm_X2_moveAll g [.ref (gad g b0), .int p1, .int p2] u Q := by
  refine ent (own := RX2) (Qc := va_Qv Q (WQ g)) (by decide) rfl (Nat.le_of_ble_eq_true rfl) ?_
  intro p e s m below meth c A ls C hl hW
  have hl : lv_has ls 3 [(0, .ref (gad g b0)), (1, .int p1), (2, .int p2)] := hl
  unfold wp_X2_moveAll at h
  refine lv_aload_n C.1 C.2.1 dX2_moveAll_0 rfl (lv_at hl 0 rfl) ?_
  refine lv_iload_n C.1 C.2.1 dX2_moveAll_1 rfl (lv_at hl 2 rfl) ?_
  refine lv_aload_n C.1 C.2.1 dX2_moveAll_2 rfl (lv_at hl 0 rfl) ?_
  refine lv_iload_n C.1 C.2.1 dX2_moveAll_3 rfl (lv_at hl 1 rfl) ?_
  refine x_Vi (rest := [.int p2, .ref (gad g b0)]) C hW (c_X2_size l g hb0 h) km_X2_size (oShf hb0) rfl qm_X2_35 ⟨rfl, rfl⟩ (by decide) rfl hl.1 rfl (Nat.le_of_ble_eq_true rfl) ⟨Nat.zero_le _, Nat.zero_le _⟩ dX2_moveAll_4 (fun r1 u1 H locs h hW => ?_)
  refine lv_iconst (v := 0) C.1 C.2.1 dX2_moveAll_7 (by decide) ?_
  refine x_Vv (rest := []) C hW (c_X2_make l g hb0 h) km_X2_make (oShf hb0) rfl qm_X2_53 ⟨rfl, rfl⟩ (by decide) rfl hl.1 rfl (Nat.le_of_ble_eq_true rfl) ⟨Nat.zero_le _, Nat.zero_le _⟩ dX2_moveAll_8 (fun u2 H locs h hW => ?_)
  refine lv_aload_n C.1 C.2.1 dX2_moveAll_11 rfl (lv_at hl 0 rfl) ?_
  refine lv_iload_n C.1 C.2.1 dX2_moveAll_12 rfl (lv_at hl 1 rfl) ?_
  refine lv_iconst (v := 0) C.1 C.2.1 dX2_moveAll_13 (by decide) ?_
  refine lv_iload_n C.1 C.2.1 dX2_moveAll_14 rfl (lv_at hl 2 rfl) ?_
  refine lv_iconst (v := 0) C.1 C.2.1 dX2_moveAll_15 (by decide) ?_
  refine lv_aload_n C.1 C.2.1 dX2_moveAll_16 rfl (lv_at hl 0 rfl) ?_
  refine lv_iload_n C.1 C.2.1 dX2_moveAll_17 rfl (lv_at hl 1 rfl) ?_
  refine x_Vi (rest := [.int 0, .int p2, .int 0, .int p1, .ref (gad g b0)]) C hW (c_X2_size l g hb0 h) km_X2_size (oShf hb0) rfl qm_X2_35 ⟨rfl, rfl⟩ (by decide) rfl hl.1 rfl (Nat.le_of_ble_eq_true rfl) ⟨Nat.zero_le _, Nat.zero_le _⟩ dX2_moveAll_18 (fun r3 u3 H locs h hW => ?_)
  refine x_Vv (rest := []) C hW (c_X2_move l g hb0 h) km_X2_move (oShf hb0) rfl qm_X2_57 ⟨rfl, rfl⟩ (by decide) rfl hl.1 rfl (Nat.le_of_ble_eq_true rfl) ⟨Nat.zero_le _, Nat.zero_le _⟩ dX2_moveAll_21 (fun u4 H locs h hW => ?_)
  exact x_vret C hW h dX2_moveAll_24
set_option maxRecDepth 100000 in
theorem c_X2_remove (l : Launch) (g : GG) {b0 : Nat} {p1 : Int32} (hb0 : isShf b0) {u : St} {Q : St → Prop} (h : wp_X2_remove b0 p1 u Q) : CV l yX2_remove cX2_remove 2 none rm_X2_remove g [.ref (gad g b0), .int p1] u Q := by
  refine ent (own := RX2) (Qc := va_Qv Q (WQ g)) (by decide) rfl (Nat.le_of_ble_eq_true rfl) ?_
  intro p e s m below meth c A ls C hl hW
  have hl : lv_has ls 2 [(0, .ref (gad g b0)), (1, .int p1)] := hl
  unfold wp_X2_remove at h
  refine lv_iload_n C.1 C.2.1 dX2_remove_0 rfl (lv_at hl 1 rfl) ?_
  refine lv_aload_n C.1 C.2.1 dX2_remove_1 rfl (lv_at hl 0 rfl) ?_
  refine fg_X2_15 C hW hb0 dX2_remove_2 ?_
  refine x_SNi (rest := []) C hW (c_X4_within l g h) km_X4_within qmn_X2_31 ⟨rfl, rfl⟩ (by decide) rfl hl.1 rfl (Nat.le_of_ble_eq_true rfl) ⟨Nat.zero_le _, Nat.zero_le _⟩ dX2_remove_5 (fun r1 u1 H locs h hW => ?_)
  refine lv_if_eq (tgt := 18) C.1 C.2.1 dX2_remove_8 (by decide) (fun c2 => ?_) (fun c2 => ?_)
  · have h := h.1 c2
    exact x_vret C hW h dX2_remove_18
  · have h := h.2 c2
    refine lv_aload_n C.1 C.2.1 dX2_remove_11 rfl (lv_at hl 0 rfl) ?_
    refine fg_X2_24 C hW hb0 dX2_remove_12 ?_
    refine lv_iload_n C.1 C.2.1 dX2_remove_15 rfl (lv_at hl 1 rfl) ?_
    refine lv_iconst (v := (-1)) C.1 C.2.1 dX2_remove_16 (by decide) ?_
    obtain ⟨h3, h⟩ := h
    refine x_iast C hW (gShf1 hb0) h3 dX2_remove_17 (fun u4 H locs e4 hW => ?_)
    have h := nxt_get h e4
    exact x_vret C hW h dX2_remove_18
set_option maxRecDepth 100000 in
theorem c_X2_set (l : Launch) (g : GG) {b0 : Nat} {p1 : Int32} {p2 : Int32} {p3 : Int32} (hb0 : isShf b0) {u : St} {Q : St → Prop} (h : wp_X2_set b0 p1 p2 p3 u Q) : CV l yX2_set cX2_set 4 none rm_X2_set g [.ref (gad g b0), .int p1, .int p2, .int p3] u Q := by
  refine ent (own := RX2) (Qc := va_Qv Q (WQ g)) (by decide) rfl (Nat.le_of_ble_eq_true rfl) ?_
  intro p e s m below meth c A ls C hl hW
  have hl : lv_has ls 4 [(0, .ref (gad g b0)), (1, .int p1), (2, .int p2), (3, .int p3)] := hl
  unfold wp_X2_set at h
  refine lv_iload_n C.1 C.2.1 dX2_set_0 rfl (lv_at hl 2 rfl) ?_
  refine lv_aload_n C.1 C.2.1 dX2_set_1 rfl (lv_at hl 0 rfl) ?_
  refine lv_iload_n C.1 C.2.1 dX2_set_2 rfl (lv_at hl 1 rfl) ?_
  refine x_Vi (rest := [.int p2]) C hW (c_X2_size l g hb0 h) km_X2_size (oShf hb0) rfl qm_X2_35 ⟨rfl, rfl⟩ (by decide) rfl hl.1 rfl (Nat.le_of_ble_eq_true rfl) ⟨Nat.zero_le _, Nat.zero_le _⟩ dX2_set_3 (fun r1 u1 H locs h hW => ?_)
  refine x_SNi (rest := []) C hW (c_X4_within l g h) km_X4_within qmn_X2_31 ⟨rfl, rfl⟩ (by decide) rfl hl.1 rfl (Nat.le_of_ble_eq_true rfl) ⟨Nat.zero_le _, Nat.zero_le _⟩ dX2_set_6 (fun r2 u2 H locs h hW => ?_)
  refine lv_if_eq (tgt := 26) C.1 C.2.1 dX2_set_9 (by decide) (fun c3 => ?_) (fun c3 => ?_)
  · have h := h.1 c3
    exact x_vret C hW h dX2_set_26
  · have h := h.2 c3
    refine lv_aload_n C.1 C.2.1 dX2_set_12 rfl (lv_at hl 0 rfl) ?_
    refine fg_X2_28 C hW hb0 dX2_set_13 ?_
    refine lv_iload_n C.1 C.2.1 dX2_set_16 rfl (lv_at hl 1 rfl) ?_
    refine lv_aload_n C.1 C.2.1 dX2_set_17 rfl (lv_at hl 0 rfl) ?_
    refine fg_X2_21 C hW hb0 dX2_set_18 ?_
    refine lv_imul C.1 C.2.1 dX2_set_21 ?_
    refine lv_iload_n C.1 C.2.1 dX2_set_22 rfl (lv_at hl 2 rfl) ?_
    refine lv_iadd C.1 C.2.1 dX2_set_23 ?_
    refine lv_iload_n C.1 C.2.1 dX2_set_24 rfl (lv_at hl 3 rfl) ?_
    obtain ⟨h4, h⟩ := h
    refine x_iast C hW (gShf2 hb0) h4 dX2_set_25 (fun u5 H locs e5 hW => ?_)
    have h := nxt_get h e5
    exact x_vret C hW h dX2_set_26
set_option maxRecDepth 100000 in
theorem c_X2_shorten (l : Launch) (g : GG) {b0 : Nat} {p1 : Int32} {p2 : Int32} (hb0 : isShf b0) {u : St} {Q : St → Prop} (h : wp_X2_shorten b0 p1 p2 u Q) : CV l yX2_shorten cX2_shorten 3 none rm_X2_shorten g [.ref (gad g b0), .int p1, .int p2] u Q := by
  refine ent (own := RX2) (Qc := va_Qv Q (WQ g)) (by decide) rfl (Nat.le_of_ble_eq_true rfl) ?_
  intro p e s m below meth c A ls C hl hW
  have hl : lv_has ls 3 [(0, .ref (gad g b0)), (1, .int p1), (2, .int p2)] := hl
  unfold wp_X2_shorten at h
  refine lv_iload_n C.1 C.2.1 dX2_shorten_0 rfl (lv_at hl 2 rfl) ?_
  refine lv_if_lt (tgt := 20) C.1 C.2.1 dX2_shorten_1 (by decide) (fun c1 => ?_) (fun c1 => ?_)
  · have h := h.1 c1
    exact x_vret C hW h dX2_shorten_20
  · have h := h.2 c1
    refine lv_iload_n C.1 C.2.1 dX2_shorten_4 rfl (lv_at hl 2 rfl) ?_
    refine lv_aload_n C.1 C.2.1 dX2_shorten_5 rfl (lv_at hl 0 rfl) ?_
    refine lv_iload_n C.1 C.2.1 dX2_shorten_6 rfl (lv_at hl 1 rfl) ?_
    refine x_Vi (rest := [.int p2]) C hW (c_X2_size l g hb0 h) km_X2_size (oShf hb0) rfl qm_X2_35 ⟨rfl, rfl⟩ (by decide) rfl hl.1 rfl (Nat.le_of_ble_eq_true rfl) ⟨Nat.zero_le _, Nat.zero_le _⟩ dX2_shorten_7 (fun r2 u2 H locs h hW => ?_)
    refine lv_icmp_gt (tgt := 20) C.1 C.2.1 dX2_shorten_10 (by decide) (fun c3 => ?_) (fun c3 => ?_)
    · have h := h.1 c3
      exact x_vret C hW h dX2_shorten_20
    · have h := h.2 c3
      refine lv_aload_n C.1 C.2.1 dX2_shorten_13 rfl (lv_at hl 0 rfl) ?_
      refine fg_X2_24 C hW hb0 dX2_shorten_14 ?_
      refine lv_iload_n C.1 C.2.1 dX2_shorten_17 rfl (lv_at hl 1 rfl) ?_
      refine lv_iload_n C.1 C.2.1 dX2_shorten_18 rfl (lv_at hl 2 rfl) ?_
      obtain ⟨h4, h⟩ := h
      refine x_iast C hW (gShf1 hb0) h4 dX2_shorten_19 (fun u5 H locs e5 hW => ?_)
      have h := nxt_get h e5
      exact x_vret C hW h dX2_shorten_20
set_option maxRecDepth 100000 in
theorem k_X2_sum_B12 {p : Program} {l : Launch} {e : Env} {s : State} {m : MethodId} {args : Array Value} {below : List Frame} {meth : Method} {c : Code} {g : GG} {A : Nat → Prop} {b0 : Nat} {p1 : Int32} (hb0 : isShf b0) {Q : Int64 → St → Prop} (C : MC p s m args meth c cX2_sum 6 RX2 (some .long) g A) {K12 : Int64 → Int32 → Int32 → St → Prop} (hK12 : ∀ (v2 : Int64) (v4 : Int32) (v5 : Int32) (u : St) (H : Heap) (locs : List Loc) (ls : Array Slot), K12 v2 v4 v5 u → WD g A s u H locs → lv_has ls 6 [(0, .ref (gad g b0)), (1, .int p1), (2, .long v2), (4, .int v4), (5, .int v5)] → W p l e rm_X2_sum s m args below meth c H locs 0 0 (MQ below (va_Ql Q (WQ g) A) args s 0 0 A) (F0 m 12 ls [])) : ∀ (v2 : Int64) (v4 : Int32) (v5 : Int32) (u : St) (H : Heap) (locs : List Loc) (ls : Array Slot), wp_X2_sum_B12 b0 p1 Q K12 v2 v4 v5 u → WD g A s u H locs → lv_has ls 6 [(0, .ref (gad g b0)), (1, .int p1), (2, .long v2), (4, .int v4), (5, .int v5)] → W p l e rm_X2_sum s m args below meth c H locs 0 0 (MQ below (va_Ql Q (WQ g) A) args s 0 0 A) (F0 m 12 ls []) := by
  intro v2 v4 v5 u H locs ls h hW hl
  refine lv_iload C.1 C.2.1 dX2_sum_12 (lv_at hl 4 rfl) ?_
  refine lv_iload C.1 C.2.1 dX2_sum_14 (lv_at hl 3 rfl) ?_
  refine lv_icmp_ge (tgt := 36) C.1 C.2.1 dX2_sum_16 (by decide) (fun c2 => ?_) (fun c2 => ?_)
  · have h := h.1 c2
    refine lv_lload_n C.1 C.2.1 dX2_sum_36 rfl (lv_at hl 2 rfl) ?_
    exact x_lret C hW h dX2_sum_37
  · have h := h.2 c2
    refine lv_lload_n C.1 C.2.1 dX2_sum_19 rfl (lv_at hl 2 rfl) ?_
    refine lv_aload_n C.1 C.2.1 dX2_sum_20 rfl (lv_at hl 0 rfl) ?_
    refine lv_iload_n C.1 C.2.1 dX2_sum_21 rfl (lv_at hl 1 rfl) ?_
    refine lv_iload C.1 C.2.1 dX2_sum_22 (lv_at hl 4 rfl) ?_
    refine x_Vi (rest := [.long v2]) C hW (c_X2_get l g hb0 h) km_X2_get (oShf hb0) rfl qm_X2_61 ⟨rfl, rfl⟩ (by decide) rfl hl.1 rfl (Nat.le_of_ble_eq_true rfl) ⟨Nat.zero_le _, Nat.zero_le _⟩ dX2_sum_24 (fun r3 u3 H locs h hW => ?_)
    refine lv_i2l (v := r3.toInt64) C.1 C.2.1 dX2_sum_27 rfl ?_
    refine lv_ladd C.1 C.2.1 dX2_sum_28 ?_
    refine lv_lstore_n (lv' := [(2, .long (v2 + r3.toInt64)), (0, .ref (gad g b0)), (1, .int p1), (4, .int v4), (5, .int v5)]) C.1 C.2.1 dX2_sum_29 rfl hl (by decide) rfl (fun ls hl => ?_)
    refine lv_iinc (v := (v5 + 1)) (lv' := [(5, .int (v5 + 1)), (2, .long (v2 + r3.toInt64)), (0, .ref (gad g b0)), (1, .int p1), (4, .int v4)]) C.1 C.2.1 dX2_sum_30 hl (k := 4) rfl rfl (by decide) rfl (fun ls hl => ?_)
    refine lv_goto (tgt := 12) C.1 C.2.1 dX2_sum_33 (by decide) ?_
    exact hK12 (v2 + r3.toInt64) v4 (v5 + 1) u3 _ _ _ h hW (lv_sub hl [2, 3, 1, 4, 0] rfl)
theorem k_X2_sum_L12 {p : Program} {l : Launch} {e : Env} {s : State} {m : MethodId} {args : Array Value} {below : List Frame} {meth : Method} {c : Code} {g : GG} {A : Nat → Prop} {b0 : Nat} {p1 : Int32} (hb0 : isShf b0) {Q : Int64 → St → Prop} (C : MC p s m args meth c cX2_sum 6 RX2 (some .long) g A) : ∀ (n : Nat), ∀ (v2 : Int64) (v4 : Int32) (v5 : Int32) (u : St) (H : Heap) (locs : List Loc) (ls : Array Slot), wp_X2_sum_L12 b0 p1 Q n v2 v4 v5 u → WD g A s u H locs → lv_has ls 6 [(0, .ref (gad g b0)), (1, .int p1), (2, .long v2), (4, .int v4), (5, .int v5)] → W p l e rm_X2_sum s m args below meth c H locs 0 0 (MQ below (va_Ql Q (WQ g) A) args s 0 0 A) (F0 m 12 ls []) := by
  intro n
  induction n with
  | zero => intro v2 v4 v5 u H locs ls h; exact False.elim h
  | succ n ih => exact k_X2_sum_B12 (b0 := b0) (p1 := p1) hb0 C ih
set_option maxRecDepth 100000 in
theorem c_X2_sum (l : Launch) (g : GG) {b0 : Nat} {p1 : Int32} (hb0 : isShf b0) {u : St} {Q : Int64 → St → Prop} (h : wp_X2_sum b0 p1 u Q) : CL l yX2_sum cX2_sum 6 (some .long) rm_X2_sum g [.ref (gad g b0), .int p1] u Q := by
  refine ent (own := RX2) (Qc := va_Ql Q (WQ g)) (by decide) rfl (Nat.le_of_ble_eq_true rfl) ?_
  intro p e s m below meth c A ls C hl hW
  have hl : lv_has ls 6 [(0, .ref (gad g b0)), (1, .int p1)] := hl
  unfold wp_X2_sum at h
  refine lv_lconst (v := 0) C.1 C.2.1 dX2_sum_0 (by decide) ?_
  refine lv_lstore_n (lv' := [(2, .long 0), (0, .ref (gad g b0)), (1, .int p1)]) C.1 C.2.1 dX2_sum_1 rfl hl (by decide) rfl (fun ls hl => ?_)
  refine lv_aload_n C.1 C.2.1 dX2_sum_2 rfl (lv_at hl 1 rfl) ?_
  refine lv_iload_n C.1 C.2.1 dX2_sum_3 rfl (lv_at hl 2 rfl) ?_
  refine x_Vi (rest := []) C hW (c_X2_size l g hb0 h) km_X2_size (oShf hb0) rfl qm_X2_35 ⟨rfl, rfl⟩ (by decide) rfl hl.1 rfl (Nat.le_of_ble_eq_true rfl) ⟨Nat.zero_le _, Nat.zero_le _⟩ dX2_sum_4 (fun r1 u1 H locs h hW => ?_)
  refine lv_istore (lv' := [(4, .int r1), (2, .long 0), (0, .ref (gad g b0)), (1, .int p1)]) C.1 C.2.1 dX2_sum_7 hl (by decide) rfl (fun ls hl => ?_)
  refine lv_iconst (v := 0) C.1 C.2.1 dX2_sum_9 (by decide) ?_
  refine lv_istore (lv' := [(5, .int 0), (4, .int r1), (2, .long 0), (0, .ref (gad g b0)), (1, .int p1)]) C.1 C.2.1 dX2_sum_10 hl (by decide) rfl (fun ls hl => ?_)
  obtain ⟨n, h⟩ := h
  exact k_X2_sum_L12 hb0 C n 0 r1 0 u1 _ _ _ h hW (lv_sub hl [3, 4, 2, 1, 0] rfl)
set_option maxRecDepth 100000 in
theorem k_X0_behindBlanks_B9 {p : Program} {l : Launch} {e : Env} {s : State} {m : MethodId} {args : Array Value} {below : List Frame} {meth : Method} {c : Code} {g : GG} {A : Nat → Prop} {b0 : Nat} {p1 : Int32} {p2 : Int32} (hb0 : isShf b0) {Q : Int32 → St → Prop} (C : MC p s m args meth c cX0_behindBlanks 5 RX0 (some .int) g A) {K9 : Int32 → Int32 → St → Prop} (hK9 : ∀ (v3 : Int32) (v4 : Int32) (u : St) (H : Heap) (locs : List Loc) (ls : Array Slot), K9 v3 v4 u → WD g A s u H locs → lv_has ls 5 [(0, .ref (gad g b0)), (1, .int p1), (3, .int v3), (4, .int v4)] → W p l e rm_X0_behindBlanks s m args below meth c H locs 0 0 (MQ below (va_Qi Q (WQ g) A) args s 0 0 A) (F0 m 9 ls [])) : ∀ (v3 : Int32) (v4 : Int32) (u : St) (H : Heap) (locs : List Loc) (ls : Array Slot), wp_X0_behindBlanks_B9 b0 p1 p2 Q K9 v3 v4 u → WD g A s u H locs → lv_has ls 5 [(0, .ref (gad g b0)), (1, .int p1), (3, .int v3), (4, .int v4)] → W p l e rm_X0_behindBlanks s m args below meth c H locs 0 0 (MQ below (va_Qi Q (WQ g) A) args s 0 0 A) (F0 m 9 ls []) := by
  intro v3 v4 u H locs ls h hW hl
  refine lv_iload C.1 C.2.1 dX0_behindBlanks_9 (lv_at hl 3 rfl) ?_
  refine lv_iload_n C.1 C.2.1 dX0_behindBlanks_11 rfl (lv_at hl 2 rfl) ?_
  refine lv_icmp_ge (tgt := 36) C.1 C.2.1 dX0_behindBlanks_12 (by decide) (fun c2 => ?_) (fun c2 => ?_)
  · have h := h.1 c2
    refine lv_iload_n C.1 C.2.1 dX0_behindBlanks_36 rfl (lv_at hl 2 rfl) ?_
    exact x_iret C hW h dX0_behindBlanks_37
  · have h := h.2 c2
    refine lv_aload_n C.1 C.2.1 dX0_behindBlanks_15 rfl (lv_at hl 0 rfl) ?_
    refine lv_iload_n C.1 C.2.1 dX0_behindBlanks_16 rfl (lv_at hl 1 rfl) ?_
    refine lv_iload C.1 C.2.1 dX0_behindBlanks_17 (lv_at hl 3 rfl) ?_
    refine x_Vi (rest := []) C hW (c_X2_get l g hb0 h) km_X2_get (oShf hb0) rfl qm_X0_65 ⟨rfl, rfl⟩ (by decide) rfl hl.1 rfl (Nat.le_of_ble_eq_true rfl) ⟨Nat.zero_le _, Nat.zero_le _⟩ dX0_behindBlanks_19 (fun r3 u3 H locs h hW => ?_)
    refine lv_bipush (v := 32) C.1 C.2.1 dX0_behindBlanks_22 (by decide) ?_
    refine lv_icmp_eq (tgt := 30) C.1 C.2.1 dX0_behindBlanks_24 (by decide) (fun c4 => ?_) (fun c4 => ?_)
    · have h := h.1 c4
      refine lv_iinc (v := (v4 + 1)) (lv' := [(4, .int (v4 + 1)), (0, .ref (gad g b0)), (1, .int p1), (3, .int v3)]) C.1 C.2.1 dX0_behindBlanks_30 hl (k := 3) rfl rfl (by decide) rfl (fun ls hl => ?_)
      refine lv_goto (tgt := 9) C.1 C.2.1 dX0_behindBlanks_33 (by decide) ?_
      exact hK9 v3 (v4 + 1) u3 _ _ _ h hW (lv_sub hl [1, 2, 3, 0] rfl)
    · have h := h.2 c4
      refine lv_iload C.1 C.2.1 dX0_behindBlanks_27 (lv_at hl 3 rfl) ?_
      exact x_iret C hW h dX0_behindBlanks_29
theorem k_X0_behindBlanks_L9 {p : Program} {l : Launch} {e : Env} {s : State} {m : MethodId} {args : Array Value} {below : List Frame} {meth : Method} {c : Code} {g : GG} {A : Nat → Prop} {b0 : Nat} {p1 : Int32} {p2 : Int32} (hb0 : isShf b0) {Q : Int32 → St → Prop} (C : MC p s m args meth c cX0_behindBlanks 5 RX0 (some .int) g A) : ∀ (n : Nat), ∀ (v3 : Int32) (v4 : Int32) (u : St) (H : Heap) (locs : List Loc) (ls : Array Slot), wp_X0_behindBlanks_L9 b0 p1 p2 Q n v3 v4 u → WD g A s u H locs → lv_has ls 5 [(0, .ref (gad g b0)), (1, .int p1), (3, .int v3), (4, .int v4)] → W p l e rm_X0_behindBlanks s m args below meth c H locs 0 0 (MQ below (va_Qi Q (WQ g) A) args s 0 0 A) (F0 m 9 ls []) := by
  intro n
  induction n with
  | zero => intro v3 v4 u H locs ls h; exact False.elim h
  | succ n ih => exact k_X0_behindBlanks_B9 (b0 := b0) (p1 := p1) (p2 := p2) hb0 C ih
set_option maxRecDepth 100000 in
theorem c_X0_behindBlanks (l : Launch) (g : GG) {b0 : Nat} {p1 : Int32} {p2 : Int32} (hb0 : isShf b0) {u : St} {Q : Int32 → St → Prop} (h : wp_X0_behindBlanks b0 p1 p2 u Q) : CI l yX0_behindBlanks cX0_behindBlanks 5 (some .int) rm_X0_behindBlanks g [.ref (gad g b0), .int p1, .int p2] u Q := by
  refine ent (own := RX0) (Qc := va_Qi Q (WQ g)) (by decide) rfl (Nat.le_of_ble_eq_true rfl) ?_
  intro p e s m below meth c A ls C hl hW
  have hl : lv_has ls 5 [(0, .ref (gad g b0)), (1, .int p1), (2, .int p2)] := hl
  unfold wp_X0_behindBlanks at h
  refine lv_aload_n C.1 C.2.1 dX0_behindBlanks_0 rfl (lv_at hl 0 rfl) ?_
  refine lv_iload_n C.1 C.2.1 dX0_behindBlanks_1 rfl (lv_at hl 1 rfl) ?_
  refine x_Vi (rest := []) C hW (c_X2_size l g hb0 h) km_X2_size (oShf hb0) rfl qm_X0_54 ⟨rfl, rfl⟩ (by decide) rfl hl.1 rfl (Nat.le_of_ble_eq_true rfl) ⟨Nat.zero_le _, Nat.zero_le _⟩ dX0_behindBlanks_2 (fun r1 u1 H locs h hW => ?_)
  refine lv_istore_n (lv' := [(3, .int r1), (0, .ref (gad g b0)), (1, .int p1), (2, .int p2)]) C.1 C.2.1 dX0_behindBlanks_5 rfl hl (by decide) rfl (fun ls hl => ?_)
  refine lv_iload_n C.1 C.2.1 dX0_behindBlanks_6 rfl (lv_at hl 3 rfl) ?_
  refine lv_istore (lv' := [(4, .int p2), (3, .int r1), (0, .ref (gad g b0)), (1, .int p1), (2, .int p2)]) C.1 C.2.1 dX0_behindBlanks_7 hl (by decide) rfl (fun ls hl => ?_)
  obtain ⟨n, h⟩ := h
  exact k_X0_behindBlanks_L9 hb0 C n r1 p2 u1 _ _ _ h hW (lv_sub hl [2, 3, 1, 0] rfl)
set_option maxRecDepth 100000 in
theorem c_X0_has (l : Launch) (g : GG) {b0 : Nat} {p1 : Int32} (hb0 : isLay b0) {u : St} {Q : Int32 → St → Prop} (h : wp_X0_has b0 p1 u Q) : CI l yX0_has cX0_has 2 (some .boolean) rm_X0_has g [.ref (gad g b0), .int p1] u Q := by
  refine ent (own := RX0) (Qc := va_Qi Q (WQ g)) (by decide) rfl (Nat.le_of_ble_eq_true rfl) ?_
  intro p e s m below meth c A ls C hl hW
  have hl : lv_has ls 2 [(0, .ref (gad g b0)), (1, .int p1)] := hl
  unfold wp_X0_has at h
  refine lv_iload_n C.1 C.2.1 dX0_has_0 rfl (lv_at hl 1 rfl) ?_
  refine lv_if_lt (tgt := 22) C.1 C.2.1 dX0_has_1 (by decide) (fun c1 => ?_) (fun c1 => ?_)
  · have h := h.1 c1
    refine lv_iconst (v := 0) C.1 C.2.1 dX0_has_22 (by decide) ?_
    exact x_zret C hW rfl h dX0_has_23
  · have h := h.2 c1
    refine lv_iload_n C.1 C.2.1 dX0_has_4 rfl (lv_at hl 1 rfl) ?_
    refine lv_aload_n C.1 C.2.1 dX0_has_5 rfl (lv_at hl 0 rfl) ?_
    refine fg_X0_24 C hW hb0 dX0_has_6 ?_
    refine lv_icmp_ge (tgt := 22) C.1 C.2.1 dX0_has_9 (by decide) (fun c2 => ?_) (fun c2 => ?_)
    · have h := h.1 c2
      refine lv_iconst (v := 0) C.1 C.2.1 dX0_has_22 (by decide) ?_
      exact x_zret C hW rfl h dX0_has_23
    · have h := h.2 c2
      refine lv_iload_n C.1 C.2.1 dX0_has_12 rfl (lv_at hl 1 rfl) ?_
      refine lv_bipush (v := 7) C.1 C.2.1 dX0_has_13 (by decide) ?_
      refine lv_icmp_ge (tgt := 22) C.1 C.2.1 dX0_has_15 (by decide) (fun c3 => ?_) (fun c3 => ?_)
      · have h := h.1 c3
        refine lv_iconst (v := 0) C.1 C.2.1 dX0_has_22 (by decide) ?_
        exact x_zret C hW rfl h dX0_has_23
      · have h := h.2 c3
        refine lv_iconst (v := 1) C.1 C.2.1 dX0_has_18 (by decide) ?_
        refine lv_goto (tgt := 23) C.1 C.2.1 dX0_has_19 (by decide) ?_
        exact x_zret C hW rfl h dX0_has_23
set_option maxRecDepth 100000 in
theorem c_X0_columnOf (l : Launch) (g : GG) {b0 : Nat} {p1 : Int32} (hb0 : isLay b0) {u : St} {Q : Int32 → St → Prop} (h : wp_X0_columnOf b0 p1 u Q) : CI l yX0_columnOf cX0_columnOf 2 (some .int) rm_X0_columnOf g [.ref (gad g b0), .int p1] u Q := by
  refine ent (own := RX0) (Qc := va_Qi Q (WQ g)) (by decide) rfl (Nat.le_of_ble_eq_true rfl) ?_
  intro p e s m below meth c A ls C hl hW
  have hl : lv_has ls 2 [(0, .ref (gad g b0)), (1, .int p1)] := hl
  unfold wp_X0_columnOf at h
  refine lv_aload_n C.1 C.2.1 dX0_columnOf_0 rfl (lv_at hl 0 rfl) ?_
  refine lv_iload_n C.1 C.2.1 dX0_columnOf_1 rfl (lv_at hl 1 rfl) ?_
  refine x_Vi (rest := []) C hW (c_X0_has l g hb0 h) km_X0_has (oLay hb0) rfl qm_X0_34 ⟨rfl, rfl⟩ (by decide) rfl hl.1 rfl (Nat.le_of_ble_eq_true rfl) ⟨Nat.zero_le _, Nat.zero_le _⟩ dX0_columnOf_2 (fun r1 u1 H locs h hW => ?_)
  refine lv_if_eq (tgt := 17) C.1 C.2.1 dX0_columnOf_5 (by decide) (fun c2 => ?_) (fun c2 => ?_)
  · have h := h.1 c2
    refine lv_iconst (v := 0) C.1 C.2.1 dX0_columnOf_17 (by decide) ?_
    exact x_iret C hW h dX0_columnOf_18
  · have h := h.2 c2
    refine lv_aload_n C.1 C.2.1 dX0_columnOf_8 rfl (lv_at hl 0 rfl) ?_
    refine fg_X0_18 C hW hb0 dX0_columnOf_9 ?_
    refine lv_iload_n C.1 C.2.1 dX0_columnOf_12 rfl (lv_at hl 1 rfl) ?_
    obtain ⟨h3, h⟩ := h
    refine x_iald C hW (gLay3 hb0) h3 dX0_columnOf_13 ?_
    refine lv_goto (tgt := 18) C.1 C.2.1 dX0_columnOf_14 (by decide) ?_
    exact x_iret C hW h dX0_columnOf_18
set_option maxRecDepth 100000 in
theorem k_X0_conducts_J88 {p : Program} {l : Launch} {e : Env} {s : State} {m : MethodId} {args : Array Value} {below : List Frame} {meth : Method} {c : Code} {g : GG} {A : Nat → Prop} {b0 : Nat} {p1 : Int32} {b2 : Nat} {p3 : Int32} (hb0 : isLay b0) (hb2 : isMom b2) {Q : Int32 → St → Prop} (C : MC p s m args meth c cX0_conducts 6 RX0 (some .boolean) g A) : ∀ (t0 : Int32) (u : St) (H : Heap) (locs : List Loc) (ls : Array Slot), wp_X0_conducts_J88 b0 p1 b2 p3 Q t0 u → WD g A s u H locs → lv_has ls 6 [(0, .ref (gad g b0)), (1, .int p1), (2, .ref (gad g b2))] → W p l e rm_X0_conducts s m args below meth c H locs 0 0 (MQ below (va_Qi Q (WQ g) A) args s 0 0 A) (F0 m 88 ls [.int t0]) := by
  intro t0 u H locs ls h hW hl
  refine lv_istore (lv' := [(4, .int t0), (0, .ref (gad g b0)), (1, .int p1), (2, .ref (gad g b2))]) C.1 C.2.1 dX0_conducts_88 hl (by decide) rfl (fun ls hl => ?_)
  refine lv_aload_n C.1 C.2.1 dX0_conducts_90 rfl (lv_at hl 1 rfl) ?_
  refine fg_X0_9 C hW hb0 dX0_conducts_91 ?_
  refine lv_iload_n C.1 C.2.1 dX0_conducts_94 rfl (lv_at hl 2 rfl) ?_
  obtain ⟨h13, h⟩ := h
  refine x_iald C hW (gLay1 hb0) h13 dX0_conducts_95 ?_
  refine lv_iconst (v := 5) C.1 C.2.1 dX0_conducts_96 (by decide) ?_
  refine lv_icmp_ne (tgt := 136) C.1 C.2.1 dX0_conducts_97 (by decide) (fun c14 => ?_) (fun c14 => ?_)
  · have h := h.1 c14
    refine lv_iload C.1 C.2.1 dX0_conducts_136 (lv_at hl 0 rfl) ?_
    refine lv_if_ne (tgt := 151) C.1 C.2.1 dX0_conducts_138 (by decide) (fun c15 => ?_) (fun c15 => ?_)
    · have h := h.1 c15
      refine lv_iconst (v := 1) C.1 C.2.1 dX0_conducts_151 (by decide) ?_
      refine lv_goto (tgt := 156) C.1 C.2.1 dX0_conducts_152 (by decide) ?_
      exact x_zret C hW rfl h dX0_conducts_156
    · have h := h.2 c15
      refine lv_aload_n C.1 C.2.1 dX0_conducts_141 rfl (lv_at hl 1 rfl) ?_
      refine fg_X0_9 C hW hb0 dX0_conducts_142 ?_
      refine lv_iload_n C.1 C.2.1 dX0_conducts_145 rfl (lv_at hl 2 rfl) ?_
      obtain ⟨h16, h⟩ := h
      refine x_iald C hW (gLay1 hb0) h16 dX0_conducts_146 ?_
      refine lv_iconst (v := 2) C.1 C.2.1 dX0_conducts_147 (by decide) ?_
      refine lv_icmp_eq (tgt := 155) C.1 C.2.1 dX0_conducts_148 (by decide) (fun c17 => ?_) (fun c17 => ?_)
      · have h := h.1 c17
        refine lv_iconst (v := 0) C.1 C.2.1 dX0_conducts_155 (by decide) ?_
        exact x_zret C hW rfl h dX0_conducts_156
      · have h := h.2 c17
        refine lv_iconst (v := 1) C.1 C.2.1 dX0_conducts_151 (by decide) ?_
        refine lv_goto (tgt := 156) C.1 C.2.1 dX0_conducts_152 (by decide) ?_
        exact x_zret C hW rfl h dX0_conducts_156
  · have h := h.2 c14
    refine lv_aload_n C.1 C.2.1 dX0_conducts_100 rfl (lv_at hl 1 rfl) ?_
    refine fg_X0_21 C hW hb0 dX0_conducts_101 ?_
    refine lv_iload_n C.1 C.2.1 dX0_conducts_104 rfl (lv_at hl 2 rfl) ?_
    obtain ⟨h18, h⟩ := h
    refine x_iald C hW (gLay4 hb0) h18 dX0_conducts_105 ?_
    refine lv_iconst (v := 1) C.1 C.2.1 dX0_conducts_106 (by decide) ?_
    refine lv_iadd C.1 C.2.1 dX0_conducts_107 ?_
    refine lv_istore (lv' := [(5, .int ((gi u (b0 + 4) (Int32.toNatClampNeg p1)) + 1)), (4, .int t0), (0, .ref (gad g b0)), (1, .int p1), (2, .ref (gad g b2))]) C.1 C.2.1 dX0_conducts_108 hl (by decide) rfl (fun ls hl => ?_)
    refine lv_iload C.1 C.2.1 dX0_conducts_110 (lv_at hl 1 rfl) ?_
    refine lv_if_eq (tgt := 134) C.1 C.2.1 dX0_conducts_112 (by decide) (fun c19 => ?_) (fun c19 => ?_)
    · have h := h.1 c19
      refine lv_iconst (v := 0) C.1 C.2.1 dX0_conducts_134 (by decide) ?_
      exact x_zret C hW rfl h dX0_conducts_135
    · have h := h.2 c19
      refine lv_iload C.1 C.2.1 dX0_conducts_115 (lv_at hl 0 rfl) ?_
      refine lv_if_le (tgt := 134) C.1 C.2.1 dX0_conducts_117 (by decide) (fun c20 => ?_) (fun c20 => ?_)
      · have h := h.1 c20
        refine lv_iconst (v := 0) C.1 C.2.1 dX0_conducts_134 (by decide) ?_
        exact x_zret C hW rfl h dX0_conducts_135
      · have h := h.2 c20
        refine lv_aload_n C.1 C.2.1 dX0_conducts_120 rfl (lv_at hl 4 rfl) ?_
        refine fg_X0_51 C hW hb2 dX0_conducts_121 ?_
        refine lv_iload C.1 C.2.1 dX0_conducts_124 (lv_at hl 0 rfl) ?_
        obtain ⟨h21, h⟩ := h
        refine lv_irem C.1 C.2.1 dX0_conducts_126 h21 ?_
        refine lv_if_ne (tgt := 134) C.1 C.2.1 dX0_conducts_127 (by decide) (fun c22 => ?_) (fun c22 => ?_)
        · have h := h.1 c22
          refine lv_iconst (v := 0) C.1 C.2.1 dX0_conducts_134 (by decide) ?_
          exact x_zret C hW rfl h dX0_conducts_135
        · have h := h.2 c22
          refine lv_iconst (v := 1) C.1 C.2.1 dX0_conducts_130 (by decide) ?_
          refine lv_goto (tgt := 135) C.1 C.2.1 dX0_conducts_131 (by decide) ?_
          exact x_zret C hW rfl h dX0_conducts_135
set_option maxRecDepth 100000 in
theorem k_X0_conducts_J28 {p : Program} {l : Launch} {e : Env} {s : State} {m : MethodId} {args : Array Value} {below : List Frame} {meth : Method} {c : Code} {g : GG} {A : Nat → Prop} {b0 : Nat} {p1 : Int32} {b2 : Nat} {p3 : Int32} (hb0 : isLay b0) (hb2 : isMom b2) {Q : Int32 → St → Prop} (C : MC p s m args meth c cX0_conducts 6 RX0 (some .boolean) g A) : ∀ (u : St) (H : Heap) (locs : List Loc) (ls : Array Slot), wp_X0_conducts_J28 b0 p1 b2 p3 Q u → WD g A s u H locs → lv_has ls 6 [(0, .ref (gad g b0)), (1, .int p1)] → W p l e rm_X0_conducts s m args below meth c H locs 0 0 (MQ below (va_Qi Q (WQ g) A) args s 0 0 A) (F0 m 28 ls []) := by
  intro u H locs ls h hW hl
  refine lv_aload_n C.1 C.2.1 dX0_conducts_28 rfl (lv_at hl 0 rfl) ?_
  refine fg_X0_9 C hW hb0 dX0_conducts_29 ?_
  refine lv_iload_n C.1 C.2.1 dX0_conducts_32 rfl (lv_at hl 1 rfl) ?_
  obtain ⟨h23, h⟩ := h
  refine x_iald C hW (gLay1 hb0) h23 dX0_conducts_33 ?_
  refine lv_iconst (v := 3) C.1 C.2.1 dX0_conducts_34 (by decide) ?_
  refine lv_icmp_ne (tgt := 42) C.1 C.2.1 dX0_conducts_35 (by decide) (fun c24 => ?_) (fun c24 => ?_)
  · have h := h.1 c24
    refine lv_iconst (v := 0) C.1 C.2.1 dX0_conducts_42 (by decide) ?_
    exact x_zret C hW rfl h dX0_conducts_43
  · have h := h.2 c24
    refine lv_iconst (v := 1) C.1 C.2.1 dX0_conducts_38 (by decide) ?_
    refine lv_goto (tgt := 43) C.1 C.2.1 dX0_conducts_39 (by decide) ?_
    exact x_zret C hW rfl h dX0_conducts_43
set_option maxRecDepth 100000 in
theorem c_X0_conducts (l : Launch) (g : GG) {b0 : Nat} {p1 : Int32} {b2 : Nat} {p3 : Int32} (hb0 : isLay b0) (hb2 : isMom b2) {u : St} {Q : Int32 → St → Prop} (h : wp_X0_conducts b0 p1 b2 p3 u Q) : CI l yX0_conducts cX0_conducts 6 (some .boolean) rm_X0_conducts g [.ref (gad g b0), .int p1, .ref (gad g b2), .int p3] u Q := by
  refine ent (own := RX0) (Qc := va_Qi Q (WQ g)) (by decide) rfl (Nat.le_of_ble_eq_true rfl) ?_
  intro p e s m below meth c A ls C hl hW
  have hl : lv_has ls 6 [(0, .ref (gad g b0)), (1, .int p1), (2, .ref (gad g b2)), (3, .int p3)] := hl
  unfold wp_X0_conducts at h
  refine lv_aload_n C.1 C.2.1 dX0_conducts_0 rfl (lv_at hl 0 rfl) ?_
  refine lv_iload_n C.1 C.2.1 dX0_conducts_1 rfl (lv_at hl 1 rfl) ?_
  refine x_Vi (rest := []) C hW (c_X0_has l g hb0 h) km_X0_has (oLay hb0) rfl qm_X0_34 ⟨rfl, rfl⟩ (by decide) rfl hl.1 rfl (Nat.le_of_ble_eq_true rfl) ⟨Nat.zero_le _, Nat.zero_le _⟩ dX0_conducts_2 (fun r1 u1 H locs h hW => ?_)
  refine lv_if_ne (tgt := 10) C.1 C.2.1 dX0_conducts_5 (by decide) (fun c2 => ?_) (fun c2 => ?_)
  · have h := h.1 c2
    refine lv_aload_n C.1 C.2.1 dX0_conducts_10 rfl (lv_at hl 0 rfl) ?_
    refine fg_X0_9 C hW hb0 dX0_conducts_11 ?_
    refine lv_iload_n C.1 C.2.1 dX0_conducts_14 rfl (lv_at hl 1 rfl) ?_
    obtain ⟨h3, h⟩ := h
    refine x_iald C hW (gLay1 hb0) h3 dX0_conducts_15 ?_
    refine lv_iconst (v := 3) C.1 C.2.1 dX0_conducts_16 (by decide) ?_
    refine lv_icmp_eq (tgt := 28) C.1 C.2.1 dX0_conducts_17 (by decide) (fun c4 => ?_) (fun c4 => ?_)
    · have h := h.1 c4
      exact k_X0_conducts_J28 hb0 hb2 C u1 _ _ _ h hW (lv_sub hl [0, 1] rfl)
    · have h := h.2 c4
      refine lv_iload_n C.1 C.2.1 dX0_conducts_20 rfl (lv_at hl 3 rfl) ?_
      refine lv_iload_n C.1 C.2.1 dX0_conducts_21 rfl (lv_at hl 1 rfl) ?_
      refine x_SNi (rest := []) C hW (c_X4_holds l g h) km_X4_holds qmn_X0_42 ⟨rfl, rfl⟩ (by decide) rfl hl.1 rfl (Nat.le_of_ble_eq_true rfl) ⟨Nat.zero_le _, Nat.zero_le _⟩ dX0_conducts_22 (fun r5 u5 H locs h hW => ?_)
      refine lv_if_ne (tgt := 44) C.1 C.2.1 dX0_conducts_25 (by decide) (fun c6 => ?_) (fun c6 => ?_)
      · have h := h.1 c6
        refine lv_aload_n C.1 C.2.1 dX0_conducts_44 rfl (lv_at hl 0 rfl) ?_
        refine fg_X0_9 C hW hb0 dX0_conducts_45 ?_
        refine lv_iload_n C.1 C.2.1 dX0_conducts_48 rfl (lv_at hl 1 rfl) ?_
        obtain ⟨h7, h⟩ := h
        refine x_iald C hW (gLay1 hb0) h7 dX0_conducts_49 ?_
        refine lv_iconst (v := 4) C.1 C.2.1 dX0_conducts_50 (by decide) ?_
        refine lv_icmp_ne (tgt := 74) C.1 C.2.1 dX0_conducts_51 (by decide) (fun c8 => ?_) (fun c8 => ?_)
        · have h := h.1 c8
          refine lv_aload_n C.1 C.2.1 dX0_conducts_74 rfl (lv_at hl 2 rfl) ?_
          refine fg_X0_51 C hW hb2 dX0_conducts_75 ?_
          refine lv_iconst (v := 2) C.1 C.2.1 dX0_conducts_78 (by decide) ?_
          refine lv_irem C.1 C.2.1 dX0_conducts_79 (by decide) ?_
          refine lv_if_ne (tgt := 87) C.1 C.2.1 dX0_conducts_80 (by decide) (fun c9 => ?_) (fun c9 => ?_)
          · have h := h.1 c9
            refine lv_iconst (v := 0) C.1 C.2.1 dX0_conducts_87 (by decide) ?_
            exact k_X0_conducts_J88 hb0 hb2 C 0 u5 _ _ _ h hW (lv_sub hl [0, 1, 2] rfl)
          · have h := h.2 c9
            refine lv_iconst (v := 1) C.1 C.2.1 dX0_conducts_83 (by decide) ?_
            refine lv_goto (tgt := 88) C.1 C.2.1 dX0_conducts_84 (by decide) ?_
            exact k_X0_conducts_J88 hb0 hb2 C 1 u5 _ _ _ h hW (lv_sub hl [0, 1, 2] rfl)
        · have h := h.2 c8
          refine lv_aload_n C.1 C.2.1 dX0_conducts_54 rfl (lv_at hl 2 rfl) ?_
          refine lv_iload_n C.1 C.2.1 dX0_conducts_55 rfl (lv_at hl 1 rfl) ?_
          refine x_Vi (rest := []) C hW (c_X1_heldFor l g hb2 h) km_X1_heldFor (oMom hb2) rfl qm_X0_45 ⟨rfl, rfl⟩ (by decide) rfl hl.1 rfl (Nat.le_of_ble_eq_true rfl) ⟨Nat.zero_le _, Nat.zero_le _⟩ dX0_conducts_56 (fun r10 u10 H locs h hW => ?_)
          refine lv_aload_n C.1 C.2.1 dX0_conducts_59 rfl (lv_at hl 0 rfl) ?_
          refine fg_X0_21 C hW hb0 dX0_conducts_60 ?_
          refine lv_iload_n C.1 C.2.1 dX0_conducts_63 rfl (lv_at hl 1 rfl) ?_
          obtain ⟨h11, h⟩ := h
          refine x_iald C hW (gLay4 hb0) h11 dX0_conducts_64 ?_
          refine lv_icmp_lt (tgt := 72) C.1 C.2.1 dX0_conducts_65 (by decide) (fun c12 => ?_) (fun c12 => ?_)
          · have h := h.1 c12
            refine lv_iconst (v := 0) C.1 C.2.1 dX0_conducts_72 (by decide) ?_
            exact x_zret C hW rfl h dX0_conducts_73
          · have h := h.2 c12
            refine lv_iconst (v := 1) C.1 C.2.1 dX0_conducts_68 (by decide) ?_
            refine lv_goto (tgt := 73) C.1 C.2.1 dX0_conducts_69 (by decide) ?_
            exact x_zret C hW rfl h dX0_conducts_73
      · have h := h.2 c6
        exact k_X0_conducts_J28 hb0 hb2 C u5 _ _ _ h hW (lv_sub hl [0, 1] rfl)
  · have h := h.2 c2
    refine lv_iconst (v := 0) C.1 C.2.1 dX0_conducts_8 (by decide) ?_
    exact x_zret C hW rfl h dX0_conducts_9
set_option maxRecDepth 100000 in
theorem k_X0_copyFrom_B10 {p : Program} {l : Launch} {e : Env} {s : State} {m : MethodId} {args : Array Value} {below : List Frame} {meth : Method} {c : Code} {g : GG} {A : Nat → Prop} {b0 : Nat} {b1 : Nat} (hb0 : isLay b0) (hb1 : isLay b1) {Q : St → Prop} (C : MC p s m args meth c cX0_copyFrom 3 RX0 none g A) {K10 : Int32 → St → Prop} (hK10 : ∀ (v2 : Int32) (u : St) (H : Heap) (locs : List Loc) (ls : Array Slot), K10 v2 u → WD g A s u H locs → lv_has ls 3 [(0, .ref (gad g b0)), (1, .ref (gad g b1)), (2, .int v2)] → W p l e rm_X0_copyFrom s m args below meth c H locs 0 0 (MQ below (va_Qv Q (WQ g) A) args s 0 0 A) (F0 m 10 ls [])) : ∀ (v2 : Int32) (u : St) (H : Heap) (locs : List Loc) (ls : Array Slot), wp_X0_copyFrom_B10 b0 b1 Q K10 v2 u → WD g A s u H locs → lv_has ls 3 [(0, .ref (gad g b0)), (1, .ref (gad g b1)), (2, .int v2)] → W p l e rm_X0_copyFrom s m args below meth c H locs 0 0 (MQ below (va_Qv Q (WQ g) A) args s 0 0 A) (F0 m 10 ls []) := by
  intro v2 u H locs ls h hW hl
  refine lv_iload_n C.1 C.2.1 dX0_copyFrom_10 rfl (lv_at hl 2 rfl) ?_
  refine lv_bipush (v := 7) C.1 C.2.1 dX0_copyFrom_11 (by decide) ?_
  refine lv_icmp_ge (tgt := 70) C.1 C.2.1 dX0_copyFrom_13 (by decide) (fun c2 => ?_) (fun c2 => ?_)
  · have h := h.1 c2
    exact x_vret C hW h dX0_copyFrom_70
  · have h := h.2 c2
    refine lv_aload_n C.1 C.2.1 dX0_copyFrom_16 rfl (lv_at hl 0 rfl) ?_
    refine fg_X0_9 C hW hb0 dX0_copyFrom_17 ?_
    refine lv_iload_n C.1 C.2.1 dX0_copyFrom_20 rfl (lv_at hl 2 rfl) ?_
    refine lv_aload_n C.1 C.2.1 dX0_copyFrom_21 rfl (lv_at hl 1 rfl) ?_
    refine fg_X0_9 C hW hb1 dX0_copyFrom_22 ?_
    refine lv_iload_n C.1 C.2.1 dX0_copyFrom_25 rfl (lv_at hl 2 rfl) ?_
    obtain ⟨h3, h⟩ := h
    refine x_iald C hW (gLay1 hb1) h3 dX0_copyFrom_26 ?_
    obtain ⟨h4, h⟩ := h
    refine x_iast C hW (gLay1 hb0) h4 dX0_copyFrom_27 (fun u5 H locs e5 hW => ?_)
    have h := nxt_get h e5
    refine lv_aload_n C.1 C.2.1 dX0_copyFrom_28 rfl (lv_at hl 0 rfl) ?_
    refine fg_X0_15 C hW hb0 dX0_copyFrom_29 ?_
    refine lv_iload_n C.1 C.2.1 dX0_copyFrom_32 rfl (lv_at hl 2 rfl) ?_
    refine lv_aload_n C.1 C.2.1 dX0_copyFrom_33 rfl (lv_at hl 1 rfl) ?_
    refine fg_X0_15 C hW hb1 dX0_copyFrom_34 ?_
    refine lv_iload_n C.1 C.2.1 dX0_copyFrom_37 rfl (lv_at hl 2 rfl) ?_
    obtain ⟨h6, h⟩ := h
    refine x_iald C hW (gLay2 hb1) h6 dX0_copyFrom_38 ?_
    obtain ⟨h7, h⟩ := h
    refine x_iast C hW (gLay2 hb0) h7 dX0_copyFrom_39 (fun u8 H locs e8 hW => ?_)
    have h := nxt_get h e8
    refine lv_aload_n C.1 C.2.1 dX0_copyFrom_40 rfl (lv_at hl 0 rfl) ?_
    refine fg_X0_18 C hW hb0 dX0_copyFrom_41 ?_
    refine lv_iload_n C.1 C.2.1 dX0_copyFrom_44 rfl (lv_at hl 2 rfl) ?_
    refine lv_aload_n C.1 C.2.1 dX0_copyFrom_45 rfl (lv_at hl 1 rfl) ?_
    refine fg_X0_18 C hW hb1 dX0_copyFrom_46 ?_
    refine lv_iload_n C.1 C.2.1 dX0_copyFrom_49 rfl (lv_at hl 2 rfl) ?_
    obtain ⟨h9, h⟩ := h
    refine x_iald C hW (gLay3 hb1) h9 dX0_copyFrom_50 ?_
    obtain ⟨h10, h⟩ := h
    refine x_iast C hW (gLay3 hb0) h10 dX0_copyFrom_51 (fun u11 H locs e11 hW => ?_)
    have h := nxt_get h e11
    refine lv_aload_n C.1 C.2.1 dX0_copyFrom_52 rfl (lv_at hl 0 rfl) ?_
    refine fg_X0_21 C hW hb0 dX0_copyFrom_53 ?_
    refine lv_iload_n C.1 C.2.1 dX0_copyFrom_56 rfl (lv_at hl 2 rfl) ?_
    refine lv_aload_n C.1 C.2.1 dX0_copyFrom_57 rfl (lv_at hl 1 rfl) ?_
    refine fg_X0_21 C hW hb1 dX0_copyFrom_58 ?_
    refine lv_iload_n C.1 C.2.1 dX0_copyFrom_61 rfl (lv_at hl 2 rfl) ?_
    obtain ⟨h12, h⟩ := h
    refine x_iald C hW (gLay4 hb1) h12 dX0_copyFrom_62 ?_
    obtain ⟨h13, h⟩ := h
    refine x_iast C hW (gLay4 hb0) h13 dX0_copyFrom_63 (fun u14 H locs e14 hW => ?_)
    have h := nxt_get h e14
    refine lv_iinc (v := (v2 + 1)) (lv' := [(2, .int (v2 + 1)), (0, .ref (gad g b0)), (1, .ref (gad g b1))]) C.1 C.2.1 dX0_copyFrom_64 hl (k := 2) rfl rfl (by decide) rfl (fun ls hl => ?_)
    refine lv_goto (tgt := 10) C.1 C.2.1 dX0_copyFrom_67 (by decide) ?_
    exact hK10 (v2 + 1) u14 _ _ _ h hW (lv_sub hl [1, 2, 0] rfl)
theorem k_X0_copyFrom_L10 {p : Program} {l : Launch} {e : Env} {s : State} {m : MethodId} {args : Array Value} {below : List Frame} {meth : Method} {c : Code} {g : GG} {A : Nat → Prop} {b0 : Nat} {b1 : Nat} (hb0 : isLay b0) (hb1 : isLay b1) {Q : St → Prop} (C : MC p s m args meth c cX0_copyFrom 3 RX0 none g A) : ∀ (n : Nat), ∀ (v2 : Int32) (u : St) (H : Heap) (locs : List Loc) (ls : Array Slot), wp_X0_copyFrom_L10 b0 b1 Q n v2 u → WD g A s u H locs → lv_has ls 3 [(0, .ref (gad g b0)), (1, .ref (gad g b1)), (2, .int v2)] → W p l e rm_X0_copyFrom s m args below meth c H locs 0 0 (MQ below (va_Qv Q (WQ g) A) args s 0 0 A) (F0 m 10 ls []) := by
  intro n
  induction n with
  | zero => intro v2 u H locs ls h; exact False.elim h
  | succ n ih => exact k_X0_copyFrom_B10 (b0 := b0) (b1 := b1) hb0 hb1 C ih
set_option maxRecDepth 100000 in
theorem c_X0_copyFrom (l : Launch) (g : GG) {b0 : Nat} {b1 : Nat} (hb0 : isLay b0) (hb1 : isLay b1) {u : St} {Q : St → Prop} (h : wp_X0_copyFrom b0 b1 u Q) : CV l yX0_copyFrom cX0_copyFrom 3 none rm_X0_copyFrom g [.ref (gad g b0), .ref (gad g b1)] u Q := by
  refine ent (own := RX0) (Qc := va_Qv Q (WQ g)) (by decide) rfl (Nat.le_of_ble_eq_true rfl) ?_
  intro p e s m below meth c A ls C hl hW
  have hl : lv_has ls 3 [(0, .ref (gad g b0)), (1, .ref (gad g b1))] := hl
  unfold wp_X0_copyFrom at h
  refine lv_aload_n C.1 C.2.1 dX0_copyFrom_0 rfl (lv_at hl 0 rfl) ?_
  refine lv_aload_n C.1 C.2.1 dX0_copyFrom_1 rfl (lv_at hl 1 rfl) ?_
  refine fg_X0_24 C hW hb1 dX0_copyFrom_2 ?_
  refine fp_X0_24 C hW hb0 dX0_copyFrom_5 (fun u1 H locs e1 hW => ?_)
  have h := nxt_get h e1
  refine lv_iconst (v := 0) C.1 C.2.1 dX0_copyFrom_8 (by decide) ?_
  refine lv_istore_n (lv' := [(2, .int 0), (0, .ref (gad g b0)), (1, .ref (gad g b1))]) C.1 C.2.1 dX0_copyFrom_9 rfl hl (by decide) rfl (fun ls hl => ?_)
  obtain ⟨n, h⟩ := h
  exact k_X0_copyFrom_L10 hb0 hb1 C n 0 u1 _ _ _ h hW (lv_sub hl [1, 2, 0] rfl)
set_option maxRecDepth 100000 in
theorem c_X0_delayOf (l : Launch) (g : GG) {b0 : Nat} {p1 : Int32} (hb0 : isLay b0) {u : St} {Q : Int32 → St → Prop} (h : wp_X0_delayOf b0 p1 u Q) : CI l yX0_delayOf cX0_delayOf 2 (some .int) rm_X0_delayOf g [.ref (gad g b0), .int p1] u Q := by
  refine ent (own := RX0) (Qc := va_Qi Q (WQ g)) (by decide) rfl (Nat.le_of_ble_eq_true rfl) ?_
  intro p e s m below meth c A ls C hl hW
  have hl : lv_has ls 2 [(0, .ref (gad g b0)), (1, .int p1)] := hl
  unfold wp_X0_delayOf at h
  refine lv_aload_n C.1 C.2.1 dX0_delayOf_0 rfl (lv_at hl 0 rfl) ?_
  refine lv_iload_n C.1 C.2.1 dX0_delayOf_1 rfl (lv_at hl 1 rfl) ?_
  refine x_Vi (rest := []) C hW (c_X0_has l g hb0 h) km_X0_has (oLay hb0) rfl qm_X0_34 ⟨rfl, rfl⟩ (by decide) rfl hl.1 rfl (Nat.le_of_ble_eq_true rfl) ⟨Nat.zero_le _, Nat.zero_le _⟩ dX0_delayOf_2 (fun r1 u1 H locs h hW => ?_)
  refine lv_if_eq (tgt := 17) C.1 C.2.1 dX0_delayOf_5 (by decide) (fun c2 => ?_) (fun c2 => ?_)
  · have h := h.1 c2
    refine lv_iconst (v := 0) C.1 C.2.1 dX0_delayOf_17 (by decide) ?_
    exact x_iret C hW h dX0_delayOf_18
  · have h := h.2 c2
    refine lv_aload_n C.1 C.2.1 dX0_delayOf_8 rfl (lv_at hl 0 rfl) ?_
    refine fg_X0_21 C hW hb0 dX0_delayOf_9 ?_
    refine lv_iload_n C.1 C.2.1 dX0_delayOf_12 rfl (lv_at hl 1 rfl) ?_
    obtain ⟨h3, h⟩ := h
    refine x_iald C hW (gLay4 hb0) h3 dX0_delayOf_13 ?_
    refine lv_goto (tgt := 18) C.1 C.2.1 dX0_delayOf_14 (by decide) ?_
    exact x_iret C hW h dX0_delayOf_18
set_option maxRecDepth 100000 in
theorem c_X0_figure (l : Launch) (g : GG) {p0 : Int32} {p1 : Int32} {u : St} {Q : Int32 → St → Prop} (h : wp_X0_figure p0 p1 u Q) : CI l yX0_figure cX0_figure 2 (some .int) rm_X0_figure g [.int p0, .int p1] u Q := by
  refine ent (own := RX0) (Qc := va_Qi Q (WQ g)) (by decide) rfl (Nat.le_of_ble_eq_true rfl) ?_
  intro p e s m below meth c A ls C hl hW
  have hl : lv_has ls 2 [(0, .int p0), (1, .int p1)] := hl
  unfold wp_X0_figure at h
  refine lv_iload_n C.1 C.2.1 dX0_figure_0 rfl (lv_at hl 0 rfl) ?_
  refine lv_bipush (v := 48) C.1 C.2.1 dX0_figure_1 (by decide) ?_
  refine lv_isub C.1 C.2.1 dX0_figure_3 ?_
  refine lv_iload_n C.1 C.2.1 dX0_figure_4 rfl (lv_at hl 1 rfl) ?_
  refine x_SNi (rest := []) C hW (c_X4_within l g h) km_X4_within qmn_X0_80 ⟨rfl, rfl⟩ (by decide) rfl hl.1 rfl (Nat.le_of_ble_eq_true rfl) ⟨Nat.zero_le _, Nat.zero_le _⟩ dX0_figure_5 (fun r1 u1 H locs h hW => ?_)
  refine lv_if_eq (tgt := 18) C.1 C.2.1 dX0_figure_8 (by decide) (fun c2 => ?_) (fun c2 => ?_)
  · have h := h.1 c2
    refine lv_bipush (v := (-9)) C.1 C.2.1 dX0_figure_18 (by decide) ?_
    exact x_iret C hW h dX0_figure_20
  · have h := h.2 c2
    refine lv_iload_n C.1 C.2.1 dX0_figure_11 rfl (lv_at hl 0 rfl) ?_
    refine lv_bipush (v := 48) C.1 C.2.1 dX0_figure_12 (by decide) ?_
    refine lv_isub C.1 C.2.1 dX0_figure_14 ?_
    refine lv_goto (tgt := 20) C.1 C.2.1 dX0_figure_15 (by decide) ?_
    exact x_iret C hW h dX0_figure_20
set_option maxRecDepth 100000 in
theorem c_X4_isOf (l : Launch) (g : GG) {p0 : Int32} {p1 : Int32} {u : St} {Q : Int32 → St → Prop} (h : wp_X4_isOf p0 p1 u Q) : CI l yX4_isOf cX4_isOf 2 (some .boolean) rm_X4_isOf g [.int p0, .int p1] u Q := by
  refine ent (own := RX4) (Qc := va_Qi Q (WQ g)) (by decide) rfl (Nat.le_of_ble_eq_true rfl) ?_
  intro p e s m below meth c A ls C hl hW
  have hl : lv_has ls 2 [(0, .int p0), (1, .int p1)] := hl
  unfold wp_X4_isOf at h
  refine lv_iload_n C.1 C.2.1 dX4_isOf_0 rfl (lv_at hl 0 rfl) ?_
  refine lv_iload_n C.1 C.2.1 dX4_isOf_1 rfl (lv_at hl 1 rfl) ?_
  refine lv_icmp_eq (tgt := 23) C.1 C.2.1 dX4_isOf_2 (by decide) (fun c1 => ?_) (fun c1 => ?_)
  · have h := h.1 c1
    refine lv_iconst (v := 1) C.1 C.2.1 dX4_isOf_23 (by decide) ?_
    refine lv_goto (tgt := 28) C.1 C.2.1 dX4_isOf_24 (by decide) ?_
    exact x_zret C hW rfl h dX4_isOf_28
  · have h := h.2 c1
    refine lv_iload_n C.1 C.2.1 dX4_isOf_5 rfl (lv_at hl 0 rfl) ?_
    refine lv_bipush (v := 6) C.1 C.2.1 dX4_isOf_6 (by decide) ?_
    refine x_Si (rest := []) C hW (c_X4_within l g h) km_X4_within qm_X4_81 ⟨rfl, rfl⟩ (by decide) rfl hl.1 rfl (Nat.le_of_ble_eq_true rfl) ⟨Nat.zero_le _, Nat.zero_le _⟩ dX4_isOf_8 (fun r2 u2 H locs h hW => ?_)
    refine lv_if_eq (tgt := 27) C.1 C.2.1 dX4_isOf_11 (by decide) (fun c3 => ?_) (fun c3 => ?_)
    · have h := h.1 c3
      refine lv_iconst (v := 0) C.1 C.2.1 dX4_isOf_27 (by decide) ?_
      exact x_zret C hW rfl h dX4_isOf_28
    · have h := h.2 c3
      refine x_sorts C hW qf_X4_329 dX4_isOf_14 ?_
      refine lv_iload_n C.1 C.2.1 dX4_isOf_17 rfl (lv_at hl 0 rfl) ?_
      obtain ⟨h4, h⟩ := h
      refine x_sortld C hW h4 dX4_isOf_18 ?_
      refine lv_iload_n C.1 C.2.1 dX4_isOf_19 rfl (lv_at hl 1 rfl) ?_
      refine lv_icmp_ne (tgt := 27) C.1 C.2.1 dX4_isOf_20 (by decide) (fun c5 => ?_) (fun c5 => ?_)
      · have h := h.1 c5
        refine lv_iconst (v := 0) C.1 C.2.1 dX4_isOf_27 (by decide) ?_
        exact x_zret C hW rfl h dX4_isOf_28
      · have h := h.2 c5
        refine lv_iconst (v := 1) C.1 C.2.1 dX4_isOf_23 (by decide) ?_
        refine lv_goto (tgt := 28) C.1 C.2.1 dX4_isOf_24 (by decide) ?_
        exact x_zret C hW rfl h dX4_isOf_28
set_option maxRecDepth 100000 in
theorem k_X0_howManyOf_B4 {p : Program} {l : Launch} {e : Env} {s : State} {m : MethodId} {args : Array Value} {below : List Frame} {meth : Method} {c : Code} {g : GG} {A : Nat → Prop} {b0 : Nat} {p1 : Int32} (hb0 : isLay b0) {Q : Int32 → St → Prop} (C : MC p s m args meth c cX0_howManyOf 4 RX0 (some .int) g A) {K4 : Int32 → Int32 → St → Prop} (hK4 : ∀ (v2 : Int32) (v3 : Int32) (u : St) (H : Heap) (locs : List Loc) (ls : Array Slot), K4 v2 v3 u → WD g A s u H locs → lv_has ls 4 [(0, .ref (gad g b0)), (1, .int p1), (2, .int v2), (3, .int v3)] → W p l e rm_X0_howManyOf s m args below meth c H locs 0 0 (MQ below (va_Qi Q (WQ g) A) args s 0 0 A) (F0 m 4 ls [])) : ∀ (v2 : Int32) (v3 : Int32) (u : St) (H : Heap) (locs : List Loc) (ls : Array Slot), wp_X0_howManyOf_B4 b0 p1 Q K4 v2 v3 u → WD g A s u H locs → lv_has ls 4 [(0, .ref (gad g b0)), (1, .int p1), (2, .int v2), (3, .int v3)] → W p l e rm_X0_howManyOf s m args below meth c H locs 0 0 (MQ below (va_Qi Q (WQ g) A) args s 0 0 A) (F0 m 4 ls []) := by
  intro v2 v3 u H locs ls h hW hl
  refine lv_iload_n C.1 C.2.1 dX0_howManyOf_4 rfl (lv_at hl 3 rfl) ?_
  refine lv_aload_n C.1 C.2.1 dX0_howManyOf_5 rfl (lv_at hl 0 rfl) ?_
  refine fg_X0_24 C hW hb0 dX0_howManyOf_6 ?_
  refine lv_icmp_ge (tgt := 40) C.1 C.2.1 dX0_howManyOf_9 (by decide) (fun c1 => ?_) (fun c1 => ?_)
  · have h := h.1 c1
    refine lv_iload_n C.1 C.2.1 dX0_howManyOf_40 rfl (lv_at hl 2 rfl) ?_
    exact x_iret C hW h dX0_howManyOf_41
  · have h := h.2 c1
    refine lv_iload_n C.1 C.2.1 dX0_howManyOf_12 rfl (lv_at hl 3 rfl) ?_
    refine lv_bipush (v := 7) C.1 C.2.1 dX0_howManyOf_13 (by decide) ?_
    refine lv_icmp_ge (tgt := 40) C.1 C.2.1 dX0_howManyOf_15 (by decide) (fun c2 => ?_) (fun c2 => ?_)
    · have h := h.1 c2
      refine lv_iload_n C.1 C.2.1 dX0_howManyOf_40 rfl (lv_at hl 2 rfl) ?_
      exact x_iret C hW h dX0_howManyOf_41
    · have h := h.2 c2
      refine lv_aload_n C.1 C.2.1 dX0_howManyOf_18 rfl (lv_at hl 0 rfl) ?_
      refine fg_X0_9 C hW hb0 dX0_howManyOf_19 ?_
      refine lv_iload_n C.1 C.2.1 dX0_howManyOf_22 rfl (lv_at hl 3 rfl) ?_
      obtain ⟨h3, h⟩ := h
      refine x_iald C hW (gLay1 hb0) h3 dX0_howManyOf_23 ?_
      refine lv_iload_n C.1 C.2.1 dX0_howManyOf_24 rfl (lv_at hl 1 rfl) ?_
      refine x_SNi (rest := []) C hW (c_X4_isOf l g h) km_X4_isOf qmn_X0_38 ⟨rfl, rfl⟩ (by decide) rfl hl.1 rfl (Nat.le_of_ble_eq_true rfl) ⟨Nat.zero_le _, Nat.zero_le _⟩ dX0_howManyOf_25 (fun r4 u4 H locs h hW => ?_)
      refine lv_if_eq (tgt := 34) C.1 C.2.1 dX0_howManyOf_28 (by decide) (fun c5 => ?_) (fun c5 => ?_)
      · have h := h.1 c5
        refine lv_iinc (v := (v3 + 1)) (lv' := [(3, .int (v3 + 1)), (0, .ref (gad g b0)), (1, .int p1), (2, .int v2)]) C.1 C.2.1 dX0_howManyOf_34 hl (k := 3) rfl rfl (by decide) rfl (fun ls hl => ?_)
        refine lv_goto (tgt := 4) C.1 C.2.1 dX0_howManyOf_37 (by decide) ?_
        exact hK4 v2 (v3 + 1) u4 _ _ _ h hW (lv_sub hl [1, 2, 3, 0] rfl)
      · have h := h.2 c5
        refine lv_iinc (v := (v2 + 1)) (lv' := [(2, .int (v2 + 1)), (0, .ref (gad g b0)), (1, .int p1), (3, .int v3)]) C.1 C.2.1 dX0_howManyOf_31 hl (k := 2) rfl rfl (by decide) rfl (fun ls hl => ?_)
        refine lv_iinc (v := (v3 + 1)) (lv' := [(3, .int (v3 + 1)), (2, .int (v2 + 1)), (0, .ref (gad g b0)), (1, .int p1)]) C.1 C.2.1 dX0_howManyOf_34 hl (k := 3) rfl rfl (by decide) rfl (fun ls hl => ?_)
        refine lv_goto (tgt := 4) C.1 C.2.1 dX0_howManyOf_37 (by decide) ?_
        exact hK4 (v2 + 1) (v3 + 1) u4 _ _ _ h hW (lv_sub hl [2, 3, 1, 0] rfl)
theorem k_X0_howManyOf_L4 {p : Program} {l : Launch} {e : Env} {s : State} {m : MethodId} {args : Array Value} {below : List Frame} {meth : Method} {c : Code} {g : GG} {A : Nat → Prop} {b0 : Nat} {p1 : Int32} (hb0 : isLay b0) {Q : Int32 → St → Prop} (C : MC p s m args meth c cX0_howManyOf 4 RX0 (some .int) g A) : ∀ (n : Nat), ∀ (v2 : Int32) (v3 : Int32) (u : St) (H : Heap) (locs : List Loc) (ls : Array Slot), wp_X0_howManyOf_L4 b0 p1 Q n v2 v3 u → WD g A s u H locs → lv_has ls 4 [(0, .ref (gad g b0)), (1, .int p1), (2, .int v2), (3, .int v3)] → W p l e rm_X0_howManyOf s m args below meth c H locs 0 0 (MQ below (va_Qi Q (WQ g) A) args s 0 0 A) (F0 m 4 ls []) := by
  intro n
  induction n with
  | zero => intro v2 v3 u H locs ls h; exact False.elim h
  | succ n ih => exact k_X0_howManyOf_B4 (b0 := b0) (p1 := p1) hb0 C ih
set_option maxRecDepth 100000 in
theorem c_X0_howManyOf (l : Launch) (g : GG) {b0 : Nat} {p1 : Int32} (hb0 : isLay b0) {u : St} {Q : Int32 → St → Prop} (h : wp_X0_howManyOf b0 p1 u Q) : CI l yX0_howManyOf cX0_howManyOf 4 (some .int) rm_X0_howManyOf g [.ref (gad g b0), .int p1] u Q := by
  refine ent (own := RX0) (Qc := va_Qi Q (WQ g)) (by decide) rfl (Nat.le_of_ble_eq_true rfl) ?_
  intro p e s m below meth c A ls C hl hW
  have hl : lv_has ls 4 [(0, .ref (gad g b0)), (1, .int p1)] := hl
  unfold wp_X0_howManyOf at h
  refine lv_iconst (v := 0) C.1 C.2.1 dX0_howManyOf_0 (by decide) ?_
  refine lv_istore_n (lv' := [(2, .int 0), (0, .ref (gad g b0)), (1, .int p1)]) C.1 C.2.1 dX0_howManyOf_1 rfl hl (by decide) rfl (fun ls hl => ?_)
  refine lv_iconst (v := 0) C.1 C.2.1 dX0_howManyOf_2 (by decide) ?_
  refine lv_istore_n (lv' := [(3, .int 0), (2, .int 0), (0, .ref (gad g b0)), (1, .int p1)]) C.1 C.2.1 dX0_howManyOf_3 rfl hl (by decide) rfl (fun ls hl => ?_)
  obtain ⟨n, h⟩ := h
  exact k_X0_howManyOf_L4 hb0 C n 0 0 u _ _ _ h hW (lv_sub hl [2, 3, 1, 0] rfl)
set_option maxRecDepth 100000 in
theorem k_X0_keyAt_B2 {p : Program} {l : Launch} {e : Env} {s : State} {m : MethodId} {args : Array Value} {below : List Frame} {meth : Method} {c : Code} {g : GG} {A : Nat → Prop} {b0 : Nat} {p1 : Int32} {p2 : Int32} (hb0 : isLay b0) {Q : Int32 → St → Prop} (C : MC p s m args meth c cX0_keyAt 4 RX0 (some .int) g A) {K2 : Int32 → St → Prop} (hK2 : ∀ (v3 : Int32) (u : St) (H : Heap) (locs : List Loc) (ls : Array Slot), K2 v3 u → WD g A s u H locs → lv_has ls 4 [(0, .ref (gad g b0)), (1, .int p1), (2, .int p2), (3, .int v3)] → W p l e rm_X0_keyAt s m args below meth c H locs 0 0 (MQ below (va_Qi Q (WQ g) A) args s 0 0 A) (F0 m 2 ls [])) : ∀ (v3 : Int32) (u : St) (H : Heap) (locs : List Loc) (ls : Array Slot), wp_X0_keyAt_B2 b0 p1 p2 Q K2 v3 u → WD g A s u H locs → lv_has ls 4 [(0, .ref (gad g b0)), (1, .int p1), (2, .int p2), (3, .int v3)] → W p l e rm_X0_keyAt s m args below meth c H locs 0 0 (MQ below (va_Qi Q (WQ g) A) args s 0 0 A) (F0 m 2 ls []) := by
  intro v3 u H locs ls h hW hl
  refine lv_iload_n C.1 C.2.1 dX0_keyAt_2 rfl (lv_at hl 3 rfl) ?_
  refine lv_aload_n C.1 C.2.1 dX0_keyAt_3 rfl (lv_at hl 0 rfl) ?_
  refine fg_X0_24 C hW hb0 dX0_keyAt_4 ?_
  refine lv_icmp_ge (tgt := 44) C.1 C.2.1 dX0_keyAt_7 (by decide) (fun c1 => ?_) (fun c1 => ?_)
  · have h := h.1 c1
    refine lv_bipush (v := (-9)) C.1 C.2.1 dX0_keyAt_44 (by decide) ?_
    exact x_iret C hW h dX0_keyAt_46
  · have h := h.2 c1
    refine lv_iload_n C.1 C.2.1 dX0_keyAt_10 rfl (lv_at hl 3 rfl) ?_
    refine lv_bipush (v := 7) C.1 C.2.1 dX0_keyAt_11 (by decide) ?_
    refine lv_icmp_ge (tgt := 44) C.1 C.2.1 dX0_keyAt_13 (by decide) (fun c2 => ?_) (fun c2 => ?_)
    · have h := h.1 c2
      refine lv_bipush (v := (-9)) C.1 C.2.1 dX0_keyAt_44 (by decide) ?_
      exact x_iret C hW h dX0_keyAt_46
    · have h := h.2 c2
      refine lv_aload_n C.1 C.2.1 dX0_keyAt_16 rfl (lv_at hl 0 rfl) ?_
      refine fg_X0_15 C hW hb0 dX0_keyAt_17 ?_
      refine lv_iload_n C.1 C.2.1 dX0_keyAt_20 rfl (lv_at hl 3 rfl) ?_
      obtain ⟨h3, h⟩ := h
      refine x_iald C hW (gLay2 hb0) h3 dX0_keyAt_21 ?_
      refine lv_iload_n C.1 C.2.1 dX0_keyAt_22 rfl (lv_at hl 1 rfl) ?_
      refine lv_icmp_ne (tgt := 38) C.1 C.2.1 dX0_keyAt_23 (by decide) (fun c4 => ?_) (fun c4 => ?_)
      · have h := h.1 c4
        refine lv_iinc (v := (v3 + 1)) (lv' := [(3, .int (v3 + 1)), (0, .ref (gad g b0)), (1, .int p1), (2, .int p2)]) C.1 C.2.1 dX0_keyAt_38 hl (k := 3) rfl rfl (by decide) rfl (fun ls hl => ?_)
        refine lv_goto (tgt := 2) C.1 C.2.1 dX0_keyAt_41 (by decide) ?_
        exact hK2 (v3 + 1) u _ _ _ h hW (lv_sub hl [1, 2, 3, 0] rfl)
      · have h := h.2 c4
        refine lv_aload_n C.1 C.2.1 dX0_keyAt_26 rfl (lv_at hl 0 rfl) ?_
        refine fg_X0_18 C hW hb0 dX0_keyAt_27 ?_
        refine lv_iload_n C.1 C.2.1 dX0_keyAt_30 rfl (lv_at hl 3 rfl) ?_
        obtain ⟨h5, h⟩ := h
        refine x_iald C hW (gLay3 hb0) h5 dX0_keyAt_31 ?_
        refine lv_iload_n C.1 C.2.1 dX0_keyAt_32 rfl (lv_at hl 2 rfl) ?_
        refine lv_icmp_ne (tgt := 38) C.1 C.2.1 dX0_keyAt_33 (by decide) (fun c6 => ?_) (fun c6 => ?_)
        · have h := h.1 c6
          refine lv_iinc (v := (v3 + 1)) (lv' := [(3, .int (v3 + 1)), (0, .ref (gad g b0)), (1, .int p1), (2, .int p2)]) C.1 C.2.1 dX0_keyAt_38 hl (k := 3) rfl rfl (by decide) rfl (fun ls hl => ?_)
          refine lv_goto (tgt := 2) C.1 C.2.1 dX0_keyAt_41 (by decide) ?_
          exact hK2 (v3 + 1) u _ _ _ h hW (lv_sub hl [1, 2, 3, 0] rfl)
        · have h := h.2 c6
          refine lv_iload_n C.1 C.2.1 dX0_keyAt_36 rfl (lv_at hl 3 rfl) ?_
          exact x_iret C hW h dX0_keyAt_37
theorem k_X0_keyAt_L2 {p : Program} {l : Launch} {e : Env} {s : State} {m : MethodId} {args : Array Value} {below : List Frame} {meth : Method} {c : Code} {g : GG} {A : Nat → Prop} {b0 : Nat} {p1 : Int32} {p2 : Int32} (hb0 : isLay b0) {Q : Int32 → St → Prop} (C : MC p s m args meth c cX0_keyAt 4 RX0 (some .int) g A) : ∀ (n : Nat), ∀ (v3 : Int32) (u : St) (H : Heap) (locs : List Loc) (ls : Array Slot), wp_X0_keyAt_L2 b0 p1 p2 Q n v3 u → WD g A s u H locs → lv_has ls 4 [(0, .ref (gad g b0)), (1, .int p1), (2, .int p2), (3, .int v3)] → W p l e rm_X0_keyAt s m args below meth c H locs 0 0 (MQ below (va_Qi Q (WQ g) A) args s 0 0 A) (F0 m 2 ls []) := by
  intro n
  induction n with
  | zero => intro v3 u H locs ls h; exact False.elim h
  | succ n ih => exact k_X0_keyAt_B2 (b0 := b0) (p1 := p1) (p2 := p2) hb0 C ih
set_option maxRecDepth 100000 in
theorem c_X0_keyAt (l : Launch) (g : GG) {b0 : Nat} {p1 : Int32} {p2 : Int32} (hb0 : isLay b0) {u : St} {Q : Int32 → St → Prop} (h : wp_X0_keyAt b0 p1 p2 u Q) : CI l yX0_keyAt cX0_keyAt 4 (some .int) rm_X0_keyAt g [.ref (gad g b0), .int p1, .int p2] u Q := by
  refine ent (own := RX0) (Qc := va_Qi Q (WQ g)) (by decide) rfl (Nat.le_of_ble_eq_true rfl) ?_
  intro p e s m below meth c A ls C hl hW
  have hl : lv_has ls 4 [(0, .ref (gad g b0)), (1, .int p1), (2, .int p2)] := hl
  unfold wp_X0_keyAt at h
  refine lv_iconst (v := 0) C.1 C.2.1 dX0_keyAt_0 (by decide) ?_
  refine lv_istore_n (lv' := [(3, .int 0), (0, .ref (gad g b0)), (1, .int p1), (2, .int p2)]) C.1 C.2.1 dX0_keyAt_1 rfl hl (by decide) rfl (fun ls hl => ?_)
  obtain ⟨n, h⟩ := h
  exact k_X0_keyAt_L2 hb0 C n 0 u _ _ _ h hW (lv_sub hl [1, 2, 3, 0] rfl)
set_option maxRecDepth 100000 in
theorem c_X0_kindOf (l : Launch) (g : GG) {b0 : Nat} {p1 : Int32} (hb0 : isLay b0) {u : St} {Q : Int32 → St → Prop} (h : wp_X0_kindOf b0 p1 u Q) : CI l yX0_kindOf cX0_kindOf 2 (some .int) rm_X0_kindOf g [.ref (gad g b0), .int p1] u Q := by
  refine ent (own := RX0) (Qc := va_Qi Q (WQ g)) (by decide) rfl (Nat.le_of_ble_eq_true rfl) ?_
  intro p e s m below meth c A ls C hl hW
  have hl : lv_has ls 2 [(0, .ref (gad g b0)), (1, .int p1)] := hl
  unfold wp_X0_kindOf at h
  refine lv_aload_n C.1 C.2.1 dX0_kindOf_0 rfl (lv_at hl 0 rfl) ?_
  refine lv_iload_n C.1 C.2.1 dX0_kindOf_1 rfl (lv_at hl 1 rfl) ?_
  refine x_Vi (rest := []) C hW (c_X0_has l g hb0 h) km_X0_has (oLay hb0) rfl qm_X0_34 ⟨rfl, rfl⟩ (by decide) rfl hl.1 rfl (Nat.le_of_ble_eq_true rfl) ⟨Nat.zero_le _, Nat.zero_le _⟩ dX0_kindOf_2 (fun r1 u1 H locs h hW => ?_)
  refine lv_if_eq (tgt := 17) C.1 C.2.1 dX0_kindOf_5 (by decide) (fun c2 => ?_) (fun c2 => ?_)
  · have h := h.1 c2
    refine lv_iconst (v := 0) C.1 C.2.1 dX0_kindOf_17 (by decide) ?_
    exact x_iret C hW h dX0_kindOf_18
  · have h := h.2 c2
    refine lv_aload_n C.1 C.2.1 dX0_kindOf_8 rfl (lv_at hl 0 rfl) ?_
    refine fg_X0_9 C hW hb0 dX0_kindOf_9 ?_
    refine lv_iload_n C.1 C.2.1 dX0_kindOf_12 rfl (lv_at hl 1 rfl) ?_
    obtain ⟨h3, h⟩ := h
    refine x_iald C hW (gLay1 hb0) h3 dX0_kindOf_13 ?_
    refine lv_goto (tgt := 18) C.1 C.2.1 dX0_kindOf_14 (by decide) ?_
    exact x_iret C hW h dX0_kindOf_18
set_option maxRecDepth 100000 in
theorem k_X0_kindOfLetter_B2 {p : Program} {l : Launch} {e : Env} {s : State} {m : MethodId} {args : Array Value} {below : List Frame} {meth : Method} {c : Code} {g : GG} {A : Nat → Prop} {p0 : Int32} {Q : Int32 → St → Prop} (C : MC p s m args meth c cX0_kindOfLetter 2 RX0 (some .int) g A) {K2 : Int32 → St → Prop} (hK2 : ∀ (v1 : Int32) (u : St) (H : Heap) (locs : List Loc) (ls : Array Slot), K2 v1 u → WD g A s u H locs → lv_has ls 2 [(0, .int p0), (1, .int v1)] → W p l e rm_X0_kindOfLetter s m args below meth c H locs 0 0 (MQ below (va_Qi Q (WQ g) A) args s 0 0 A) (F0 m 2 ls [])) : ∀ (v1 : Int32) (u : St) (H : Heap) (locs : List Loc) (ls : Array Slot), wp_X0_kindOfLetter_B2 p0 Q K2 v1 u → WD g A s u H locs → lv_has ls 2 [(0, .int p0), (1, .int v1)] → W p l e rm_X0_kindOfLetter s m args below meth c H locs 0 0 (MQ below (va_Qi Q (WQ g) A) args s 0 0 A) (F0 m 2 ls []) := by
  intro v1 u H locs ls h hW hl
  refine lv_iload_n C.1 C.2.1 dX0_kindOfLetter_2 rfl (lv_at hl 1 rfl) ?_
  refine lv_bipush (v := 6) C.1 C.2.1 dX0_kindOfLetter_3 (by decide) ?_
  refine lv_icmp_ge (tgt := 25) C.1 C.2.1 dX0_kindOfLetter_5 (by decide) (fun c1 => ?_) (fun c1 => ?_)
  · have h := h.1 c1
    refine lv_bipush (v := (-9)) C.1 C.2.1 dX0_kindOfLetter_25 (by decide) ?_
    exact x_iret C hW h dX0_kindOfLetter_27
  · have h := h.2 c1
    refine x_letters C hW qfn_X0_77 dX0_kindOfLetter_8 ?_
    refine lv_iload_n C.1 C.2.1 dX0_kindOfLetter_11 rfl (lv_at hl 1 rfl) ?_
    obtain ⟨h2, h⟩ := h
    refine x_letld C hW h2 dX0_kindOfLetter_12 ?_
    refine lv_iload_n C.1 C.2.1 dX0_kindOfLetter_13 rfl (lv_at hl 0 rfl) ?_
    refine lv_icmp_ne (tgt := 19) C.1 C.2.1 dX0_kindOfLetter_14 (by decide) (fun c3 => ?_) (fun c3 => ?_)
    · have h := h.1 c3
      refine lv_iinc (v := (v1 + 1)) (lv' := [(1, .int (v1 + 1)), (0, .int p0)]) C.1 C.2.1 dX0_kindOfLetter_19 hl (k := 1) rfl rfl (by decide) rfl (fun ls hl => ?_)
      refine lv_goto (tgt := 2) C.1 C.2.1 dX0_kindOfLetter_22 (by decide) ?_
      exact hK2 (v1 + 1) u _ _ _ h hW (lv_sub hl [1, 0] rfl)
    · have h := h.2 c3
      refine lv_iload_n C.1 C.2.1 dX0_kindOfLetter_17 rfl (lv_at hl 1 rfl) ?_
      exact x_iret C hW h dX0_kindOfLetter_18
theorem k_X0_kindOfLetter_L2 {p : Program} {l : Launch} {e : Env} {s : State} {m : MethodId} {args : Array Value} {below : List Frame} {meth : Method} {c : Code} {g : GG} {A : Nat → Prop} {p0 : Int32} {Q : Int32 → St → Prop} (C : MC p s m args meth c cX0_kindOfLetter 2 RX0 (some .int) g A) : ∀ (n : Nat), ∀ (v1 : Int32) (u : St) (H : Heap) (locs : List Loc) (ls : Array Slot), wp_X0_kindOfLetter_L2 p0 Q n v1 u → WD g A s u H locs → lv_has ls 2 [(0, .int p0), (1, .int v1)] → W p l e rm_X0_kindOfLetter s m args below meth c H locs 0 0 (MQ below (va_Qi Q (WQ g) A) args s 0 0 A) (F0 m 2 ls []) := by
  intro n
  induction n with
  | zero => intro v1 u H locs ls h; exact False.elim h
  | succ n ih => exact k_X0_kindOfLetter_B2 (p0 := p0) C ih
set_option maxRecDepth 100000 in
theorem c_X0_kindOfLetter (l : Launch) (g : GG) {p0 : Int32} {u : St} {Q : Int32 → St → Prop} (h : wp_X0_kindOfLetter p0 u Q) : CI l yX0_kindOfLetter cX0_kindOfLetter 2 (some .int) rm_X0_kindOfLetter g [.int p0] u Q := by
  refine ent (own := RX0) (Qc := va_Qi Q (WQ g)) (by decide) rfl (Nat.le_of_ble_eq_true rfl) ?_
  intro p e s m below meth c A ls C hl hW
  have hl : lv_has ls 2 [(0, .int p0)] := hl
  unfold wp_X0_kindOfLetter at h
  refine lv_iconst (v := 0) C.1 C.2.1 dX0_kindOfLetter_0 (by decide) ?_
  refine lv_istore_n (lv' := [(1, .int 0), (0, .int p0)]) C.1 C.2.1 dX0_kindOfLetter_1 rfl hl (by decide) rfl (fun ls hl => ?_)
  obtain ⟨n, h⟩ := h
  exact k_X0_kindOfLetter_L2 C n 0 u _ _ _ h hW (lv_sub hl [1, 0] rfl)
set_option maxRecDepth 100000 in
theorem c_X0_lineOf (l : Launch) (g : GG) {b0 : Nat} {p1 : Int32} (hb0 : isLay b0) {u : St} {Q : Int32 → St → Prop} (h : wp_X0_lineOf b0 p1 u Q) : CI l yX0_lineOf cX0_lineOf 2 (some .int) rm_X0_lineOf g [.ref (gad g b0), .int p1] u Q := by
  refine ent (own := RX0) (Qc := va_Qi Q (WQ g)) (by decide) rfl (Nat.le_of_ble_eq_true rfl) ?_
  intro p e s m below meth c A ls C hl hW
  have hl : lv_has ls 2 [(0, .ref (gad g b0)), (1, .int p1)] := hl
  unfold wp_X0_lineOf at h
  refine lv_aload_n C.1 C.2.1 dX0_lineOf_0 rfl (lv_at hl 0 rfl) ?_
  refine lv_iload_n C.1 C.2.1 dX0_lineOf_1 rfl (lv_at hl 1 rfl) ?_
  refine x_Vi (rest := []) C hW (c_X0_has l g hb0 h) km_X0_has (oLay hb0) rfl qm_X0_34 ⟨rfl, rfl⟩ (by decide) rfl hl.1 rfl (Nat.le_of_ble_eq_true rfl) ⟨Nat.zero_le _, Nat.zero_le _⟩ dX0_lineOf_2 (fun r1 u1 H locs h hW => ?_)
  refine lv_if_eq (tgt := 17) C.1 C.2.1 dX0_lineOf_5 (by decide) (fun c2 => ?_) (fun c2 => ?_)
  · have h := h.1 c2
    refine lv_iconst (v := 0) C.1 C.2.1 dX0_lineOf_17 (by decide) ?_
    exact x_iret C hW h dX0_lineOf_18
  · have h := h.2 c2
    refine lv_aload_n C.1 C.2.1 dX0_lineOf_8 rfl (lv_at hl 0 rfl) ?_
    refine fg_X0_15 C hW hb0 dX0_lineOf_9 ?_
    refine lv_iload_n C.1 C.2.1 dX0_lineOf_12 rfl (lv_at hl 1 rfl) ?_
    obtain ⟨h3, h⟩ := h
    refine x_iald C hW (gLay2 hb0) h3 dX0_lineOf_13 ?_
    refine lv_goto (tgt := 18) C.1 C.2.1 dX0_lineOf_14 (by decide) ?_
    exact x_iret C hW h dX0_lineOf_18
set_option maxRecDepth 100000 in
theorem c_X0_rightSigns (l : Launch) (g : GG) {b0 : Nat} {b1 : Nat} {p2 : Int32} {p3 : Int32} (hb0 : isLay b0) (hb1 : isShf b1) {u : St} {Q : Int32 → St → Prop} (h : wp_X0_rightSigns b0 b1 p2 p3 u Q) : CI l yX0_rightSigns cX0_rightSigns 8 (some .int) rm_X0_rightSigns g [.ref (gad g b0), .ref (gad g b1), .int p2, .int p3] u Q := by
  refine ent (own := RX0) (Qc := va_Qi Q (WQ g)) (by decide) rfl (Nat.le_of_ble_eq_true rfl) ?_
  intro p e s m below meth c A ls C hl hW
  have hl : lv_has ls 8 [(0, .ref (gad g b0)), (1, .ref (gad g b1)), (2, .int p2), (3, .int p3)] := hl
  unfold wp_X0_rightSigns at h
  refine lv_aload_n C.1 C.2.1 dX0_rightSigns_0 rfl (lv_at hl 1 rfl) ?_
  refine lv_iload_n C.1 C.2.1 dX0_rightSigns_1 rfl (lv_at hl 2 rfl) ?_
  refine lv_iload_n C.1 C.2.1 dX0_rightSigns_2 rfl (lv_at hl 3 rfl) ?_
  refine x_Vi (rest := []) C hW (c_X2_get l g hb1 h) km_X2_get (oShf hb1) rfl qm_X0_65 ⟨rfl, rfl⟩ (by decide) rfl hl.1 rfl (Nat.le_of_ble_eq_true rfl) ⟨Nat.zero_le _, Nat.zero_le _⟩ dX0_rightSigns_3 (fun r1 u1 H locs h hW => ?_)
  refine x_Si (rest := []) C hW (c_X0_kindOfLetter l g h) km_X0_kindOfLetter qm_X0_68 ⟨rfl, rfl⟩ (by decide) rfl hl.1 rfl (Nat.le_of_ble_eq_true rfl) ⟨Nat.zero_le _, Nat.zero_le _⟩ dX0_rightSigns_6 (fun r2 u2 H locs h hW => ?_)
  refine lv_istore (lv' := [(4, .int r2), (0, .ref (gad g b0)), (1, .ref (gad g b1)), (2, .int p2), (3, .int p3)]) C.1 C.2.1 dX0_rightSigns_9 hl (by decide) rfl (fun ls hl => ?_)
  refine lv_iload C.1 C.2.1 dX0_rightSigns_11 (lv_at hl 0 rfl) ?_
  refine lv_bipush (v := (-9)) C.1 C.2.1 dX0_rightSigns_13 (by decide) ?_
  refine lv_icmp_eq (tgt := 27) C.1 C.2.1 dX0_rightSigns_15 (by decide) (fun c3 => ?_) (fun c3 => ?_)
  · have h := h.1 c3
    refine lv_iconst (v := 0) C.1 C.2.1 dX0_rightSigns_27 (by decide) ?_
    exact x_iret C hW h dX0_rightSigns_28
  · have h := h.2 c3
    refine lv_aload_n C.1 C.2.1 dX0_rightSigns_18 rfl (lv_at hl 1 rfl) ?_
    refine fg_X0_24 C hW hb0 dX0_rightSigns_19 ?_
    refine lv_bipush (v := 7) C.1 C.2.1 dX0_rightSigns_22 (by decide) ?_
    refine lv_icmp_lt (tgt := 29) C.1 C.2.1 dX0_rightSigns_24 (by decide) (fun c4 => ?_) (fun c4 => ?_)
    · have h := h.1 c4
      refine lv_aload_n C.1 C.2.1 dX0_rightSigns_29 rfl (lv_at hl 2 rfl) ?_
      refine lv_iload_n C.1 C.2.1 dX0_rightSigns_30 rfl (lv_at hl 3 rfl) ?_
      refine lv_iload_n C.1 C.2.1 dX0_rightSigns_31 rfl (lv_at hl 4 rfl) ?_
      refine lv_iconst (v := 1) C.1 C.2.1 dX0_rightSigns_32 (by decide) ?_
      refine lv_iadd C.1 C.2.1 dX0_rightSigns_33 ?_
      refine x_Vi (rest := []) C hW (c_X2_get l g hb1 h) km_X2_get (oShf hb1) rfl qm_X0_65 ⟨rfl, rfl⟩ (by decide) rfl hl.1 rfl (Nat.le_of_ble_eq_true rfl) ⟨Nat.zero_le _, Nat.zero_le _⟩ dX0_rightSigns_34 (fun r5 u5 H locs h hW => ?_)
      refine lv_iconst (v := 4) C.1 C.2.1 dX0_rightSigns_37 (by decide) ?_
      refine x_Si (rest := []) C hW (c_X0_figure l g h) km_X0_figure qm_X0_71 ⟨rfl, rfl⟩ (by decide) rfl hl.1 rfl (Nat.le_of_ble_eq_true rfl) ⟨Nat.zero_le _, Nat.zero_le _⟩ dX0_rightSigns_38 (fun r6 u6 H locs h hW => ?_)
      refine lv_istore (lv' := [(5, .int r6), (4, .int r2), (0, .ref (gad g b0)), (1, .ref (gad g b1)), (2, .int p2), (3, .int p3)]) C.1 C.2.1 dX0_rightSigns_41 hl (by decide) rfl (fun ls hl => ?_)
      refine lv_iload C.1 C.2.1 dX0_rightSigns_43 (lv_at hl 0 rfl) ?_
      refine lv_bipush (v := (-9)) C.1 C.2.1 dX0_rightSigns_45 (by decide) ?_
      refine lv_icmp_ne (tgt := 52) C.1 C.2.1 dX0_rightSigns_47 (by decide) (fun c7 => ?_) (fun c7 => ?_)
      · have h := h.1 c7
        refine lv_aload_n C.1 C.2.1 dX0_rightSigns_52 rfl (lv_at hl 3 rfl) ?_
        refine lv_iload_n C.1 C.2.1 dX0_rightSigns_53 rfl (lv_at hl 4 rfl) ?_
        refine lv_iload_n C.1 C.2.1 dX0_rightSigns_54 rfl (lv_at hl 5 rfl) ?_
        refine lv_iconst (v := 2) C.1 C.2.1 dX0_rightSigns_55 (by decide) ?_
        refine lv_iadd C.1 C.2.1 dX0_rightSigns_56 ?_
        refine x_Vi (rest := []) C hW (c_X2_get l g hb1 h) km_X2_get (oShf hb1) rfl qm_X0_65 ⟨rfl, rfl⟩ (by decide) rfl hl.1 rfl (Nat.le_of_ble_eq_true rfl) ⟨Nat.zero_le _, Nat.zero_le _⟩ dX0_rightSigns_57 (fun r8 u8 H locs h hW => ?_)
        refine lv_bipush (v := 6) C.1 C.2.1 dX0_rightSigns_60 (by decide) ?_
        refine x_Si (rest := []) C hW (c_X0_figure l g h) km_X0_figure qm_X0_71 ⟨rfl, rfl⟩ (by decide) rfl hl.1 rfl (Nat.le_of_ble_eq_true rfl) ⟨Nat.zero_le _, Nat.zero_le _⟩ dX0_rightSigns_62 (fun r9 u9 H locs h hW => ?_)
        refine lv_istore (lv' := [(6, .int r9), (5, .int r6), (4, .int r2), (0, .ref (gad g b0)), (1, .ref (gad g b1)), (2, .int p2), (3, .int p3)]) C.1 C.2.1 dX0_rightSigns_65 hl (by decide) rfl (fun ls hl => ?_)
        refine lv_iload C.1 C.2.1 dX0_rightSigns_67 (lv_at hl 0 rfl) ?_
        refine lv_bipush (v := (-9)) C.1 C.2.1 dX0_rightSigns_69 (by decide) ?_
        refine lv_icmp_eq (tgt := 87) C.1 C.2.1 dX0_rightSigns_71 (by decide) (fun c10 => ?_) (fun c10 => ?_)
        · have h := h.1 c10
          refine lv_iconst (v := 2) C.1 C.2.1 dX0_rightSigns_87 (by decide) ?_
          exact x_iret C hW h dX0_rightSigns_88
        · have h := h.2 c10
          refine lv_aload_n C.1 C.2.1 dX0_rightSigns_74 rfl (lv_at hl 3 rfl) ?_
          refine lv_iload C.1 C.2.1 dX0_rightSigns_75 (lv_at hl 1 rfl) ?_
          refine lv_iload C.1 C.2.1 dX0_rightSigns_77 (lv_at hl 0 rfl) ?_
          refine x_Vi (rest := []) C hW (c_X0_keyAt l g hb0 h) km_X0_keyAt (oLay hb0) rfl qm_X0_74 ⟨rfl, rfl⟩ (by decide) rfl hl.1 rfl (Nat.le_of_ble_eq_true rfl) ⟨Nat.zero_le _, Nat.zero_le _⟩ dX0_rightSigns_79 (fun r11 u11 H locs h hW => ?_)
          refine lv_bipush (v := (-9)) C.1 C.2.1 dX0_rightSigns_82 (by decide) ?_
          refine lv_icmp_eq (tgt := 89) C.1 C.2.1 dX0_rightSigns_84 (by decide) (fun c12 => ?_) (fun c12 => ?_)
          · have h := h.1 c12
            refine lv_aload_n C.1 C.2.1 dX0_rightSigns_89 rfl (lv_at hl 4 rfl) ?_
            refine lv_iload_n C.1 C.2.1 dX0_rightSigns_90 rfl (lv_at hl 5 rfl) ?_
            refine lv_iload_n C.1 C.2.1 dX0_rightSigns_91 rfl (lv_at hl 6 rfl) ?_
            refine lv_iconst (v := 3) C.1 C.2.1 dX0_rightSigns_92 (by decide) ?_
            refine lv_iadd C.1 C.2.1 dX0_rightSigns_93 ?_
            refine x_Vi (rest := []) C hW (c_X2_get l g hb1 h) km_X2_get (oShf hb1) rfl qm_X0_65 ⟨rfl, rfl⟩ (by decide) rfl hl.1 rfl (Nat.le_of_ble_eq_true rfl) ⟨Nat.zero_le _, Nat.zero_le _⟩ dX0_rightSigns_94 (fun r13 u13 H locs h hW => ?_)
            refine lv_bipush (v := 10) C.1 C.2.1 dX0_rightSigns_97 (by decide) ?_
            refine x_Si (rest := []) C hW (c_X0_figure l g h) km_X0_figure qm_X0_71 ⟨rfl, rfl⟩ (by decide) rfl hl.1 rfl (Nat.le_of_ble_eq_true rfl) ⟨Nat.zero_le _, Nat.zero_le _⟩ dX0_rightSigns_99 (fun r14 u14 H locs h hW => ?_)
            refine lv_istore (lv' := [(7, .int r14), (6, .int r9), (5, .int r6), (4, .int r2), (0, .ref (gad g b0)), (1, .ref (gad g b1)), (2, .int p2), (3, .int p3)]) C.1 C.2.1 dX0_rightSigns_102 hl (by decide) rfl (fun ls hl => ?_)
            refine lv_iload C.1 C.2.1 dX0_rightSigns_104 (lv_at hl 0 rfl) ?_
            refine lv_bipush (v := (-9)) C.1 C.2.1 dX0_rightSigns_106 (by decide) ?_
            refine lv_icmp_ne (tgt := 113) C.1 C.2.1 dX0_rightSigns_108 (by decide) (fun c15 => ?_) (fun c15 => ?_)
            · have h := h.1 c15
              refine lv_aload_n C.1 C.2.1 dX0_rightSigns_113 rfl (lv_at hl 4 rfl) ?_
              refine fg_X0_9 C hW hb0 dX0_rightSigns_114 ?_
              refine lv_aload_n C.1 C.2.1 dX0_rightSigns_117 rfl (lv_at hl 4 rfl) ?_
              refine fg_X0_24 C hW hb0 dX0_rightSigns_118 ?_
              refine lv_iload C.1 C.2.1 dX0_rightSigns_121 (lv_at hl 3 rfl) ?_
              obtain ⟨h16, h⟩ := h
              refine x_iast C hW (gLay1 hb0) h16 dX0_rightSigns_123 (fun u17 H locs e17 hW => ?_)
              have h := nxt_get h e17
              refine lv_aload_n C.1 C.2.1 dX0_rightSigns_124 rfl (lv_at hl 4 rfl) ?_
              refine fg_X0_15 C hW hb0 dX0_rightSigns_125 ?_
              refine lv_aload_n C.1 C.2.1 dX0_rightSigns_128 rfl (lv_at hl 4 rfl) ?_
              refine fg_X0_24 C hW hb0 dX0_rightSigns_129 ?_
              refine lv_iload C.1 C.2.1 dX0_rightSigns_132 (lv_at hl 2 rfl) ?_
              obtain ⟨h18, h⟩ := h
              refine x_iast C hW (gLay2 hb0) h18 dX0_rightSigns_134 (fun u19 H locs e19 hW => ?_)
              have h := nxt_get h e19
              refine lv_aload_n C.1 C.2.1 dX0_rightSigns_135 rfl (lv_at hl 4 rfl) ?_
              refine fg_X0_18 C hW hb0 dX0_rightSigns_136 ?_
              refine lv_aload_n C.1 C.2.1 dX0_rightSigns_139 rfl (lv_at hl 4 rfl) ?_
              refine fg_X0_24 C hW hb0 dX0_rightSigns_140 ?_
              refine lv_iload C.1 C.2.1 dX0_rightSigns_143 (lv_at hl 1 rfl) ?_
              obtain ⟨h20, h⟩ := h
              refine x_iast C hW (gLay3 hb0) h20 dX0_rightSigns_145 (fun u21 H locs e21 hW => ?_)
              have h := nxt_get h e21
              refine lv_aload_n C.1 C.2.1 dX0_rightSigns_146 rfl (lv_at hl 4 rfl) ?_
              refine fg_X0_21 C hW hb0 dX0_rightSigns_147 ?_
              refine lv_aload_n C.1 C.2.1 dX0_rightSigns_150 rfl (lv_at hl 4 rfl) ?_
              refine fg_X0_24 C hW hb0 dX0_rightSigns_151 ?_
              refine lv_iload C.1 C.2.1 dX0_rightSigns_154 (lv_at hl 0 rfl) ?_
              obtain ⟨h22, h⟩ := h
              refine x_iast C hW (gLay4 hb0) h22 dX0_rightSigns_156 (fun u23 H locs e23 hW => ?_)
              have h := nxt_get h e23
              refine lv_iconst (v := 4) C.1 C.2.1 dX0_rightSigns_157 (by decide) ?_
              exact x_iret C hW h dX0_rightSigns_158
            · have h := h.2 c15
              refine lv_iconst (v := 3) C.1 C.2.1 dX0_rightSigns_111 (by decide) ?_
              exact x_iret C hW h dX0_rightSigns_112
          · have h := h.2 c12
            refine lv_iconst (v := 2) C.1 C.2.1 dX0_rightSigns_87 (by decide) ?_
            exact x_iret C hW h dX0_rightSigns_88
      · have h := h.2 c7
        refine lv_iconst (v := 1) C.1 C.2.1 dX0_rightSigns_50 (by decide) ?_
        exact x_iret C hW h dX0_rightSigns_51
    · have h := h.2 c4
      refine lv_iconst (v := 0) C.1 C.2.1 dX0_rightSigns_27 (by decide) ?_
      exact x_iret C hW h dX0_rightSigns_28
