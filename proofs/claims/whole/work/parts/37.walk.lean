set_option maxRecDepth 100000 in
theorem k_X5_row_B34 {p : Program} {l : Launch} {e : Env} {s : State} {m : MethodId} {args : Array Value} {below : List Frame} {meth : Method} {c : Code} {g : GG} {A : Nat → Prop} {p1 : Int32} {p2 : Int32} {Q : Int32 → St → Prop} (C : MC p s m args meth c cX5_row 4 RX5 (some .int) g A) {K34 : Int32 → St → Prop} (hK34 : ∀ (v3 : Int32) (u : St) (H : Heap) (locs : List Loc) (ls : Array Slot), K34 v3 u → WD g A s u H locs → lv_has ls 4 [(0, .ref (gad g 39)), (1, .int p1), (2, .int p2), (3, .int v3)] → W p l e rm_X5_row s m args below meth c H locs 0 0 (MQ below (va_Qi Q (WQ g) A) args s 0 0 A) (F0 m 34 ls [])) : ∀ (v3 : Int32) (u : St) (H : Heap) (locs : List Loc) (ls : Array Slot), wp_X5_row_B34 p1 p2 Q K34 v3 u → WD g A s u H locs → lv_has ls 4 [(0, .ref (gad g 39)), (1, .int p1), (2, .int p2), (3, .int v3)] → W p l e rm_X5_row s m args below meth c H locs 0 0 (MQ below (va_Qi Q (WQ g) A) args s 0 0 A) (F0 m 34 ls []) := by
  intro v3 u H locs ls h hW hl
  refine lv_iload_n C.1 C.2.1 dX5_row_34 rfl (lv_at hl 3 rfl) ?_
  refine lv_bipush (v := 40) C.1 C.2.1 dX5_row_35 (by decide) ?_
  refine lv_icmp_ge (tgt := 58) C.1 C.2.1 dX5_row_37 (by decide) (fun c8 => ?_) (fun c8 => ?_)
  · have h := h.1 c8
    refine lv_iload_n C.1 C.2.1 dX5_row_58 rfl (lv_at hl 2 rfl) ?_
    exact x_iret C hW h dX5_row_59
  · have h := h.2 c8
    refine lv_aload_n C.1 C.2.1 dX5_row_40 rfl (lv_at hl 0 rfl) ?_
    refine fg_X5_20 C hW dX5_row_41 ?_
    refine lv_bipush (v := 40) C.1 C.2.1 dX5_row_44 (by decide) ?_
    refine lv_iload_n C.1 C.2.1 dX5_row_46 rfl (lv_at hl 1 rfl) ?_
    refine lv_imul C.1 C.2.1 dX5_row_47 ?_
    refine lv_iload_n C.1 C.2.1 dX5_row_48 rfl (lv_at hl 3 rfl) ?_
    refine lv_iadd C.1 C.2.1 dX5_row_49 ?_
    refine lv_iconst (v := 0) C.1 C.2.1 dX5_row_50 (by decide) ?_
    obtain ⟨h9, h⟩ := h
    refine x_iast C hW g_42 h9 dX5_row_51 (fun u10 H locs e10 hW => ?_)
    have h := nxt_get h e10
    refine lv_iinc (v := (v3 + 1)) (lv' := [(3, .int (v3 + 1)), (0, .ref (gad g 39)), (1, .int p1), (2, .int p2)]) C.1 C.2.1 dX5_row_52 hl (k := 3) rfl rfl (by decide) rfl (fun ls hl => ?_)
    refine lv_goto (tgt := 34) C.1 C.2.1 dX5_row_55 (by decide) ?_
    exact hK34 (v3 + 1) u10 _ _ _ h hW (lv_sub hl [1, 2, 3, 0] rfl)
theorem k_X5_row_L34 {p : Program} {l : Launch} {e : Env} {s : State} {m : MethodId} {args : Array Value} {below : List Frame} {meth : Method} {c : Code} {g : GG} {A : Nat → Prop} {p1 : Int32} {p2 : Int32} {Q : Int32 → St → Prop} (C : MC p s m args meth c cX5_row 4 RX5 (some .int) g A) : ∀ (n : Nat), ∀ (v3 : Int32) (u : St) (H : Heap) (locs : List Loc) (ls : Array Slot), wp_X5_row_L34 p1 p2 Q n v3 u → WD g A s u H locs → lv_has ls 4 [(0, .ref (gad g 39)), (1, .int p1), (2, .int p2), (3, .int v3)] → W p l e rm_X5_row s m args below meth c H locs 0 0 (MQ below (va_Qi Q (WQ g) A) args s 0 0 A) (F0 m 34 ls []) := by
  intro n
  induction n with
  | zero => intro v3 u H locs ls h; exact False.elim h
  | succ n ih => exact k_X5_row_B34 (p1 := p1) (p2 := p2) C ih
set_option maxRecDepth 100000 in
theorem c_X5_row (l : Launch) (g : GG) {p1 : Int32} {p2 : Int32} {u : St} {Q : Int32 → St → Prop} (h : wp_X5_row p1 p2 u Q) : CI l yX5_row cX5_row 4 (some .int) rm_X5_row g [.ref (gad g 39), .int p1, .int p2] u Q := by
  refine ent (own := RX5) (Qc := va_Qi Q (WQ g)) (by decide) rfl (Nat.le_of_ble_eq_true rfl) ?_
  intro p e s m below meth c A ls C hl hW
  have hl : lv_has ls 4 [(0, .ref (gad g 39)), (1, .int p1), (2, .int p2)] := hl
  unfold wp_X5_row at h
  refine lv_iload_n C.1 C.2.1 dX5_row_0 rfl (lv_at hl 1 rfl) ?_
  refine x_Si (rest := []) C hW (c_X5_isRow l g h) km_X5_isRow qm_X5_92 ⟨rfl, rfl⟩ (by decide) rfl hl.1 rfl (Nat.le_of_ble_eq_true rfl) ⟨Nat.zero_le _, Nat.zero_le _⟩ dX5_row_1 (fun r1 u1 H locs h hW => ?_)
  refine lv_if_eq (tgt := 13) C.1 C.2.1 dX5_row_4 (by decide) (fun c2 => ?_) (fun c2 => ?_)
  · have h := h.1 c2
    refine lv_iconst (v := (-1)) C.1 C.2.1 dX5_row_13 (by decide) ?_
    exact x_iret C hW h dX5_row_14
  · have h := h.2 c2
    refine lv_iload_n C.1 C.2.1 dX5_row_7 rfl (lv_at hl 2 rfl) ?_
    refine lv_bipush (v := 40) C.1 C.2.1 dX5_row_8 (by decide) ?_
    refine lv_icmp_le (tgt := 15) C.1 C.2.1 dX5_row_10 (by decide) (fun c3 => ?_) (fun c3 => ?_)
    · have h := h.1 c3
      refine lv_iload_n C.1 C.2.1 dX5_row_15 rfl (lv_at hl 2 rfl) ?_
      refine lv_if_ge (tgt := 25) C.1 C.2.1 dX5_row_16 (by decide) (fun c4 => ?_) (fun c4 => ?_)
      · have h := h.1 c4
        refine lv_aload_n C.1 C.2.1 dX5_row_25 rfl (lv_at hl 0 rfl) ?_
        refine fg_X5_17 C hW dX5_row_26 ?_
        refine lv_iload_n C.1 C.2.1 dX5_row_29 rfl (lv_at hl 1 rfl) ?_
        refine lv_iload_n C.1 C.2.1 dX5_row_30 rfl (lv_at hl 2 rfl) ?_
        obtain ⟨h5, h⟩ := h
        refine x_iast C hW g_41 h5 dX5_row_31 (fun u6 H locs e6 hW => ?_)
        have h := nxt_get h e6
        refine lv_iconst (v := 0) C.1 C.2.1 dX5_row_32 (by decide) ?_
        refine lv_istore_n (lv' := [(3, .int 0), (0, .ref (gad g 39)), (1, .int p1), (2, .int p2)]) C.1 C.2.1 dX5_row_33 rfl hl (by decide) rfl (fun ls hl => ?_)
        obtain ⟨n, h⟩ := h
        exact k_X5_row_L34 C n 0 u6 _ _ _ h hW (lv_sub hl [1, 2, 3, 0] rfl)
      · have h := h.2 c4
        refine lv_aload_n C.1 C.2.1 dX5_row_19 rfl (lv_at hl 0 rfl) ?_
        refine lv_iconst (v := 5) C.1 C.2.1 dX5_row_20 (by decide) ?_
        refine x_Vi (rest := []) C hW (c_X5_find l g h) km_X5_find oModel rfl qm_X5_96 ⟨rfl, rfl⟩ (by decide) rfl hl.1 rfl (Nat.le_of_ble_eq_true rfl) ⟨Nat.zero_le _, Nat.zero_le _⟩ dX5_row_21 (fun r7 u7 H locs h hW => ?_)
        exact x_iret C hW h dX5_row_24
    · have h := h.2 c3
      refine lv_iconst (v := (-1)) C.1 C.2.1 dX5_row_13 (by decide) ?_
      exact x_iret C hW h dX5_row_14
set_option maxRecDepth 100000 in
theorem c_X5_scan (l : Launch) (g : GG) {u : St} {Q : Int32 → St → Prop} (h : wp_X5_scan u Q) : CI l yX5_scan cX5_scan 2 (some .int) rm_X5_scan g [.ref (gad g 39)] u Q := by
  refine ent (own := RX5) (Qc := va_Qi Q (WQ g)) (by decide) rfl (Nat.le_of_ble_eq_true rfl) ?_
  intro p e s m below meth c A ls C hl hW
  have hl : lv_has ls 2 [(0, .ref (gad g 39))] := hl
  unfold wp_X5_scan at h
  refine lv_aload_n C.1 C.2.1 dX5_scan_0 rfl (lv_at hl 0 rfl) ?_
  refine fg_X5_116 C hW dX5_scan_1 ?_
  refine lv_if_ne (tgt := 10) C.1 C.2.1 dX5_scan_4 (by decide) (fun c1 => ?_) (fun c1 => ?_)
  · have h := h.1 c1
    refine lv_aload_n C.1 C.2.1 dX5_scan_10 rfl (lv_at hl 0 rfl) ?_
    refine fg_X5_119 C hW dX5_scan_11 ?_
    refine lv_bipush (v := 40) C.1 C.2.1 dX5_scan_14 (by decide) ?_
    refine lv_icmp_ne (tgt := 22) C.1 C.2.1 dX5_scan_16 (by decide) (fun c2 => ?_) (fun c2 => ?_)
    · have h := h.1 c2
      refine lv_aload_n C.1 C.2.1 dX5_scan_22 rfl (lv_at hl 0 rfl) ?_
      refine x_Vi (rest := []) C hW (c_X5_toldNow l g h) km_X5_toldNow oModel rfl qm_X5_146 ⟨rfl, rfl⟩ (by decide) rfl hl.1 rfl (Nat.le_of_ble_eq_true rfl) ⟨Nat.zero_le _, Nat.zero_le _⟩ dX5_scan_23 (fun r3 u3 H locs h hW => ?_)
      refine x_Si (rest := []) C hW (c_X5_bitsOf l g h) km_X5_bitsOf qm_X5_156 ⟨rfl, rfl⟩ (by decide) rfl hl.1 rfl (Nat.le_of_ble_eq_true rfl) ⟨Nat.zero_le _, Nat.zero_le _⟩ dX5_scan_26 (fun r4 u4 H locs h hW => ?_)
      refine lv_istore_n (lv' := [(1, .int r4), (0, .ref (gad g 39))]) C.1 C.2.1 dX5_scan_29 rfl hl (by decide) rfl (fun ls hl => ?_)
      refine lv_aload_n C.1 C.2.1 dX5_scan_30 rfl (lv_at hl 1 rfl) ?_
      refine x_Vv (rest := []) C hW (c_X5_begin l g h) km_X5_begin oModel rfl qm_X5_165 ⟨rfl, rfl⟩ (by decide) rfl hl.1 rfl (Nat.le_of_ble_eq_true rfl) ⟨Nat.zero_le _, Nat.zero_le _⟩ dX5_scan_31 (fun u5 H locs h hW => ?_)
      refine lv_aload_n C.1 C.2.1 dX5_scan_34 rfl (lv_at hl 1 rfl) ?_
      refine lv_aload_n C.1 C.2.1 dX5_scan_35 rfl (lv_at hl 1 rfl) ?_
      refine fg_X5_45 C hW dX5_scan_36 ?_
      refine lv_bipush (v := 10) C.1 C.2.1 dX5_scan_39 (by decide) ?_
      refine lv_aload_n C.1 C.2.1 dX5_scan_41 rfl (lv_at hl 1 rfl) ?_
      refine fg_X5_119 C hW dX5_scan_42 ?_
      refine lv_imul C.1 C.2.1 dX5_scan_45 ?_
      refine x_Vv (rest := []) C hW (c_X5_passOn l g (Or.inl rfl) h) km_X5_passOn oModel rfl qm_X5_172 ⟨rfl, rfl⟩ (by decide) rfl hl.1 rfl (Nat.le_of_ble_eq_true rfl) ⟨Nat.zero_le _, Nat.zero_le _⟩ dX5_scan_46 (fun u6 H locs h hW => ?_)
      refine lv_iload_n C.1 C.2.1 dX5_scan_49 rfl (lv_at hl 0 rfl) ?_
      exact x_iret C hW h dX5_scan_50
    · have h := h.2 c2
      refine lv_bipush (v := (-2)) C.1 C.2.1 dX5_scan_19 (by decide) ?_
      exact x_iret C hW h dX5_scan_21
  · have h := h.2 c1
    refine lv_bipush (v := (-4)) C.1 C.2.1 dX5_scan_7 (by decide) ?_
    exact x_iret C hW h dX5_scan_9
set_option maxRecDepth 100000 in
theorem c_X5_tear (l : Launch) (g : GG) {p1 : Int32} {u : St} {Q : Int32 → St → Prop} (h : wp_X5_tear p1 u Q) : CI l yX5_tear cX5_tear 2 (some .int) rm_X5_tear g [.ref (gad g 39), .int p1] u Q := by
  refine ent (own := RX5) (Qc := va_Qi Q (WQ g)) (by decide) rfl (Nat.le_of_ble_eq_true rfl) ?_
  intro p e s m below meth c A ls C hl hW
  have hl : lv_has ls 2 [(0, .ref (gad g 39)), (1, .int p1)] := hl
  unfold wp_X5_tear at h
  refine lv_iload_n C.1 C.2.1 dX5_tear_0 rfl (lv_at hl 1 rfl) ?_
  refine x_Si (rest := []) C hW (c_X5_isRow l g h) km_X5_isRow qm_X5_92 ⟨rfl, rfl⟩ (by decide) rfl hl.1 rfl (Nat.le_of_ble_eq_true rfl) ⟨Nat.zero_le _, Nat.zero_le _⟩ dX5_tear_1 (fun r1 u1 H locs h hW => ?_)
  refine lv_if_ne (tgt := 9) C.1 C.2.1 dX5_tear_4 (by decide) (fun c2 => ?_) (fun c2 => ?_)
  · have h := h.1 c2
    refine lv_aload_n C.1 C.2.1 dX5_tear_9 rfl (lv_at hl 0 rfl) ?_
    refine fg_X5_17 C hW dX5_tear_10 ?_
    refine lv_iload_n C.1 C.2.1 dX5_tear_13 rfl (lv_at hl 1 rfl) ?_
    obtain ⟨h3, h⟩ := h
    refine x_iald C hW g_41 h3 dX5_tear_14 ?_
    refine lv_if_ge (tgt := 24) C.1 C.2.1 dX5_tear_15 (by decide) (fun c4 => ?_) (fun c4 => ?_)
    · have h := h.1 c4
      refine lv_aload_n C.1 C.2.1 dX5_tear_24 rfl (lv_at hl 0 rfl) ?_
      refine fg_X5_17 C hW dX5_tear_25 ?_
      refine lv_iload_n C.1 C.2.1 dX5_tear_28 rfl (lv_at hl 1 rfl) ?_
      refine lv_iconst (v := (-1)) C.1 C.2.1 dX5_tear_29 (by decide) ?_
      obtain ⟨h5, h⟩ := h
      refine x_iast C hW g_41 h5 dX5_tear_30 (fun u6 H locs e6 hW => ?_)
      have h := nxt_get h e6
      refine lv_iconst (v := 1) C.1 C.2.1 dX5_tear_31 (by decide) ?_
      exact x_iret C hW h dX5_tear_32
    · have h := h.2 c4
      refine lv_aload_n C.1 C.2.1 dX5_tear_18 rfl (lv_at hl 0 rfl) ?_
      refine lv_iconst (v := 1) C.1 C.2.1 dX5_tear_19 (by decide) ?_
      refine x_Vi (rest := []) C hW (c_X5_find l g h) km_X5_find oModel rfl qm_X5_96 ⟨rfl, rfl⟩ (by decide) rfl hl.1 rfl (Nat.le_of_ble_eq_true rfl) ⟨Nat.zero_le _, Nat.zero_le _⟩ dX5_tear_20 (fun r7 u7 H locs h hW => ?_)
      exact x_iret C hW h dX5_tear_23
  · have h := h.2 c2
    refine lv_iconst (v := (-1)) C.1 C.2.1 dX5_tear_7 (by decide) ?_
    exact x_iret C hW h dX5_tear_8
set_option maxRecDepth 100000 in
theorem k_X5_test_J241 {p : Program} {l : Launch} {e : Env} {s : State} {m : MethodId} {args : Array Value} {below : List Frame} {meth : Method} {c : Code} {g : GG} {A : Nat → Prop} {p1 : Int32} {p2 : Int32} {Q : Int32 → St → Prop} (C : MC p s m args meth c cX5_test 12 RX5 (some .int) g A) : ∀ (v5 : Int32) (v6 : Int32) (u : St) (H : Heap) (locs : List Loc) (ls : Array Slot), wp_X5_test_J241 p1 p2 Q v5 v6 u → WD g A s u H locs → lv_has ls 12 [(0, .ref (gad g 39)), (5, .int v5), (6, .int v6)] → W p l e rm_X5_test s m args below meth c H locs 0 0 (MQ below (va_Qi Q (WQ g) A) args s 0 0 A) (F0 m 241 ls []) := by
  intro v5 v6 u H locs ls h hW hl
  refine lv_iload C.1 C.2.1 dX5_test_241 (lv_at hl 1 rfl) ?_
  refine lv_bipush (v := (-9)) C.1 C.2.1 dX5_test_243 (by decide) ?_
  refine lv_icmp_eq (tgt := 255) C.1 C.2.1 dX5_test_245 (by decide) (fun c29 => ?_) (fun c29 => ?_)
  · have h := h.1 c29
    refine lv_iload C.1 C.2.1 dX5_test_255 (lv_at hl 1 rfl) ?_
    exact x_iret C hW h dX5_test_257
  · have h := h.2 c29
    refine lv_aload_n C.1 C.2.1 dX5_test_248 rfl (lv_at hl 0 rfl) ?_
    refine lv_iload C.1 C.2.1 dX5_test_249 (lv_at hl 2 rfl) ?_
    refine x_Vi (rest := []) C hW (c_X5_tellAsked l g h) km_X5_tellAsked oModel rfl qm_X5_100 ⟨rfl, rfl⟩ (by decide) rfl hl.1 rfl (Nat.le_of_ble_eq_true rfl) ⟨Nat.zero_le _, Nat.zero_le _⟩ dX5_test_251 (fun r30 u30 H locs h hW => ?_)
    refine lv_pop C.1 C.2.1 dX5_test_254 rfl ?_
    refine lv_iload C.1 C.2.1 dX5_test_255 (lv_at hl 1 rfl) ?_
    exact x_iret C hW h dX5_test_257
set_option maxRecDepth 100000 in
theorem k_X5_test_J217 {p : Program} {l : Launch} {e : Env} {s : State} {m : MethodId} {args : Array Value} {below : List Frame} {meth : Method} {c : Code} {g : GG} {A : Nat → Prop} {p1 : Int32} {p2 : Int32} {Q : Int32 → St → Prop} (C : MC p s m args meth c cX5_test 12 RX5 (some .int) g A) {K48 : Int32 → Int32 → Int32 → Int32 → St → Prop} (hK48 : ∀ (v4 : Int32) (v5 : Int32) (v6 : Int32) (v7 : Int32) (u : St) (H : Heap) (locs : List Loc) (ls : Array Slot), K48 v4 v5 v6 v7 u → WD g A s u H locs → lv_has ls 12 [(0, .ref (gad g 39)), (1, .int p1), (4, .int v4), (5, .int v5), (6, .int v6), (7, .int v7)] → W p l e rm_X5_test s m args below meth c H locs 0 0 (MQ below (va_Qi Q (WQ g) A) args s 0 0 A) (F0 m 48 ls [])) : ∀ (v4 : Int32) (v6 : Int32) (v7 : Int32) (v8 : Int32) (t0 : Int32) (u : St) (H : Heap) (locs : List Loc) (ls : Array Slot), wp_X5_test_J217 p1 p2 Q K48 v4 v6 v7 v8 t0 u → WD g A s u H locs → lv_has ls 12 [(0, .ref (gad g 39)), (1, .int p1), (4, .int v4), (6, .int v6), (7, .int v7), (8, .int v8)] → W p l e rm_X5_test s m args below meth c H locs 0 0 (MQ below (va_Qi Q (WQ g) A) args s 0 0 A) (F0 m 217 ls [.int t0]) := by
  intro v4 v6 v7 v8 t0 u H locs ls h hW hl
  refine lv_istore (lv' := [(5, .int t0), (0, .ref (gad g 39)), (1, .int p1), (4, .int v4), (6, .int v6), (7, .int v7), (8, .int v8)]) C.1 C.2.1 dX5_test_217 hl (by decide) rfl (fun ls hl => ?_)
  refine lv_iload C.1 C.2.1 dX5_test_219 (lv_at hl 6 rfl) ?_
  refine lv_iload C.1 C.2.1 dX5_test_221 (lv_at hl 4 rfl) ?_
  refine lv_icmp_ge (tgt := 231) C.1 C.2.1 dX5_test_223 (by decide) (fun c28 => ?_) (fun c28 => ?_)
  · have h := h.1 c28
    refine lv_iload C.1 C.2.1 dX5_test_231 (lv_at hl 4 rfl) ?_
    refine lv_istore (lv' := [(6, .int v6), (5, .int t0), (0, .ref (gad g 39)), (1, .int p1), (4, .int v4), (7, .int v7), (8, .int v8)]) C.1 C.2.1 dX5_test_233 hl (by decide) rfl (fun ls hl => ?_)
    refine lv_iinc (v := (v7 + 1)) (lv' := [(7, .int (v7 + 1)), (6, .int v6), (5, .int t0), (0, .ref (gad g 39)), (1, .int p1), (4, .int v4), (8, .int v8)]) C.1 C.2.1 dX5_test_235 hl (k := 5) rfl rfl (by decide) rfl (fun ls hl => ?_)
    refine lv_goto (tgt := 48) C.1 C.2.1 dX5_test_238 (by decide) ?_
    exact hK48 v4 t0 v6 (v7 + 1) u _ _ _ h hW (lv_sub hl [3, 4, 5, 2, 1, 0] rfl)
  · have h := h.2 c28
    refine lv_iload C.1 C.2.1 dX5_test_226 (lv_at hl 6 rfl) ?_
    refine lv_goto (tgt := 233) C.1 C.2.1 dX5_test_228 (by decide) ?_
    refine lv_istore (lv' := [(6, .int v8), (5, .int t0), (0, .ref (gad g 39)), (1, .int p1), (4, .int v4), (7, .int v7), (8, .int v8)]) C.1 C.2.1 dX5_test_233 hl (by decide) rfl (fun ls hl => ?_)
    refine lv_iinc (v := (v7 + 1)) (lv' := [(7, .int (v7 + 1)), (6, .int v8), (5, .int t0), (0, .ref (gad g 39)), (1, .int p1), (4, .int v4), (8, .int v8)]) C.1 C.2.1 dX5_test_235 hl (k := 5) rfl rfl (by decide) rfl (fun ls hl => ?_)
    refine lv_goto (tgt := 48) C.1 C.2.1 dX5_test_238 (by decide) ?_
    exact hK48 v4 t0 v8 (v7 + 1) u _ _ _ h hW (lv_sub hl [3, 4, 5, 2, 1, 0] rfl)
set_option maxRecDepth 100000 in
theorem k_X5_test_J172 {p : Program} {l : Launch} {e : Env} {s : State} {m : MethodId} {args : Array Value} {below : List Frame} {meth : Method} {c : Code} {g : GG} {A : Nat → Prop} {p1 : Int32} {p2 : Int32} {Q : Int32 → St → Prop} (C : MC p s m args meth c cX5_test 12 RX5 (some .int) g A) {K48 : Int32 → Int32 → Int32 → Int32 → St → Prop} (hK48 : ∀ (v4 : Int32) (v5 : Int32) (v6 : Int32) (v7 : Int32) (u : St) (H : Heap) (locs : List Loc) (ls : Array Slot), K48 v4 v5 v6 v7 u → WD g A s u H locs → lv_has ls 12 [(0, .ref (gad g 39)), (1, .int p1), (4, .int v4), (5, .int v5), (6, .int v6), (7, .int v7)] → W p l e rm_X5_test s m args below meth c H locs 0 0 (MQ below (va_Qi Q (WQ g) A) args s 0 0 A) (F0 m 48 ls [])) {K110 : Int32 → Int32 → Int32 → Int32 → Int32 → Int32 → St → Prop} (hK110 : ∀ (v4 : Int32) (v5 : Int32) (v6 : Int32) (v7 : Int32) (v8 : Int32) (v9 : Int32) (u : St) (H : Heap) (locs : List Loc) (ls : Array Slot), K110 v4 v5 v6 v7 v8 v9 u → WD g A s u H locs → lv_has ls 12 [(0, .ref (gad g 39)), (1, .int p1), (4, .int v4), (5, .int v5), (6, .int v6), (7, .int v7), (8, .int v8), (9, .int v9)] → W p l e rm_X5_test s m args below meth c H locs 0 0 (MQ below (va_Qi Q (WQ g) A) args s 0 0 A) (F0 m 110 ls [])) {K122 : Int32 → Int32 → Int32 → Int32 → Int32 → Int32 → Int32 → Int32 → St → Prop} (hK122 : ∀ (v4 : Int32) (v5 : Int32) (v6 : Int32) (v7 : Int32) (v8 : Int32) (v9 : Int32) (v10 : Int32) (v11 : Int32) (u : St) (H : Heap) (locs : List Loc) (ls : Array Slot), K122 v4 v5 v6 v7 v8 v9 v10 v11 u → WD g A s u H locs → lv_has ls 12 [(0, .ref (gad g 39)), (1, .int p1), (4, .int v4), (5, .int v5), (6, .int v6), (7, .int v7), (8, .int v8), (9, .int v9), (10, .int v10), (11, .int v11)] → W p l e rm_X5_test s m args below meth c H locs 0 0 (MQ below (va_Qi Q (WQ g) A) args s 0 0 A) (F0 m 122 ls [])) : ∀ (v4 : Int32) (v5 : Int32) (v6 : Int32) (v7 : Int32) (v8 : Int32) (v9 : Int32) (v11 : Int32) (t0 : Int32) (t1 : Int32) (u : St) (H : Heap) (locs : List Loc) (ls : Array Slot), wp_X5_test_J172 p1 p2 Q K48 K110 K122 v4 v5 v6 v7 v8 v9 v11 t0 t1 u → WD g A s u H locs → lv_has ls 12 [(0, .ref (gad g 39)), (1, .int p1), (4, .int v4), (5, .int v5), (6, .int v6), (7, .int v7), (8, .int v8), (9, .int v9), (11, .int v11)] → W p l e rm_X5_test s m args below meth c H locs 0 0 (MQ below (va_Qi Q (WQ g) A) args s 0 0 A) (F0 m 172 ls [.int t0, .int t1]) := by
  intro v4 v5 v6 v7 v8 v9 v11 t0 t1 u H locs ls h hW hl
  refine lv_iadd C.1 C.2.1 dX5_test_172 ?_
  refine lv_istore (lv' := [(10, .int (t1 + t0)), (0, .ref (gad g 39)), (1, .int p1), (4, .int v4), (5, .int v5), (6, .int v6), (7, .int v7), (8, .int v8), (9, .int v9), (11, .int v11)]) C.1 C.2.1 dX5_test_173 hl (by decide) rfl (fun ls hl => ?_)
  refine lv_iinc (v := (v11 + 1)) (lv' := [(11, .int (v11 + 1)), (10, .int (t1 + t0)), (0, .ref (gad g 39)), (1, .int p1), (4, .int v4), (5, .int v5), (6, .int v6), (7, .int v7), (8, .int v8), (9, .int v9)]) C.1 C.2.1 dX5_test_175 hl (k := 9) rfl rfl (by decide) rfl (fun ls hl => ?_)
  refine lv_goto (tgt := 122) C.1 C.2.1 dX5_test_178 (by decide) ?_
  exact hK122 v4 v5 v6 v7 v8 v9 (t1 + t0) (v11 + 1) u _ _ _ h hW (lv_sub hl [2, 3, 4, 5, 6, 7, 8, 9, 1, 0] rfl)
set_option maxRecDepth 100000 in
theorem k_X5_test_J171 {p : Program} {l : Launch} {e : Env} {s : State} {m : MethodId} {args : Array Value} {below : List Frame} {meth : Method} {c : Code} {g : GG} {A : Nat → Prop} {p1 : Int32} {p2 : Int32} {Q : Int32 → St → Prop} (C : MC p s m args meth c cX5_test 12 RX5 (some .int) g A) {K48 : Int32 → Int32 → Int32 → Int32 → St → Prop} (hK48 : ∀ (v4 : Int32) (v5 : Int32) (v6 : Int32) (v7 : Int32) (u : St) (H : Heap) (locs : List Loc) (ls : Array Slot), K48 v4 v5 v6 v7 u → WD g A s u H locs → lv_has ls 12 [(0, .ref (gad g 39)), (1, .int p1), (4, .int v4), (5, .int v5), (6, .int v6), (7, .int v7)] → W p l e rm_X5_test s m args below meth c H locs 0 0 (MQ below (va_Qi Q (WQ g) A) args s 0 0 A) (F0 m 48 ls [])) {K110 : Int32 → Int32 → Int32 → Int32 → Int32 → Int32 → St → Prop} (hK110 : ∀ (v4 : Int32) (v5 : Int32) (v6 : Int32) (v7 : Int32) (v8 : Int32) (v9 : Int32) (u : St) (H : Heap) (locs : List Loc) (ls : Array Slot), K110 v4 v5 v6 v7 v8 v9 u → WD g A s u H locs → lv_has ls 12 [(0, .ref (gad g 39)), (1, .int p1), (4, .int v4), (5, .int v5), (6, .int v6), (7, .int v7), (8, .int v8), (9, .int v9)] → W p l e rm_X5_test s m args below meth c H locs 0 0 (MQ below (va_Qi Q (WQ g) A) args s 0 0 A) (F0 m 110 ls [])) {K122 : Int32 → Int32 → Int32 → Int32 → Int32 → Int32 → Int32 → Int32 → St → Prop} (hK122 : ∀ (v4 : Int32) (v5 : Int32) (v6 : Int32) (v7 : Int32) (v8 : Int32) (v9 : Int32) (v10 : Int32) (v11 : Int32) (u : St) (H : Heap) (locs : List Loc) (ls : Array Slot), K122 v4 v5 v6 v7 v8 v9 v10 v11 u → WD g A s u H locs → lv_has ls 12 [(0, .ref (gad g 39)), (1, .int p1), (4, .int v4), (5, .int v5), (6, .int v6), (7, .int v7), (8, .int v8), (9, .int v9), (10, .int v10), (11, .int v11)] → W p l e rm_X5_test s m args below meth c H locs 0 0 (MQ below (va_Qi Q (WQ g) A) args s 0 0 A) (F0 m 122 ls [])) : ∀ (v4 : Int32) (v5 : Int32) (v6 : Int32) (v7 : Int32) (v8 : Int32) (v9 : Int32) (v11 : Int32) (t0 : Int32) (u : St) (H : Heap) (locs : List Loc) (ls : Array Slot), wp_X5_test_J171 p1 p2 Q K48 K110 K122 v4 v5 v6 v7 v8 v9 v11 t0 u → WD g A s u H locs → lv_has ls 12 [(0, .ref (gad g 39)), (1, .int p1), (4, .int v4), (5, .int v5), (6, .int v6), (7, .int v7), (8, .int v8), (9, .int v9), (11, .int v11)] → W p l e rm_X5_test s m args below meth c H locs 0 0 (MQ below (va_Qi Q (WQ g) A) args s 0 0 A) (F0 m 171 ls [.int t0]) := by
  intro v4 v5 v6 v7 v8 v9 v11 t0 u H locs ls h hW hl
  refine lv_iconst (v := 0) C.1 C.2.1 dX5_test_171 (by decide) ?_
  exact k_X5_test_J172 C hK48 hK110 hK122 v4 v5 v6 v7 v8 v9 v11 0 t0 u _ _ _ h hW hl
set_option maxRecDepth 100000 in
theorem k_X5_test_B122 {p : Program} {l : Launch} {e : Env} {s : State} {m : MethodId} {args : Array Value} {below : List Frame} {meth : Method} {c : Code} {g : GG} {A : Nat → Prop} {p1 : Int32} {p2 : Int32} {Q : Int32 → St → Prop} (C : MC p s m args meth c cX5_test 12 RX5 (some .int) g A) {K48 : Int32 → Int32 → Int32 → Int32 → St → Prop} (hK48 : ∀ (v4 : Int32) (v5 : Int32) (v6 : Int32) (v7 : Int32) (u : St) (H : Heap) (locs : List Loc) (ls : Array Slot), K48 v4 v5 v6 v7 u → WD g A s u H locs → lv_has ls 12 [(0, .ref (gad g 39)), (1, .int p1), (4, .int v4), (5, .int v5), (6, .int v6), (7, .int v7)] → W p l e rm_X5_test s m args below meth c H locs 0 0 (MQ below (va_Qi Q (WQ g) A) args s 0 0 A) (F0 m 48 ls [])) {K110 : Int32 → Int32 → Int32 → Int32 → Int32 → Int32 → St → Prop} (hK110 : ∀ (v4 : Int32) (v5 : Int32) (v6 : Int32) (v7 : Int32) (v8 : Int32) (v9 : Int32) (u : St) (H : Heap) (locs : List Loc) (ls : Array Slot), K110 v4 v5 v6 v7 v8 v9 u → WD g A s u H locs → lv_has ls 12 [(0, .ref (gad g 39)), (1, .int p1), (4, .int v4), (5, .int v5), (6, .int v6), (7, .int v7), (8, .int v8), (9, .int v9)] → W p l e rm_X5_test s m args below meth c H locs 0 0 (MQ below (va_Qi Q (WQ g) A) args s 0 0 A) (F0 m 110 ls [])) {K122 : Int32 → Int32 → Int32 → Int32 → Int32 → Int32 → Int32 → Int32 → St → Prop} (hK122 : ∀ (v4 : Int32) (v5 : Int32) (v6 : Int32) (v7 : Int32) (v8 : Int32) (v9 : Int32) (v10 : Int32) (v11 : Int32) (u : St) (H : Heap) (locs : List Loc) (ls : Array Slot), K122 v4 v5 v6 v7 v8 v9 v10 v11 u → WD g A s u H locs → lv_has ls 12 [(0, .ref (gad g 39)), (1, .int p1), (4, .int v4), (5, .int v5), (6, .int v6), (7, .int v7), (8, .int v8), (9, .int v9), (10, .int v10), (11, .int v11)] → W p l e rm_X5_test s m args below meth c H locs 0 0 (MQ below (va_Qi Q (WQ g) A) args s 0 0 A) (F0 m 122 ls [])) : ∀ (v4 : Int32) (v5 : Int32) (v6 : Int32) (v7 : Int32) (v8 : Int32) (v9 : Int32) (v10 : Int32) (v11 : Int32) (u : St) (H : Heap) (locs : List Loc) (ls : Array Slot), wp_X5_test_B122 p1 p2 Q K48 K110 K122 v4 v5 v6 v7 v8 v9 v10 v11 u → WD g A s u H locs → lv_has ls 12 [(0, .ref (gad g 39)), (1, .int p1), (4, .int v4), (5, .int v5), (6, .int v6), (7, .int v7), (8, .int v8), (9, .int v9), (10, .int v10), (11, .int v11)] → W p l e rm_X5_test s m args below meth c H locs 0 0 (MQ below (va_Qi Q (WQ g) A) args s 0 0 A) (F0 m 122 ls []) := by
  intro v4 v5 v6 v7 v8 v9 v10 v11 u H locs ls h hW hl
  refine lv_iload C.1 C.2.1 dX5_test_122 (lv_at hl 9 rfl) ?_
  refine lv_iconst (v := 5) C.1 C.2.1 dX5_test_124 (by decide) ?_
  refine lv_icmp_gt (tgt := 181) C.1 C.2.1 dX5_test_125 (by decide) (fun c19 => ?_) (fun c19 => ?_)
  · have h := h.1 c19
    refine lv_iload C.1 C.2.1 dX5_test_181 (lv_at hl 8 rfl) ?_
    refine lv_iload C.1 C.2.1 dX5_test_183 (lv_at hl 6 rfl) ?_
    refine lv_icmp_le (tgt := 193) C.1 C.2.1 dX5_test_185 (by decide) (fun c20 => ?_) (fun c20 => ?_)
    · have h := h.1 c20
      refine lv_iload C.1 C.2.1 dX5_test_193 (lv_at hl 6 rfl) ?_
      refine lv_istore (lv' := [(8, .int v8), (0, .ref (gad g 39)), (1, .int p1), (4, .int v4), (5, .int v5), (6, .int v6), (7, .int v7), (9, .int v9), (10, .int v10), (11, .int v11)]) C.1 C.2.1 dX5_test_195 hl (by decide) rfl (fun ls hl => ?_)
      refine lv_iinc (v := (v9 + 1)) (lv' := [(9, .int (v9 + 1)), (8, .int v8), (0, .ref (gad g 39)), (1, .int p1), (4, .int v4), (5, .int v5), (6, .int v6), (7, .int v7), (10, .int v10), (11, .int v11)]) C.1 C.2.1 dX5_test_197 hl (k := 7) rfl rfl (by decide) rfl (fun ls hl => ?_)
      refine lv_goto (tgt := 110) C.1 C.2.1 dX5_test_200 (by decide) ?_
      exact hK110 v4 v5 v6 v7 v8 (v9 + 1) u _ _ _ h hW (lv_sub hl [2, 3, 4, 5, 6, 7, 1, 0] rfl)
    · have h := h.2 c20
      refine lv_iload C.1 C.2.1 dX5_test_188 (lv_at hl 8 rfl) ?_
      refine lv_goto (tgt := 195) C.1 C.2.1 dX5_test_190 (by decide) ?_
      refine lv_istore (lv' := [(8, .int v10), (0, .ref (gad g 39)), (1, .int p1), (4, .int v4), (5, .int v5), (6, .int v6), (7, .int v7), (9, .int v9), (10, .int v10), (11, .int v11)]) C.1 C.2.1 dX5_test_195 hl (by decide) rfl (fun ls hl => ?_)
      refine lv_iinc (v := (v9 + 1)) (lv' := [(9, .int (v9 + 1)), (8, .int v10), (0, .ref (gad g 39)), (1, .int p1), (4, .int v4), (5, .int v5), (6, .int v6), (7, .int v7), (10, .int v10), (11, .int v11)]) C.1 C.2.1 dX5_test_197 hl (k := 7) rfl rfl (by decide) rfl (fun ls hl => ?_)
      refine lv_goto (tgt := 110) C.1 C.2.1 dX5_test_200 (by decide) ?_
      exact hK110 v4 v5 v6 v7 v10 (v9 + 1) u _ _ _ h hW (lv_sub hl [2, 3, 4, 5, 6, 7, 1, 0] rfl)
  · have h := h.2 c19
    refine lv_iload C.1 C.2.1 dX5_test_128 (lv_at hl 8 rfl) ?_
    refine lv_iload C.1 C.2.1 dX5_test_130 (lv_at hl 2 rfl) ?_
    refine lv_iload C.1 C.2.1 dX5_test_132 (lv_at hl 7 rfl) ?_
    refine x_Si (rest := [.int v10]) C hW (c_X5_has l g h) km_X5_has qm_X5_125 ⟨rfl, rfl⟩ (by decide) rfl hl.1 rfl (Nat.le_of_ble_eq_true rfl) ⟨Nat.zero_le _, Nat.zero_le _⟩ dX5_test_134 (fun r21 u21 H locs h hW => ?_)
    refine lv_if_eq (tgt := 171) C.1 C.2.1 dX5_test_137 (by decide) (fun c22 => ?_) (fun c22 => ?_)
    · have h := h.1 c22
      exact k_X5_test_J171 C hK48 hK110 hK122 v4 v5 v6 v7 v8 v9 v11 v10 u21 _ _ _ h hW (lv_sub hl [0, 1, 2, 3, 4, 5, 6, 7, 9] rfl)
    · have h := h.2 c22
      refine lv_iload C.1 C.2.1 dX5_test_140 (lv_at hl 2 rfl) ?_
      refine lv_iload C.1 C.2.1 dX5_test_142 (lv_at hl 9 rfl) ?_
      refine x_Si (rest := [.int v10]) C hW (c_X5_has l g h) km_X5_has qm_X5_125 ⟨rfl, rfl⟩ (by decide) rfl hl.1 rfl (Nat.le_of_ble_eq_true rfl) ⟨Nat.zero_le _, Nat.zero_le _⟩ dX5_test_144 (fun r23 u23 H locs h hW => ?_)
      refine lv_if_eq (tgt := 171) C.1 C.2.1 dX5_test_147 (by decide) (fun c24 => ?_) (fun c24 => ?_)
      · have h := h.1 c24
        exact k_X5_test_J171 C hK48 hK110 hK122 v4 v5 v6 v7 v8 v9 v11 v10 u23 _ _ _ h hW (lv_sub hl [0, 1, 2, 3, 4, 5, 6, 7, 9] rfl)
      · have h := h.2 c24
        refine lv_aload_n C.1 C.2.1 dX5_test_150 rfl (lv_at hl 0 rfl) ?_
        refine fg_X5_72 C hW dX5_test_151 ?_
        refine lv_iload C.1 C.2.1 dX5_test_154 (lv_at hl 7 rfl) ?_
        obtain ⟨h25, h⟩ := h
        refine x_iald C hW g_59 h25 dX5_test_156 ?_
        refine lv_aload_n C.1 C.2.1 dX5_test_157 rfl (lv_at hl 0 rfl) ?_
        refine fg_X5_72 C hW dX5_test_158 ?_
        refine lv_iload C.1 C.2.1 dX5_test_161 (lv_at hl 9 rfl) ?_
        obtain ⟨h26, h⟩ := h
        refine x_iald C hW g_59 h26 dX5_test_163 ?_
        refine lv_icmp_ne (tgt := 171) C.1 C.2.1 dX5_test_164 (by decide) (fun c27 => ?_) (fun c27 => ?_)
        · have h := h.1 c27
          exact k_X5_test_J171 C hK48 hK110 hK122 v4 v5 v6 v7 v8 v9 v11 v10 u23 _ _ _ h hW (lv_sub hl [0, 1, 2, 3, 4, 5, 6, 7, 9] rfl)
        · have h := h.2 c27
          refine lv_iconst (v := 1) C.1 C.2.1 dX5_test_167 (by decide) ?_
          refine lv_goto (tgt := 172) C.1 C.2.1 dX5_test_168 (by decide) ?_
          exact k_X5_test_J172 C hK48 hK110 hK122 v4 v5 v6 v7 v8 v9 v11 1 v10 u23 _ _ _ h hW (lv_sub hl [0, 1, 2, 3, 4, 5, 6, 7, 9] rfl)
theorem k_X5_test_L122 {p : Program} {l : Launch} {e : Env} {s : State} {m : MethodId} {args : Array Value} {below : List Frame} {meth : Method} {c : Code} {g : GG} {A : Nat → Prop} {p1 : Int32} {p2 : Int32} {Q : Int32 → St → Prop} (C : MC p s m args meth c cX5_test 12 RX5 (some .int) g A) {K48 : Int32 → Int32 → Int32 → Int32 → St → Prop} (hK48 : ∀ (v4 : Int32) (v5 : Int32) (v6 : Int32) (v7 : Int32) (u : St) (H : Heap) (locs : List Loc) (ls : Array Slot), K48 v4 v5 v6 v7 u → WD g A s u H locs → lv_has ls 12 [(0, .ref (gad g 39)), (1, .int p1), (4, .int v4), (5, .int v5), (6, .int v6), (7, .int v7)] → W p l e rm_X5_test s m args below meth c H locs 0 0 (MQ below (va_Qi Q (WQ g) A) args s 0 0 A) (F0 m 48 ls [])) {K110 : Int32 → Int32 → Int32 → Int32 → Int32 → Int32 → St → Prop} (hK110 : ∀ (v4 : Int32) (v5 : Int32) (v6 : Int32) (v7 : Int32) (v8 : Int32) (v9 : Int32) (u : St) (H : Heap) (locs : List Loc) (ls : Array Slot), K110 v4 v5 v6 v7 v8 v9 u → WD g A s u H locs → lv_has ls 12 [(0, .ref (gad g 39)), (1, .int p1), (4, .int v4), (5, .int v5), (6, .int v6), (7, .int v7), (8, .int v8), (9, .int v9)] → W p l e rm_X5_test s m args below meth c H locs 0 0 (MQ below (va_Qi Q (WQ g) A) args s 0 0 A) (F0 m 110 ls [])) : ∀ (n : Nat), ∀ (v4 : Int32) (v5 : Int32) (v6 : Int32) (v7 : Int32) (v8 : Int32) (v9 : Int32) (v10 : Int32) (v11 : Int32) (u : St) (H : Heap) (locs : List Loc) (ls : Array Slot), wp_X5_test_L122 p1 p2 Q K48 K110 n v4 v5 v6 v7 v8 v9 v10 v11 u → WD g A s u H locs → lv_has ls 12 [(0, .ref (gad g 39)), (1, .int p1), (4, .int v4), (5, .int v5), (6, .int v6), (7, .int v7), (8, .int v8), (9, .int v9), (10, .int v10), (11, .int v11)] → W p l e rm_X5_test s m args below meth c H locs 0 0 (MQ below (va_Qi Q (WQ g) A) args s 0 0 A) (F0 m 122 ls []) := by
  intro n
  induction n with
  | zero => intro v4 v5 v6 v7 v8 v9 v10 v11 u H locs ls h; exact False.elim h
  | succ n ih => exact k_X5_test_B122 (p1 := p1) (p2 := p2) C hK48 hK110 ih
set_option maxRecDepth 100000 in
theorem k_X5_test_B110 {p : Program} {l : Launch} {e : Env} {s : State} {m : MethodId} {args : Array Value} {below : List Frame} {meth : Method} {c : Code} {g : GG} {A : Nat → Prop} {p1 : Int32} {p2 : Int32} {Q : Int32 → St → Prop} (C : MC p s m args meth c cX5_test 12 RX5 (some .int) g A) {K48 : Int32 → Int32 → Int32 → Int32 → St → Prop} (hK48 : ∀ (v4 : Int32) (v5 : Int32) (v6 : Int32) (v7 : Int32) (u : St) (H : Heap) (locs : List Loc) (ls : Array Slot), K48 v4 v5 v6 v7 u → WD g A s u H locs → lv_has ls 12 [(0, .ref (gad g 39)), (1, .int p1), (4, .int v4), (5, .int v5), (6, .int v6), (7, .int v7)] → W p l e rm_X5_test s m args below meth c H locs 0 0 (MQ below (va_Qi Q (WQ g) A) args s 0 0 A) (F0 m 48 ls [])) {K110 : Int32 → Int32 → Int32 → Int32 → Int32 → Int32 → St → Prop} (hK110 : ∀ (v4 : Int32) (v5 : Int32) (v6 : Int32) (v7 : Int32) (v8 : Int32) (v9 : Int32) (u : St) (H : Heap) (locs : List Loc) (ls : Array Slot), K110 v4 v5 v6 v7 v8 v9 u → WD g A s u H locs → lv_has ls 12 [(0, .ref (gad g 39)), (1, .int p1), (4, .int v4), (5, .int v5), (6, .int v6), (7, .int v7), (8, .int v8), (9, .int v9)] → W p l e rm_X5_test s m args below meth c H locs 0 0 (MQ below (va_Qi Q (WQ g) A) args s 0 0 A) (F0 m 110 ls [])) : ∀ (v4 : Int32) (v5 : Int32) (v6 : Int32) (v7 : Int32) (v8 : Int32) (v9 : Int32) (u : St) (H : Heap) (locs : List Loc) (ls : Array Slot), wp_X5_test_B110 p1 p2 Q K48 K110 v4 v5 v6 v7 v8 v9 u → WD g A s u H locs → lv_has ls 12 [(0, .ref (gad g 39)), (1, .int p1), (4, .int v4), (5, .int v5), (6, .int v6), (7, .int v7), (8, .int v8), (9, .int v9)] → W p l e rm_X5_test s m args below meth c H locs 0 0 (MQ below (va_Qi Q (WQ g) A) args s 0 0 A) (F0 m 110 ls []) := by
  intro v4 v5 v6 v7 v8 v9 u H locs ls h hW hl
  refine lv_iload C.1 C.2.1 dX5_test_110 (lv_at hl 7 rfl) ?_
  refine lv_iconst (v := 5) C.1 C.2.1 dX5_test_112 (by decide) ?_
  refine lv_icmp_gt (tgt := 203) C.1 C.2.1 dX5_test_113 (by decide) (fun c17 => ?_) (fun c17 => ?_)
  · have h := h.1 c17
    refine lv_iload C.1 C.2.1 dX5_test_203 (lv_at hl 6 rfl) ?_
    refine lv_iload C.1 C.2.1 dX5_test_205 (lv_at hl 4 rfl) ?_
    refine lv_icmp_ge (tgt := 215) C.1 C.2.1 dX5_test_207 (by decide) (fun c18 => ?_) (fun c18 => ?_)
    · have h := h.1 c18
      refine lv_iload C.1 C.2.1 dX5_test_215 (lv_at hl 3 rfl) ?_
      exact k_X5_test_J217 C hK48 v4 v6 v7 v8 v5 u _ _ _ h hW (lv_sub hl [0, 1, 2, 4, 5, 6] rfl)
    · have h := h.2 c18
      refine lv_iload C.1 C.2.1 dX5_test_210 (lv_at hl 5 rfl) ?_
      refine lv_goto (tgt := 217) C.1 C.2.1 dX5_test_212 (by decide) ?_
      exact k_X5_test_J217 C hK48 v4 v6 v7 v8 v7 u _ _ _ h hW (lv_sub hl [0, 1, 2, 4, 5, 6] rfl)
  · have h := h.2 c17
    refine lv_iconst (v := 0) C.1 C.2.1 dX5_test_116 (by decide) ?_
    refine lv_istore (lv' := [(10, .int 0), (0, .ref (gad g 39)), (1, .int p1), (4, .int v4), (5, .int v5), (6, .int v6), (7, .int v7), (8, .int v8), (9, .int v9)]) C.1 C.2.1 dX5_test_117 hl (by decide) rfl (fun ls hl => ?_)
    refine lv_iconst (v := 0) C.1 C.2.1 dX5_test_119 (by decide) ?_
    refine lv_istore (lv' := [(11, .int 0), (10, .int 0), (0, .ref (gad g 39)), (1, .int p1), (4, .int v4), (5, .int v5), (6, .int v6), (7, .int v7), (8, .int v8), (9, .int v9)]) C.1 C.2.1 dX5_test_120 hl (by decide) rfl (fun ls hl => ?_)
    obtain ⟨n, h⟩ := h
    exact k_X5_test_L122 C hK48 hK110 n v4 v5 v6 v7 v8 v9 0 0 u _ _ _ h hW (lv_sub hl [2, 3, 4, 5, 6, 7, 8, 9, 1, 0] rfl)
theorem k_X5_test_L110 {p : Program} {l : Launch} {e : Env} {s : State} {m : MethodId} {args : Array Value} {below : List Frame} {meth : Method} {c : Code} {g : GG} {A : Nat → Prop} {p1 : Int32} {p2 : Int32} {Q : Int32 → St → Prop} (C : MC p s m args meth c cX5_test 12 RX5 (some .int) g A) {K48 : Int32 → Int32 → Int32 → Int32 → St → Prop} (hK48 : ∀ (v4 : Int32) (v5 : Int32) (v6 : Int32) (v7 : Int32) (u : St) (H : Heap) (locs : List Loc) (ls : Array Slot), K48 v4 v5 v6 v7 u → WD g A s u H locs → lv_has ls 12 [(0, .ref (gad g 39)), (1, .int p1), (4, .int v4), (5, .int v5), (6, .int v6), (7, .int v7)] → W p l e rm_X5_test s m args below meth c H locs 0 0 (MQ below (va_Qi Q (WQ g) A) args s 0 0 A) (F0 m 48 ls [])) : ∀ (n : Nat), ∀ (v4 : Int32) (v5 : Int32) (v6 : Int32) (v7 : Int32) (v8 : Int32) (v9 : Int32) (u : St) (H : Heap) (locs : List Loc) (ls : Array Slot), wp_X5_test_L110 p1 p2 Q K48 n v4 v5 v6 v7 v8 v9 u → WD g A s u H locs → lv_has ls 12 [(0, .ref (gad g 39)), (1, .int p1), (4, .int v4), (5, .int v5), (6, .int v6), (7, .int v7), (8, .int v8), (9, .int v9)] → W p l e rm_X5_test s m args below meth c H locs 0 0 (MQ below (va_Qi Q (WQ g) A) args s 0 0 A) (F0 m 110 ls []) := by
  intro n
  induction n with
  | zero => intro v4 v5 v6 v7 v8 v9 u H locs ls h; exact False.elim h
  | succ n ih => exact k_X5_test_B110 (p1 := p1) (p2 := p2) C hK48 ih
set_option maxRecDepth 100000 in
theorem k_X5_test_B71 {p : Program} {l : Launch} {e : Env} {s : State} {m : MethodId} {args : Array Value} {below : List Frame} {meth : Method} {c : Code} {g : GG} {A : Nat → Prop} {p1 : Int32} {p2 : Int32} {Q : Int32 → St → Prop} (C : MC p s m args meth c cX5_test 12 RX5 (some .int) g A) {K48 : Int32 → Int32 → Int32 → Int32 → St → Prop} (hK48 : ∀ (v4 : Int32) (v5 : Int32) (v6 : Int32) (v7 : Int32) (u : St) (H : Heap) (locs : List Loc) (ls : Array Slot), K48 v4 v5 v6 v7 u → WD g A s u H locs → lv_has ls 12 [(0, .ref (gad g 39)), (1, .int p1), (4, .int v4), (5, .int v5), (6, .int v6), (7, .int v7)] → W p l e rm_X5_test s m args below meth c H locs 0 0 (MQ below (va_Qi Q (WQ g) A) args s 0 0 A) (F0 m 48 ls [])) {K71 : Int32 → Int32 → Int32 → Int32 → Int32 → St → Prop} (hK71 : ∀ (v4 : Int32) (v5 : Int32) (v6 : Int32) (v7 : Int32) (v8 : Int32) (u : St) (H : Heap) (locs : List Loc) (ls : Array Slot), K71 v4 v5 v6 v7 v8 u → WD g A s u H locs → lv_has ls 12 [(0, .ref (gad g 39)), (1, .int p1), (4, .int v4), (5, .int v5), (6, .int v6), (7, .int v7), (8, .int v8)] → W p l e rm_X5_test s m args below meth c H locs 0 0 (MQ below (va_Qi Q (WQ g) A) args s 0 0 A) (F0 m 71 ls [])) : ∀ (v4 : Int32) (v5 : Int32) (v6 : Int32) (v7 : Int32) (v8 : Int32) (u : St) (H : Heap) (locs : List Loc) (ls : Array Slot), wp_X5_test_B71 p1 p2 Q K48 K71 v4 v5 v6 v7 v8 u → WD g A s u H locs → lv_has ls 12 [(0, .ref (gad g 39)), (1, .int p1), (4, .int v4), (5, .int v5), (6, .int v6), (7, .int v7), (8, .int v8)] → W p l e rm_X5_test s m args below meth c H locs 0 0 (MQ below (va_Qi Q (WQ g) A) args s 0 0 A) (F0 m 71 ls []) := by
  intro v4 v5 v6 v7 v8 u H locs ls h hW hl
  refine lv_iload C.1 C.2.1 dX5_test_71 (lv_at hl 6 rfl) ?_
  refine lv_iconst (v := 5) C.1 C.2.1 dX5_test_73 (by decide) ?_
  refine lv_icmp_gt (tgt := 104) C.1 C.2.1 dX5_test_74 (by decide) (fun c11 => ?_) (fun c11 => ?_)
  · have h := h.1 c11
    refine lv_iconst (v := 0) C.1 C.2.1 dX5_test_104 (by decide) ?_
    refine lv_istore (lv' := [(8, .int 0), (0, .ref (gad g 39)), (1, .int p1), (4, .int v4), (5, .int v5), (6, .int v6), (7, .int v7)]) C.1 C.2.1 dX5_test_105 hl (by decide) rfl (fun ls hl => ?_)
    refine lv_iconst (v := 0) C.1 C.2.1 dX5_test_107 (by decide) ?_
    refine lv_istore (lv' := [(9, .int 0), (8, .int 0), (0, .ref (gad g 39)), (1, .int p1), (4, .int v4), (5, .int v5), (6, .int v6), (7, .int v7)]) C.1 C.2.1 dX5_test_108 hl (by decide) rfl (fun ls hl => ?_)
    obtain ⟨n, h⟩ := h
    exact k_X5_test_L110 C hK48 n v4 v5 v6 v7 0 0 u _ _ _ h hW (lv_sub hl [2, 3, 4, 5, 6, 7, 1, 0] rfl)
  · have h := h.2 c11
    refine lv_aload_n C.1 C.2.1 dX5_test_77 rfl (lv_at hl 0 rfl) ?_
    refine fg_X5_57 C hW dX5_test_78 ?_
    refine lv_iload_n C.1 C.2.1 dX5_test_81 rfl (lv_at hl 1 rfl) ?_
    refine lv_iload C.1 C.2.1 dX5_test_82 (lv_at hl 6 rfl) ?_
    obtain ⟨h12, h⟩ := h
    refine x_iast C hW g_54 h12 dX5_test_84 (fun u13 H locs e13 hW => ?_)
    have h := nxt_get h e13
    refine lv_aload_n C.1 C.2.1 dX5_test_85 rfl (lv_at hl 0 rfl) ?_
    refine fg_X5_72 C hW dX5_test_86 ?_
    refine lv_iload C.1 C.2.1 dX5_test_89 (lv_at hl 6 rfl) ?_
    refine lv_aload_n C.1 C.2.1 dX5_test_91 rfl (lv_at hl 0 rfl) ?_
    refine lv_iload C.1 C.2.1 dX5_test_92 (lv_at hl 5 rfl) ?_
    refine x_Vi (rest := [.int v8, .ref (gad g 59)]) C hW (c_X5_toldOf l g h) km_X5_toldOf oModel rfl qm_X5_179 ⟨rfl, rfl⟩ (by decide) rfl hl.1 rfl (Nat.le_of_ble_eq_true rfl) ⟨Nat.zero_le _, Nat.zero_le _⟩ dX5_test_94 (fun r14 u14 H locs h hW => ?_)
    obtain ⟨h15, h⟩ := h
    refine x_iast C hW g_59 h15 dX5_test_97 (fun u16 H locs e16 hW => ?_)
    have h := nxt_get h e16
    refine lv_iinc (v := (v8 + 1)) (lv' := [(8, .int (v8 + 1)), (0, .ref (gad g 39)), (1, .int p1), (4, .int v4), (5, .int v5), (6, .int v6), (7, .int v7)]) C.1 C.2.1 dX5_test_98 hl (k := 6) rfl rfl (by decide) rfl (fun ls hl => ?_)
    refine lv_goto (tgt := 71) C.1 C.2.1 dX5_test_101 (by decide) ?_
    exact hK71 v4 v5 v6 v7 (v8 + 1) u16 _ _ _ h hW (lv_sub hl [1, 2, 3, 4, 5, 6, 0] rfl)
theorem k_X5_test_L71 {p : Program} {l : Launch} {e : Env} {s : State} {m : MethodId} {args : Array Value} {below : List Frame} {meth : Method} {c : Code} {g : GG} {A : Nat → Prop} {p1 : Int32} {p2 : Int32} {Q : Int32 → St → Prop} (C : MC p s m args meth c cX5_test 12 RX5 (some .int) g A) {K48 : Int32 → Int32 → Int32 → Int32 → St → Prop} (hK48 : ∀ (v4 : Int32) (v5 : Int32) (v6 : Int32) (v7 : Int32) (u : St) (H : Heap) (locs : List Loc) (ls : Array Slot), K48 v4 v5 v6 v7 u → WD g A s u H locs → lv_has ls 12 [(0, .ref (gad g 39)), (1, .int p1), (4, .int v4), (5, .int v5), (6, .int v6), (7, .int v7)] → W p l e rm_X5_test s m args below meth c H locs 0 0 (MQ below (va_Qi Q (WQ g) A) args s 0 0 A) (F0 m 48 ls [])) : ∀ (n : Nat), ∀ (v4 : Int32) (v5 : Int32) (v6 : Int32) (v7 : Int32) (v8 : Int32) (u : St) (H : Heap) (locs : List Loc) (ls : Array Slot), wp_X5_test_L71 p1 p2 Q K48 n v4 v5 v6 v7 v8 u → WD g A s u H locs → lv_has ls 12 [(0, .ref (gad g 39)), (1, .int p1), (4, .int v4), (5, .int v5), (6, .int v6), (7, .int v7), (8, .int v8)] → W p l e rm_X5_test s m args below meth c H locs 0 0 (MQ below (va_Qi Q (WQ g) A) args s 0 0 A) (F0 m 71 ls []) := by
  intro n
  induction n with
  | zero => intro v4 v5 v6 v7 v8 u H locs ls h; exact False.elim h
  | succ n ih => exact k_X5_test_B71 (p1 := p1) (p2 := p2) C hK48 ih
set_option maxRecDepth 100000 in
theorem k_X5_test_B48 {p : Program} {l : Launch} {e : Env} {s : State} {m : MethodId} {args : Array Value} {below : List Frame} {meth : Method} {c : Code} {g : GG} {A : Nat → Prop} {p1 : Int32} {p2 : Int32} {Q : Int32 → St → Prop} (C : MC p s m args meth c cX5_test 12 RX5 (some .int) g A) {K48 : Int32 → Int32 → Int32 → Int32 → St → Prop} (hK48 : ∀ (v4 : Int32) (v5 : Int32) (v6 : Int32) (v7 : Int32) (u : St) (H : Heap) (locs : List Loc) (ls : Array Slot), K48 v4 v5 v6 v7 u → WD g A s u H locs → lv_has ls 12 [(0, .ref (gad g 39)), (1, .int p1), (4, .int v4), (5, .int v5), (6, .int v6), (7, .int v7)] → W p l e rm_X5_test s m args below meth c H locs 0 0 (MQ below (va_Qi Q (WQ g) A) args s 0 0 A) (F0 m 48 ls [])) : ∀ (v4 : Int32) (v5 : Int32) (v6 : Int32) (v7 : Int32) (u : St) (H : Heap) (locs : List Loc) (ls : Array Slot), wp_X5_test_B48 p1 p2 Q K48 v4 v5 v6 v7 u → WD g A s u H locs → lv_has ls 12 [(0, .ref (gad g 39)), (1, .int p1), (4, .int v4), (5, .int v5), (6, .int v6), (7, .int v7)] → W p l e rm_X5_test s m args below meth c H locs 0 0 (MQ below (va_Qi Q (WQ g) A) args s 0 0 A) (F0 m 48 ls []) := by
  intro v4 v5 v6 v7 u H locs ls h hW hl
  refine lv_iload C.1 C.2.1 dX5_test_48 (lv_at hl 5 rfl) ?_
  refine lv_iconst (v := 1) C.1 C.2.1 dX5_test_50 (by decide) ?_
  refine lv_aload_n C.1 C.2.1 dX5_test_51 rfl (lv_at hl 0 rfl) ?_
  refine fg_X5_116 C hW dX5_test_52 ?_
  refine lv_ishl C.1 C.2.1 dX5_test_55 ?_
  refine lv_icmp_ge (tgt := 241) C.1 C.2.1 dX5_test_56 (by decide) (fun c8 => ?_) (fun c8 => ?_)
  · have h := h.1 c8
    exact k_X5_test_J241 C v5 v6 u _ _ _ h hW (lv_sub hl [0, 3, 4] rfl)
  · have h := h.2 c8
    refine lv_iload C.1 C.2.1 dX5_test_59 (lv_at hl 2 rfl) ?_
    refine lv_if_eq (tgt := 241) C.1 C.2.1 dX5_test_61 (by decide) (fun c9 => ?_) (fun c9 => ?_)
    · have h := h.1 c9
      exact k_X5_test_J241 C v5 v6 u _ _ _ h hW (lv_sub hl [0, 3, 4] rfl)
    · have h := h.2 c9
      refine lv_aload_n C.1 C.2.1 dX5_test_64 rfl (lv_at hl 0 rfl) ?_
      refine x_Vv (rest := []) C hW (c_X5_take l g h) km_X5_take oModel rfl qm_X5_139 ⟨rfl, rfl⟩ (by decide) rfl hl.1 rfl (Nat.le_of_ble_eq_true rfl) ⟨Nat.zero_le _, Nat.zero_le _⟩ dX5_test_65 (fun u10 H locs h hW => ?_)
      refine lv_iconst (v := 0) C.1 C.2.1 dX5_test_68 (by decide) ?_
      refine lv_istore (lv' := [(8, .int 0), (0, .ref (gad g 39)), (1, .int p1), (4, .int v4), (5, .int v5), (6, .int v6), (7, .int v7)]) C.1 C.2.1 dX5_test_69 hl (by decide) rfl (fun ls hl => ?_)
      obtain ⟨n, h⟩ := h
      exact k_X5_test_L71 C hK48 n v4 v5 v6 v7 0 u10 _ _ _ h hW (lv_sub hl [1, 2, 3, 4, 5, 6, 0] rfl)
theorem k_X5_test_L48 {p : Program} {l : Launch} {e : Env} {s : State} {m : MethodId} {args : Array Value} {below : List Frame} {meth : Method} {c : Code} {g : GG} {A : Nat → Prop} {p1 : Int32} {p2 : Int32} {Q : Int32 → St → Prop} (C : MC p s m args meth c cX5_test 12 RX5 (some .int) g A) : ∀ (n : Nat), ∀ (v4 : Int32) (v5 : Int32) (v6 : Int32) (v7 : Int32) (u : St) (H : Heap) (locs : List Loc) (ls : Array Slot), wp_X5_test_L48 p1 p2 Q n v4 v5 v6 v7 u → WD g A s u H locs → lv_has ls 12 [(0, .ref (gad g 39)), (1, .int p1), (4, .int v4), (5, .int v5), (6, .int v6), (7, .int v7)] → W p l e rm_X5_test s m args below meth c H locs 0 0 (MQ below (va_Qi Q (WQ g) A) args s 0 0 A) (F0 m 48 ls []) := by
  intro n
  induction n with
  | zero => intro v4 v5 v6 v7 u H locs ls h; exact False.elim h
  | succ n ih => exact k_X5_test_B48 (p1 := p1) (p2 := p2) C ih
set_option maxRecDepth 100000 in
theorem c_X5_test (l : Launch) (g : GG) {p1 : Int32} {p2 : Int32} {u : St} {Q : Int32 → St → Prop} (h : wp_X5_test p1 p2 u Q) : CI l yX5_test cX5_test 12 (some .int) rm_X5_test g [.ref (gad g 39), .int p1, .int p2] u Q := by
  refine ent (own := RX5) (Qc := va_Qi Q (WQ g)) (by decide) rfl (Nat.le_of_ble_eq_true rfl) ?_
  intro p e s m below meth c A ls C hl hW
  have hl : lv_has ls 12 [(0, .ref (gad g 39)), (1, .int p1), (2, .int p2)] := hl
  unfold wp_X5_test at h
  refine lv_aload_n C.1 C.2.1 dX5_test_0 rfl (lv_at hl 0 rfl) ?_
  refine lv_iload_n C.1 C.2.1 dX5_test_1 rfl (lv_at hl 1 rfl) ?_
  refine x_Vi (rest := []) C hW (c_X5_isKey l g h) km_X5_isKey oModel rfl qm_X5_149 ⟨rfl, rfl⟩ (by decide) rfl hl.1 rfl (Nat.le_of_ble_eq_true rfl) ⟨Nat.zero_le _, Nat.zero_le _⟩ dX5_test_2 (fun r1 u1 H locs h hW => ?_)
  refine lv_if_eq (tgt := 15) C.1 C.2.1 dX5_test_5 (by decide) (fun c2 => ?_) (fun c2 => ?_)
  · have h := h.1 c2
    refine lv_iconst (v := (-1)) C.1 C.2.1 dX5_test_15 (by decide) ?_
    exact x_iret C hW h dX5_test_16
  · have h := h.2 c2
    refine lv_iload_n C.1 C.2.1 dX5_test_8 rfl (lv_at hl 2 rfl) ?_
    refine x_Si (rest := []) C hW (c_X5_isRow l g h) km_X5_isRow qm_X5_92 ⟨rfl, rfl⟩ (by decide) rfl hl.1 rfl (Nat.le_of_ble_eq_true rfl) ⟨Nat.zero_le _, Nat.zero_le _⟩ dX5_test_9 (fun r3 u3 H locs h hW => ?_)
    refine lv_if_ne (tgt := 17) C.1 C.2.1 dX5_test_12 (by decide) (fun c4 => ?_) (fun c4 => ?_)
    · have h := h.1 c4
      refine lv_aload_n C.1 C.2.1 dX5_test_17 rfl (lv_at hl 0 rfl) ?_
      refine lv_iload_n C.1 C.2.1 dX5_test_18 rfl (lv_at hl 2 rfl) ?_
      refine x_Vi (rest := []) C hW (c_X5_pairs l g h) km_X5_pairs oModel rfl qm_X5_188 ⟨rfl, rfl⟩ (by decide) rfl hl.1 rfl (Nat.le_of_ble_eq_true rfl) ⟨Nat.zero_le _, Nat.zero_le _⟩ dX5_test_19 (fun r5 u5 H locs h hW => ?_)
      refine lv_istore_n (lv' := [(3, .int r5), (0, .ref (gad g 39)), (1, .int p1), (2, .int p2)]) C.1 C.2.1 dX5_test_22 rfl hl (by decide) rfl (fun ls hl => ?_)
      refine lv_iload_n C.1 C.2.1 dX5_test_23 rfl (lv_at hl 0 rfl) ?_
      refine lv_if_eq (tgt := 29) C.1 C.2.1 dX5_test_24 (by decide) (fun c6 => ?_) (fun c6 => ?_)
      · have h := h.1 c6
        refine lv_aload_n C.1 C.2.1 dX5_test_29 rfl (lv_at hl 1 rfl) ?_
        refine lv_iload_n C.1 C.2.1 dX5_test_30 rfl (lv_at hl 2 rfl) ?_
        refine lv_iload_n C.1 C.2.1 dX5_test_31 rfl (lv_at hl 3 rfl) ?_
        refine x_Vi (rest := []) C hW (c_X5_kindsBy l g h) km_X5_kindsBy oModel rfl qm_X5_191 ⟨rfl, rfl⟩ (by decide) rfl hl.1 rfl (Nat.le_of_ble_eq_true rfl) ⟨Nat.zero_le _, Nat.zero_le _⟩ dX5_test_32 (fun r7 u7 H locs h hW => ?_)
        refine lv_istore (lv' := [(4, .int r7), (3, .int r5), (0, .ref (gad g 39)), (1, .int p1), (2, .int p2)]) C.1 C.2.1 dX5_test_35 hl (by decide) rfl (fun ls hl => ?_)
        refine lv_bipush (v := (-9)) C.1 C.2.1 dX5_test_37 (by decide) ?_
        refine lv_istore (lv' := [(5, .int (-9)), (4, .int r7), (3, .int r5), (0, .ref (gad g 39)), (1, .int p1), (2, .int p2)]) C.1 C.2.1 dX5_test_39 hl (by decide) rfl (fun ls hl => ?_)
        refine lv_bipush (v := 7) C.1 C.2.1 dX5_test_41 (by decide) ?_
        refine lv_istore (lv' := [(6, .int 7), (5, .int (-9)), (4, .int r7), (3, .int r5), (0, .ref (gad g 39)), (1, .int p1), (2, .int p2)]) C.1 C.2.1 dX5_test_43 hl (by decide) rfl (fun ls hl => ?_)
        refine lv_iconst (v := 0) C.1 C.2.1 dX5_test_45 (by decide) ?_
        refine lv_istore (lv' := [(7, .int 0), (6, .int 7), (5, .int (-9)), (4, .int r7), (3, .int r5), (0, .ref (gad g 39)), (1, .int p1), (2, .int p2)]) C.1 C.2.1 dX5_test_46 hl (by decide) rfl (fun ls hl => ?_)
        obtain ⟨n, h⟩ := h
        exact k_X5_test_L48 C n r7 (-9) 7 0 u7 _ _ _ h hW (lv_sub hl [5, 6, 3, 2, 1, 0] rfl)
      · have h := h.2 c6
        refine lv_iload_n C.1 C.2.1 dX5_test_27 rfl (lv_at hl 0 rfl) ?_
        exact x_iret C hW h dX5_test_28
    · have h := h.2 c4
      refine lv_iconst (v := (-1)) C.1 C.2.1 dX5_test_15 (by decide) ?_
      exact x_iret C hW h dX5_test_16
set_option maxRecDepth 100000 in
theorem k_X5_text_B34 {p : Program} {l : Launch} {e : Env} {s : State} {m : MethodId} {args : Array Value} {below : List Frame} {meth : Method} {c : Code} {g : GG} {A : Nat → Prop} {p1 : Int32} {p2 : Int32} {Q : Int32 → St → Prop} (C : MC p s m args meth c cX5_text 4 RX5 (some .int) g A) {K34 : Int32 → St → Prop} (hK34 : ∀ (v3 : Int32) (u : St) (H : Heap) (locs : List Loc) (ls : Array Slot), K34 v3 u → WD g A s u H locs → lv_has ls 4 [(0, .ref (gad g 39)), (1, .int p1), (2, .int p2), (3, .int v3)] → W p l e rm_X5_text s m args below meth c H locs 0 0 (MQ below (va_Qi Q (WQ g) A) args s 0 0 A) (F0 m 34 ls [])) : ∀ (v3 : Int32) (u : St) (H : Heap) (locs : List Loc) (ls : Array Slot), wp_X5_text_B34 p1 p2 Q K34 v3 u → WD g A s u H locs → lv_has ls 4 [(0, .ref (gad g 39)), (1, .int p1), (2, .int p2), (3, .int v3)] → W p l e rm_X5_text s m args below meth c H locs 0 0 (MQ below (va_Qi Q (WQ g) A) args s 0 0 A) (F0 m 34 ls []) := by
  intro v3 u H locs ls h hW hl
  refine lv_iload_n C.1 C.2.1 dX5_text_34 rfl (lv_at hl 3 rfl) ?_
  refine lv_bipush (v := 60) C.1 C.2.1 dX5_text_35 (by decide) ?_
  refine lv_icmp_ge (tgt := 59) C.1 C.2.1 dX5_text_37 (by decide) (fun c8 => ?_) (fun c8 => ?_)
  · have h := h.1 c8
    refine lv_iload_n C.1 C.2.1 dX5_text_59 rfl (lv_at hl 2 rfl) ?_
    exact x_iret C hW h dX5_text_60
  · have h := h.2 c8
    refine lv_aload_n C.1 C.2.1 dX5_text_40 rfl (lv_at hl 0 rfl) ?_
    refine fg_X5_26 C hW dX5_text_41 ?_
    refine lv_bipush (v := 60) C.1 C.2.1 dX5_text_44 (by decide) ?_
    refine lv_iload_n C.1 C.2.1 dX5_text_46 rfl (lv_at hl 1 rfl) ?_
    refine lv_imul C.1 C.2.1 dX5_text_47 ?_
    refine lv_iload_n C.1 C.2.1 dX5_text_48 rfl (lv_at hl 3 rfl) ?_
    refine lv_iadd C.1 C.2.1 dX5_text_49 ?_
    refine lv_bipush (v := 32) C.1 C.2.1 dX5_text_50 (by decide) ?_
    obtain ⟨h9, h⟩ := h
    refine x_bast C hW g_44 h9 dX5_text_52 (fun u10 H locs e10 hW => ?_)
    have h := nxt_get h e10
    refine lv_iinc (v := (v3 + 1)) (lv' := [(3, .int (v3 + 1)), (0, .ref (gad g 39)), (1, .int p1), (2, .int p2)]) C.1 C.2.1 dX5_text_53 hl (k := 3) rfl rfl (by decide) rfl (fun ls hl => ?_)
    refine lv_goto (tgt := 34) C.1 C.2.1 dX5_text_56 (by decide) ?_
    exact hK34 (v3 + 1) u10 _ _ _ h hW (lv_sub hl [1, 2, 3, 0] rfl)
theorem k_X5_text_L34 {p : Program} {l : Launch} {e : Env} {s : State} {m : MethodId} {args : Array Value} {below : List Frame} {meth : Method} {c : Code} {g : GG} {A : Nat → Prop} {p1 : Int32} {p2 : Int32} {Q : Int32 → St → Prop} (C : MC p s m args meth c cX5_text 4 RX5 (some .int) g A) : ∀ (n : Nat), ∀ (v3 : Int32) (u : St) (H : Heap) (locs : List Loc) (ls : Array Slot), wp_X5_text_L34 p1 p2 Q n v3 u → WD g A s u H locs → lv_has ls 4 [(0, .ref (gad g 39)), (1, .int p1), (2, .int p2), (3, .int v3)] → W p l e rm_X5_text s m args below meth c H locs 0 0 (MQ below (va_Qi Q (WQ g) A) args s 0 0 A) (F0 m 34 ls []) := by
  intro n
  induction n with
  | zero => intro v3 u H locs ls h; exact False.elim h
  | succ n ih => exact k_X5_text_B34 (p1 := p1) (p2 := p2) C ih
set_option maxRecDepth 100000 in
theorem c_X5_text (l : Launch) (g : GG) {p1 : Int32} {p2 : Int32} {u : St} {Q : Int32 → St → Prop} (h : wp_X5_text p1 p2 u Q) : CI l yX5_text cX5_text 4 (some .int) rm_X5_text g [.ref (gad g 39), .int p1, .int p2] u Q := by
  refine ent (own := RX5) (Qc := va_Qi Q (WQ g)) (by decide) rfl (Nat.le_of_ble_eq_true rfl) ?_
  intro p e s m below meth c A ls C hl hW
  have hl : lv_has ls 4 [(0, .ref (gad g 39)), (1, .int p1), (2, .int p2)] := hl
  unfold wp_X5_text at h
  refine lv_iload_n C.1 C.2.1 dX5_text_0 rfl (lv_at hl 1 rfl) ?_
  refine x_Si (rest := []) C hW (c_X5_isText l g h) km_X5_isText qm_X5_103 ⟨rfl, rfl⟩ (by decide) rfl hl.1 rfl (Nat.le_of_ble_eq_true rfl) ⟨Nat.zero_le _, Nat.zero_le _⟩ dX5_text_1 (fun r1 u1 H locs h hW => ?_)
  refine lv_if_eq (tgt := 13) C.1 C.2.1 dX5_text_4 (by decide) (fun c2 => ?_) (fun c2 => ?_)
  · have h := h.1 c2
    refine lv_iconst (v := (-1)) C.1 C.2.1 dX5_text_13 (by decide) ?_
    exact x_iret C hW h dX5_text_14
  · have h := h.2 c2
    refine lv_iload_n C.1 C.2.1 dX5_text_7 rfl (lv_at hl 2 rfl) ?_
    refine lv_bipush (v := 60) C.1 C.2.1 dX5_text_8 (by decide) ?_
    refine lv_icmp_le (tgt := 15) C.1 C.2.1 dX5_text_10 (by decide) (fun c3 => ?_) (fun c3 => ?_)
    · have h := h.1 c3
      refine lv_iload_n C.1 C.2.1 dX5_text_15 rfl (lv_at hl 2 rfl) ?_
      refine lv_if_ge (tgt := 25) C.1 C.2.1 dX5_text_16 (by decide) (fun c4 => ?_) (fun c4 => ?_)
      · have h := h.1 c4
        refine lv_aload_n C.1 C.2.1 dX5_text_25 rfl (lv_at hl 0 rfl) ?_
        refine fg_X5_23 C hW dX5_text_26 ?_
        refine lv_iload_n C.1 C.2.1 dX5_text_29 rfl (lv_at hl 1 rfl) ?_
        refine lv_iload_n C.1 C.2.1 dX5_text_30 rfl (lv_at hl 2 rfl) ?_
        obtain ⟨h5, h⟩ := h
        refine x_iast C hW g_43 h5 dX5_text_31 (fun u6 H locs e6 hW => ?_)
        have h := nxt_get h e6
        refine lv_iconst (v := 0) C.1 C.2.1 dX5_text_32 (by decide) ?_
        refine lv_istore_n (lv' := [(3, .int 0), (0, .ref (gad g 39)), (1, .int p1), (2, .int p2)]) C.1 C.2.1 dX5_text_33 rfl hl (by decide) rfl (fun ls hl => ?_)
        obtain ⟨n, h⟩ := h
        exact k_X5_text_L34 C n 0 u6 _ _ _ h hW (lv_sub hl [1, 2, 3, 0] rfl)
      · have h := h.2 c4
        refine lv_aload_n C.1 C.2.1 dX5_text_19 rfl (lv_at hl 0 rfl) ?_
        refine lv_iconst (v := 5) C.1 C.2.1 dX5_text_20 (by decide) ?_
        refine x_Vi (rest := []) C hW (c_X5_find l g h) km_X5_find oModel rfl qm_X5_96 ⟨rfl, rfl⟩ (by decide) rfl hl.1 rfl (Nat.le_of_ble_eq_true rfl) ⟨Nat.zero_le _, Nat.zero_le _⟩ dX5_text_21 (fun r7 u7 H locs h hW => ?_)
        exact x_iret C hW h dX5_text_24
    · have h := h.2 c3
      refine lv_iconst (v := (-1)) C.1 C.2.1 dX5_text_13 (by decide) ?_
      exact x_iret C hW h dX5_text_14
set_option maxRecDepth 100000 in
theorem c_X5_told (l : Launch) (g : GG) {u : St} {Q : Int32 → St → Prop} (h : wp_X5_told u Q) : CI l yX5_told cX5_told 2 (some .int) rm_X5_told g [.ref (gad g 39)] u Q := by
  refine ent (own := RX5) (Qc := va_Qi Q (WQ g)) (by decide) rfl (Nat.le_of_ble_eq_true rfl) ?_
  intro p e s m below meth c A ls C hl hW
  have hl : lv_has ls 2 [(0, .ref (gad g 39))] := hl
  unfold wp_X5_told at h
  refine lv_aload_n C.1 C.2.1 dX5_told_0 rfl (lv_at hl 0 rfl) ?_
  refine x_Vi (rest := []) C hW (c_X5_toldNow l g h) km_X5_toldNow oModel rfl qm_X5_146 ⟨rfl, rfl⟩ (by decide) rfl hl.1 rfl (Nat.le_of_ble_eq_true rfl) ⟨Nat.zero_le _, Nat.zero_le _⟩ dX5_told_1 (fun r1 u1 H locs h hW => ?_)
  refine lv_istore_n (lv' := [(1, .int r1), (0, .ref (gad g 39))]) C.1 C.2.1 dX5_told_4 rfl hl (by decide) rfl (fun ls hl => ?_)
  refine lv_aload_n C.1 C.2.1 dX5_told_5 rfl (lv_at hl 1 rfl) ?_
  refine lv_iload_n C.1 C.2.1 dX5_told_6 rfl (lv_at hl 0 rfl) ?_
  refine lv_aload_n C.1 C.2.1 dX5_told_7 rfl (lv_at hl 1 rfl) ?_
  refine lv_iconst (v := 0) C.1 C.2.1 dX5_told_8 (by decide) ?_
  refine x_Vi (rest := [.int r1, .ref (gad g 39)]) C hW (c_X5_now l g h) km_X5_now oModel rfl qm_X5_122 ⟨rfl, rfl⟩ (by decide) rfl hl.1 rfl (Nat.le_of_ble_eq_true rfl) ⟨Nat.zero_le _, Nat.zero_le _⟩ dX5_told_9 (fun r2 u2 H locs h hW => ?_)
  refine lv_iconst (v := (-1)) C.1 C.2.1 dX5_told_12 (by decide) ?_
  refine lv_ixor C.1 C.2.1 dX5_told_13 ?_
  refine lv_iand C.1 C.2.1 dX5_told_14 ?_
  refine x_Si (rest := [.ref (gad g 39)]) C hW (c_X5_bitsOf l g h) km_X5_bitsOf qm_X5_156 ⟨rfl, rfl⟩ (by decide) rfl hl.1 rfl (Nat.le_of_ble_eq_true rfl) ⟨Nat.zero_le _, Nat.zero_le _⟩ dX5_told_15 (fun r3 u3 H locs h hW => ?_)
  refine x_Vi (rest := []) C hW (c_X5_tellAsked l g h) km_X5_tellAsked oModel rfl qm_X5_100 ⟨rfl, rfl⟩ (by decide) rfl hl.1 rfl (Nat.le_of_ble_eq_true rfl) ⟨Nat.zero_le _, Nat.zero_le _⟩ dX5_told_18 (fun r4 u4 H locs h hW => ?_)
  refine lv_pop C.1 C.2.1 dX5_told_21 rfl ?_
  refine lv_iload_n C.1 C.2.1 dX5_told_22 rfl (lv_at hl 0 rfl) ?_
  exact x_iret C hW h dX5_told_23
set_option maxRecDepth 100000 in
theorem c_X5_undo (l : Launch) (g : GG) {p1 : Int32} {u : St} {Q : Int32 → St → Prop} (h : wp_X5_undo p1 u Q) : CI l yX5_undo cX5_undo 3 (some .int) rm_X5_undo g [.ref (gad g 39), .int p1] u Q := by
  refine ent (own := RX5) (Qc := va_Qi Q (WQ g)) (by decide) rfl (Nat.le_of_ble_eq_true rfl) ?_
  intro p e s m below meth c A ls C hl hW
  have hl : lv_has ls 3 [(0, .ref (gad g 39)), (1, .int p1)] := hl
  unfold wp_X5_undo at h
  refine lv_iload_n C.1 C.2.1 dX5_undo_0 rfl (lv_at hl 1 rfl) ?_
  refine lv_iconst (v := 0) C.1 C.2.1 dX5_undo_1 (by decide) ?_
  refine lv_aload_n C.1 C.2.1 dX5_undo_2 rfl (lv_at hl 0 rfl) ?_
  refine fg_X5_119 C hW dX5_undo_3 ?_
  refine x_Si (rest := []) C hW (c_X5_in l g h) km_X5_in qm_X5_88 ⟨rfl, rfl⟩ (by decide) rfl hl.1 rfl (Nat.le_of_ble_eq_true rfl) ⟨Nat.zero_le _, Nat.zero_le _⟩ dX5_undo_6 (fun r1 u1 H locs h hW => ?_)
  refine lv_if_ne (tgt := 14) C.1 C.2.1 dX5_undo_9 (by decide) (fun c2 => ?_) (fun c2 => ?_)
  · have h := h.1 c2
    refine lv_aload_n C.1 C.2.1 dX5_undo_14 rfl (lv_at hl 0 rfl) ?_
    refine fg_X5_119 C hW dX5_undo_15 ?_
    refine lv_iload_n C.1 C.2.1 dX5_undo_18 rfl (lv_at hl 1 rfl) ?_
    refine lv_isub C.1 C.2.1 dX5_undo_19 ?_
    refine lv_istore_n (lv' := [(2, .int ((gi u1 39 16) - p1)), (0, .ref (gad g 39)), (1, .int p1)]) C.1 C.2.1 dX5_undo_20 rfl hl (by decide) rfl (fun ls hl => ?_)
    refine lv_aload_n C.1 C.2.1 dX5_undo_21 rfl (lv_at hl 1 rfl) ?_
    refine lv_iload_n C.1 C.2.1 dX5_undo_22 rfl (lv_at hl 2 rfl) ?_
    refine fp_X5_119 C hW dX5_undo_23 (fun u3 H locs e3 hW => ?_)
    have h := nxt_get h e3
    refine lv_iload_n C.1 C.2.1 dX5_undo_26 rfl (lv_at hl 0 rfl) ?_
    exact x_iret C hW h dX5_undo_27
  · have h := h.2 c2
    refine lv_iconst (v := (-1)) C.1 C.2.1 dX5_undo_12 (by decide) ?_
    exact x_iret C hW h dX5_undo_13
set_option maxRecDepth 100000 in
theorem c_X5_upper (l : Launch) (g : GG) {u : St} {Q : Int64 → St → Prop} (h : wp_X5_upper u Q) : CL l yX5_upper cX5_upper 1 (some .long) rm_X5_upper g [.ref (gad g 39)] u Q := by
  refine ent (own := RX5) (Qc := va_Ql Q (WQ g)) (by decide) rfl (Nat.le_of_ble_eq_true rfl) ?_
  intro p e s m below meth c A ls C hl hW
  have hl : lv_has ls 1 [(0, .ref (gad g 39))] := hl
  unfold wp_X5_upper at h
  refine lv_aload_n C.1 C.2.1 dX5_upper_0 rfl (lv_at hl 0 rfl) ?_
  refine fg_X5_85 C hW dX5_upper_1 ?_
  exact x_lret C hW h dX5_upper_4
set_option maxRecDepth 100000 in
theorem c_X5_would (l : Launch) (g : GG) {p1 : Int32} {u : St} {Q : Int32 → St → Prop} (h : wp_X5_would p1 u Q) : CI l yX5_would cX5_would 2 (some .int) rm_X5_would g [.ref (gad g 39), .int p1] u Q := by
  refine ent (own := RX5) (Qc := va_Qi Q (WQ g)) (by decide) rfl (Nat.le_of_ble_eq_true rfl) ?_
  intro p e s m below meth c A ls C hl hW
  have hl : lv_has ls 2 [(0, .ref (gad g 39)), (1, .int p1)] := hl
  unfold wp_X5_would at h
  refine lv_aload_n C.1 C.2.1 dX5_would_0 rfl (lv_at hl 0 rfl) ?_
  refine lv_iload_n C.1 C.2.1 dX5_would_1 rfl (lv_at hl 1 rfl) ?_
  refine x_Vi (rest := []) C hW (c_X5_isSet l g h) km_X5_isSet oModel rfl qm_X5_176 ⟨rfl, rfl⟩ (by decide) rfl hl.1 rfl (Nat.le_of_ble_eq_true rfl) ⟨Nat.zero_le _, Nat.zero_le _⟩ dX5_would_2 (fun r1 u1 H locs h hW => ?_)
  refine lv_if_ne (tgt := 10) C.1 C.2.1 dX5_would_5 (by decide) (fun c2 => ?_) (fun c2 => ?_)
  · have h := h.1 c2
    refine lv_aload_n C.1 C.2.1 dX5_would_10 rfl (lv_at hl 0 rfl) ?_
    refine fg_X5_116 C hW dX5_would_11 ?_
    refine lv_if_ne (tgt := 20) C.1 C.2.1 dX5_would_14 (by decide) (fun c3 => ?_) (fun c3 => ?_)
    · have h := h.1 c3
      refine lv_aload_n C.1 C.2.1 dX5_would_20 rfl (lv_at hl 0 rfl) ?_
      refine x_Vv (rest := []) C hW (c_X5_take l g h) km_X5_take oModel rfl qm_X5_139 ⟨rfl, rfl⟩ (by decide) rfl hl.1 rfl (Nat.le_of_ble_eq_true rfl) ⟨Nat.zero_le _, Nat.zero_le _⟩ dX5_would_21 (fun u4 H locs h hW => ?_)
      refine lv_aload_n C.1 C.2.1 dX5_would_24 rfl (lv_at hl 0 rfl) ?_
      refine lv_iload_n C.1 C.2.1 dX5_would_25 rfl (lv_at hl 1 rfl) ?_
      refine x_Vi (rest := []) C hW (c_X5_toldOf l g h) km_X5_toldOf oModel rfl qm_X5_179 ⟨rfl, rfl⟩ (by decide) rfl hl.1 rfl (Nat.le_of_ble_eq_true rfl) ⟨Nat.zero_le _, Nat.zero_le _⟩ dX5_would_26 (fun r5 u5 H locs h hW => ?_)
      exact x_iret C hW h dX5_would_29
    · have h := h.2 c3
      refine lv_bipush (v := (-4)) C.1 C.2.1 dX5_would_17 (by decide) ?_
      exact x_iret C hW h dX5_would_19
  · have h := h.2 c2
    refine lv_iconst (v := (-1)) C.1 C.2.1 dX5_would_8 (by decide) ?_
    exact x_iret C hW h dX5_would_9
