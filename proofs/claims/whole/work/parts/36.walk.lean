set_option maxRecDepth 100000 in
theorem k_X5_pairs_J73 {p : Program} {l : Launch} {e : Env} {s : State} {m : MethodId} {args : Array Value} {below : List Frame} {meth : Method} {c : Code} {g : GG} {A : Nat → Prop} {p1 : Int32} {Q : Int32 → St → Prop} (C : MC p s m args meth c cX5_pairs 4 RX5 (some .int) g A) {K37 : Int32 → Int32 → St → Prop} (hK37 : ∀ (v2 : Int32) (v3 : Int32) (u : St) (H : Heap) (locs : List Loc) (ls : Array Slot), K37 v2 v3 u → WD g A s u H locs → lv_has ls 4 [(0, .ref (gad g 39)), (1, .int p1), (2, .int v2), (3, .int v3)] → W p l e rm_X5_pairs s m args below meth c H locs 0 0 (MQ below (va_Qi Q (WQ g) A) args s 0 0 A) (F0 m 37 ls [])) : ∀ (v3 : Int32) (u : St) (H : Heap) (locs : List Loc) (ls : Array Slot), wp_X5_pairs_J73 p1 Q K37 v3 u → WD g A s u H locs → lv_has ls 4 [(0, .ref (gad g 39)), (1, .int p1), (3, .int v3)] → W p l e rm_X5_pairs s m args below meth c H locs 0 0 (MQ below (va_Qi Q (WQ g) A) args s 0 0 A) (F0 m 73 ls []) := by
  intro v3 u H locs ls h hW hl
  refine lv_iconst (v := 0) C.1 C.2.1 dX5_pairs_73 (by decide) ?_
  refine lv_istore_n (lv' := [(2, .int 0), (0, .ref (gad g 39)), (1, .int p1), (3, .int v3)]) C.1 C.2.1 dX5_pairs_74 rfl hl (by decide) rfl (fun ls hl => ?_)
  refine lv_iinc (v := (v3 + 1)) (lv' := [(3, .int (v3 + 1)), (2, .int 0), (0, .ref (gad g 39)), (1, .int p1)]) C.1 C.2.1 dX5_pairs_75 hl (k := 3) rfl rfl (by decide) rfl (fun ls hl => ?_)
  refine lv_goto (tgt := 37) C.1 C.2.1 dX5_pairs_78 (by decide) ?_
  exact hK37 0 (v3 + 1) u _ _ _ h hW (lv_sub hl [2, 3, 1, 0] rfl)
set_option maxRecDepth 100000 in
theorem k_X5_pairs_B37 {p : Program} {l : Launch} {e : Env} {s : State} {m : MethodId} {args : Array Value} {below : List Frame} {meth : Method} {c : Code} {g : GG} {A : Nat → Prop} {p1 : Int32} {Q : Int32 → St → Prop} (C : MC p s m args meth c cX5_pairs 4 RX5 (some .int) g A) {K37 : Int32 → Int32 → St → Prop} (hK37 : ∀ (v2 : Int32) (v3 : Int32) (u : St) (H : Heap) (locs : List Loc) (ls : Array Slot), K37 v2 v3 u → WD g A s u H locs → lv_has ls 4 [(0, .ref (gad g 39)), (1, .int p1), (2, .int v2), (3, .int v3)] → W p l e rm_X5_pairs s m args below meth c H locs 0 0 (MQ below (va_Qi Q (WQ g) A) args s 0 0 A) (F0 m 37 ls [])) : ∀ (v2 : Int32) (v3 : Int32) (u : St) (H : Heap) (locs : List Loc) (ls : Array Slot), wp_X5_pairs_B37 p1 Q K37 v2 v3 u → WD g A s u H locs → lv_has ls 4 [(0, .ref (gad g 39)), (1, .int p1), (2, .int v2), (3, .int v3)] → W p l e rm_X5_pairs s m args below meth c H locs 0 0 (MQ below (va_Qi Q (WQ g) A) args s 0 0 A) (F0 m 37 ls []) := by
  intro v2 v3 u H locs ls h hW hl
  refine lv_iload_n C.1 C.2.1 dX5_pairs_37 rfl (lv_at hl 3 rfl) ?_
  refine lv_aload_n C.1 C.2.1 dX5_pairs_38 rfl (lv_at hl 0 rfl) ?_
  refine fg_X5_17 C hW dX5_pairs_39 ?_
  refine lv_iload_n C.1 C.2.1 dX5_pairs_42 rfl (lv_at hl 1 rfl) ?_
  obtain ⟨h7, h⟩ := h
  refine x_iald C hW g_41 h7 dX5_pairs_43 ?_
  refine lv_icmp_ge (tgt := 81) C.1 C.2.1 dX5_pairs_44 (by decide) (fun c8 => ?_) (fun c8 => ?_)
  · have h := h.1 c8
    refine lv_iload_n C.1 C.2.1 dX5_pairs_81 rfl (lv_at hl 2 rfl) ?_
    refine lv_if_eq (tgt := 89) C.1 C.2.1 dX5_pairs_82 (by decide) (fun c9 => ?_) (fun c9 => ?_)
    · have h := h.1 c9
      refine lv_aload_n C.1 C.2.1 dX5_pairs_89 rfl (lv_at hl 0 rfl) ?_
      refine lv_iconst (v := 3) C.1 C.2.1 dX5_pairs_90 (by decide) ?_
      refine x_Vi (rest := []) C hW (c_X5_find l g h) km_X5_find oModel rfl qm_X5_96 ⟨rfl, rfl⟩ (by decide) rfl hl.1 rfl (Nat.le_of_ble_eq_true rfl) ⟨Nat.zero_le _, Nat.zero_le _⟩ dX5_pairs_91 (fun r10 u10 H locs h hW => ?_)
      exact x_iret C hW h dX5_pairs_94
    · have h := h.2 c9
      refine lv_iconst (v := 0) C.1 C.2.1 dX5_pairs_85 (by decide) ?_
      refine lv_goto (tgt := 94) C.1 C.2.1 dX5_pairs_86 (by decide) ?_
      exact x_iret C hW h dX5_pairs_94
  · have h := h.2 c8
    refine lv_iload_n C.1 C.2.1 dX5_pairs_47 rfl (lv_at hl 2 rfl) ?_
    refine lv_if_eq (tgt := 73) C.1 C.2.1 dX5_pairs_48 (by decide) (fun c11 => ?_) (fun c11 => ?_)
    · have h := h.1 c11
      exact k_X5_pairs_J73 C hK37 v3 u _ _ _ h hW (lv_sub hl [0, 1, 3] rfl)
    · have h := h.2 c11
      refine lv_aload_n C.1 C.2.1 dX5_pairs_51 rfl (lv_at hl 0 rfl) ?_
      refine lv_aload_n C.1 C.2.1 dX5_pairs_52 rfl (lv_at hl 0 rfl) ?_
      refine fg_X5_20 C hW dX5_pairs_53 ?_
      refine lv_bipush (v := 40) C.1 C.2.1 dX5_pairs_56 (by decide) ?_
      refine lv_iload_n C.1 C.2.1 dX5_pairs_58 rfl (lv_at hl 1 rfl) ?_
      refine lv_imul C.1 C.2.1 dX5_pairs_59 ?_
      refine lv_iload_n C.1 C.2.1 dX5_pairs_60 rfl (lv_at hl 3 rfl) ?_
      refine lv_iadd C.1 C.2.1 dX5_pairs_61 ?_
      obtain ⟨h12, h⟩ := h
      refine x_iald C hW g_42 h12 dX5_pairs_62 ?_
      refine x_Vi (rest := []) C hW (c_X5_isSet l g h) km_X5_isSet oModel rfl qm_X5_176 ⟨rfl, rfl⟩ (by decide) rfl hl.1 rfl (Nat.le_of_ble_eq_true rfl) ⟨Nat.zero_le _, Nat.zero_le _⟩ dX5_pairs_63 (fun r13 u13 H locs h hW => ?_)
      refine lv_if_eq (tgt := 73) C.1 C.2.1 dX5_pairs_66 (by decide) (fun c14 => ?_) (fun c14 => ?_)
      · have h := h.1 c14
        exact k_X5_pairs_J73 C hK37 v3 u13 _ _ _ h hW (lv_sub hl [0, 1, 3] rfl)
      · have h := h.2 c14
        refine lv_iconst (v := 1) C.1 C.2.1 dX5_pairs_69 (by decide) ?_
        refine lv_goto (tgt := 74) C.1 C.2.1 dX5_pairs_70 (by decide) ?_
        refine lv_istore_n (lv' := [(2, .int 1), (0, .ref (gad g 39)), (1, .int p1), (3, .int v3)]) C.1 C.2.1 dX5_pairs_74 rfl hl (by decide) rfl (fun ls hl => ?_)
        refine lv_iinc (v := (v3 + 1)) (lv' := [(3, .int (v3 + 1)), (2, .int 1), (0, .ref (gad g 39)), (1, .int p1)]) C.1 C.2.1 dX5_pairs_75 hl (k := 3) rfl rfl (by decide) rfl (fun ls hl => ?_)
        refine lv_goto (tgt := 37) C.1 C.2.1 dX5_pairs_78 (by decide) ?_
        exact hK37 1 (v3 + 1) u13 _ _ _ h hW (lv_sub hl [2, 3, 1, 0] rfl)
theorem k_X5_pairs_L37 {p : Program} {l : Launch} {e : Env} {s : State} {m : MethodId} {args : Array Value} {below : List Frame} {meth : Method} {c : Code} {g : GG} {A : Nat → Prop} {p1 : Int32} {Q : Int32 → St → Prop} (C : MC p s m args meth c cX5_pairs 4 RX5 (some .int) g A) : ∀ (n : Nat), ∀ (v2 : Int32) (v3 : Int32) (u : St) (H : Heap) (locs : List Loc) (ls : Array Slot), wp_X5_pairs_L37 p1 Q n v2 v3 u → WD g A s u H locs → lv_has ls 4 [(0, .ref (gad g 39)), (1, .int p1), (2, .int v2), (3, .int v3)] → W p l e rm_X5_pairs s m args below meth c H locs 0 0 (MQ below (va_Qi Q (WQ g) A) args s 0 0 A) (F0 m 37 ls []) := by
  intro n
  induction n with
  | zero => intro v2 v3 u H locs ls h; exact False.elim h
  | succ n ih => exact k_X5_pairs_B37 (p1 := p1) C ih
set_option maxRecDepth 100000 in
theorem c_X5_pairs (l : Launch) (g : GG) {p1 : Int32} {u : St} {Q : Int32 → St → Prop} (h : wp_X5_pairs p1 u Q) : CI l yX5_pairs cX5_pairs 4 (some .int) rm_X5_pairs g [.ref (gad g 39), .int p1] u Q := by
  refine ent (own := RX5) (Qc := va_Qi Q (WQ g)) (by decide) rfl (Nat.le_of_ble_eq_true rfl) ?_
  intro p e s m below meth c A ls C hl hW
  have hl : lv_has ls 4 [(0, .ref (gad g 39)), (1, .int p1)] := hl
  unfold wp_X5_pairs at h
  refine lv_aload_n C.1 C.2.1 dX5_pairs_0 rfl (lv_at hl 0 rfl) ?_
  refine fg_X5_17 C hW dX5_pairs_1 ?_
  refine lv_iload_n C.1 C.2.1 dX5_pairs_4 rfl (lv_at hl 1 rfl) ?_
  obtain ⟨h1, h⟩ := h
  refine x_iald C hW g_41 h1 dX5_pairs_5 ?_
  refine lv_if_ge (tgt := 15) C.1 C.2.1 dX5_pairs_6 (by decide) (fun c2 => ?_) (fun c2 => ?_)
  · have h := h.1 c2
    refine lv_aload_n C.1 C.2.1 dX5_pairs_15 rfl (lv_at hl 0 rfl) ?_
    refine fg_X5_17 C hW dX5_pairs_16 ?_
    refine lv_iload_n C.1 C.2.1 dX5_pairs_19 rfl (lv_at hl 1 rfl) ?_
    obtain ⟨h3, h⟩ := h
    refine x_iald C hW g_41 h3 dX5_pairs_20 ?_
    refine lv_iconst (v := 2) C.1 C.2.1 dX5_pairs_21 (by decide) ?_
    refine lv_irem C.1 C.2.1 dX5_pairs_22 (by decide) ?_
    refine lv_iconst (v := 1) C.1 C.2.1 dX5_pairs_23 (by decide) ?_
    refine lv_icmp_ne (tgt := 33) C.1 C.2.1 dX5_pairs_24 (by decide) (fun c4 => ?_) (fun c4 => ?_)
    · have h := h.1 c4
      refine lv_iconst (v := 1) C.1 C.2.1 dX5_pairs_33 (by decide) ?_
      refine lv_istore_n (lv' := [(2, .int 1), (0, .ref (gad g 39)), (1, .int p1)]) C.1 C.2.1 dX5_pairs_34 rfl hl (by decide) rfl (fun ls hl => ?_)
      refine lv_iconst (v := 0) C.1 C.2.1 dX5_pairs_35 (by decide) ?_
      refine lv_istore_n (lv' := [(3, .int 0), (2, .int 1), (0, .ref (gad g 39)), (1, .int p1)]) C.1 C.2.1 dX5_pairs_36 rfl hl (by decide) rfl (fun ls hl => ?_)
      obtain ⟨n, h⟩ := h
      exact k_X5_pairs_L37 C n 1 0 u _ _ _ h hW (lv_sub hl [2, 3, 1, 0] rfl)
    · have h := h.2 c4
      refine lv_aload_n C.1 C.2.1 dX5_pairs_27 rfl (lv_at hl 0 rfl) ?_
      refine lv_iconst (v := 5) C.1 C.2.1 dX5_pairs_28 (by decide) ?_
      refine x_Vi (rest := []) C hW (c_X5_find l g h) km_X5_find oModel rfl qm_X5_96 ⟨rfl, rfl⟩ (by decide) rfl hl.1 rfl (Nat.le_of_ble_eq_true rfl) ⟨Nat.zero_le _, Nat.zero_le _⟩ dX5_pairs_29 (fun r5 u5 H locs h hW => ?_)
      exact x_iret C hW h dX5_pairs_32
  · have h := h.2 c2
    refine lv_aload_n C.1 C.2.1 dX5_pairs_9 rfl (lv_at hl 0 rfl) ?_
    refine lv_iconst (v := 1) C.1 C.2.1 dX5_pairs_10 (by decide) ?_
    refine x_Vi (rest := []) C hW (c_X5_find l g h) km_X5_find oModel rfl qm_X5_96 ⟨rfl, rfl⟩ (by decide) rfl hl.1 rfl (Nat.le_of_ble_eq_true rfl) ⟨Nat.zero_le _, Nat.zero_le _⟩ dX5_pairs_11 (fun r6 u6 H locs h hW => ?_)
    exact x_iret C hW h dX5_pairs_14
set_option maxRecDepth 100000 in
theorem c_X5_kinds (l : Launch) (g : GG) {p1 : Int32} {p2 : Int32} {u : St} {Q : Int32 → St → Prop} (h : wp_X5_kinds p1 p2 u Q) : CI l yX5_kinds cX5_kinds 4 (some .int) rm_X5_kinds g [.ref (gad g 39), .int p1, .int p2] u Q := by
  refine ent (own := RX5) (Qc := va_Qi Q (WQ g)) (by decide) rfl (Nat.le_of_ble_eq_true rfl) ?_
  intro p e s m below meth c A ls C hl hW
  have hl : lv_has ls 4 [(0, .ref (gad g 39)), (1, .int p1), (2, .int p2)] := hl
  unfold wp_X5_kinds at h
  refine lv_aload_n C.1 C.2.1 dX5_kinds_0 rfl (lv_at hl 0 rfl) ?_
  refine lv_iload_n C.1 C.2.1 dX5_kinds_1 rfl (lv_at hl 1 rfl) ?_
  refine x_Vi (rest := []) C hW (c_X5_isKey l g h) km_X5_isKey oModel rfl qm_X5_149 ⟨rfl, rfl⟩ (by decide) rfl hl.1 rfl (Nat.le_of_ble_eq_true rfl) ⟨Nat.zero_le _, Nat.zero_le _⟩ dX5_kinds_2 (fun r1 u1 H locs h hW => ?_)
  refine lv_if_eq (tgt := 15) C.1 C.2.1 dX5_kinds_5 (by decide) (fun c2 => ?_) (fun c2 => ?_)
  · have h := h.1 c2
    refine lv_iconst (v := (-1)) C.1 C.2.1 dX5_kinds_15 (by decide) ?_
    exact x_iret C hW h dX5_kinds_16
  · have h := h.2 c2
    refine lv_iload_n C.1 C.2.1 dX5_kinds_8 rfl (lv_at hl 2 rfl) ?_
    refine x_Si (rest := []) C hW (c_X5_isRow l g h) km_X5_isRow qm_X5_92 ⟨rfl, rfl⟩ (by decide) rfl hl.1 rfl (Nat.le_of_ble_eq_true rfl) ⟨Nat.zero_le _, Nat.zero_le _⟩ dX5_kinds_9 (fun r3 u3 H locs h hW => ?_)
    refine lv_if_ne (tgt := 17) C.1 C.2.1 dX5_kinds_12 (by decide) (fun c4 => ?_) (fun c4 => ?_)
    · have h := h.1 c4
      refine lv_aload_n C.1 C.2.1 dX5_kinds_17 rfl (lv_at hl 0 rfl) ?_
      refine lv_iload_n C.1 C.2.1 dX5_kinds_18 rfl (lv_at hl 2 rfl) ?_
      refine x_Vi (rest := []) C hW (c_X5_pairs l g h) km_X5_pairs oModel rfl qm_X5_188 ⟨rfl, rfl⟩ (by decide) rfl hl.1 rfl (Nat.le_of_ble_eq_true rfl) ⟨Nat.zero_le _, Nat.zero_le _⟩ dX5_kinds_19 (fun r5 u5 H locs h hW => ?_)
      refine lv_istore_n (lv' := [(3, .int r5), (0, .ref (gad g 39)), (1, .int p1), (2, .int p2)]) C.1 C.2.1 dX5_kinds_22 rfl hl (by decide) rfl (fun ls hl => ?_)
      refine lv_iload_n C.1 C.2.1 dX5_kinds_23 rfl (lv_at hl 0 rfl) ?_
      refine lv_if_eq (tgt := 31) C.1 C.2.1 dX5_kinds_24 (by decide) (fun c6 => ?_) (fun c6 => ?_)
      · have h := h.1 c6
        refine lv_aload_n C.1 C.2.1 dX5_kinds_31 rfl (lv_at hl 1 rfl) ?_
        refine lv_iload_n C.1 C.2.1 dX5_kinds_32 rfl (lv_at hl 2 rfl) ?_
        refine lv_iload_n C.1 C.2.1 dX5_kinds_33 rfl (lv_at hl 3 rfl) ?_
        refine x_Vi (rest := []) C hW (c_X5_kindsBy l g h) km_X5_kindsBy oModel rfl qm_X5_191 ⟨rfl, rfl⟩ (by decide) rfl hl.1 rfl (Nat.le_of_ble_eq_true rfl) ⟨Nat.zero_le _, Nat.zero_le _⟩ dX5_kinds_34 (fun r7 u7 H locs h hW => ?_)
        exact x_iret C hW h dX5_kinds_37
      · have h := h.2 c6
        refine lv_iload_n C.1 C.2.1 dX5_kinds_27 rfl (lv_at hl 0 rfl) ?_
        refine lv_goto (tgt := 37) C.1 C.2.1 dX5_kinds_28 (by decide) ?_
        exact x_iret C hW h dX5_kinds_37
    · have h := h.2 c4
      refine lv_iconst (v := (-1)) C.1 C.2.1 dX5_kinds_15 (by decide) ?_
      exact x_iret C hW h dX5_kinds_16
set_option maxRecDepth 100000 in
theorem k_X5_passOn_J47 {p : Program} {l : Launch} {e : Env} {s : State} {m : MethodId} {args : Array Value} {below : List Frame} {meth : Method} {c : Code} {g : GG} {A : Nat → Prop} {b1 : Nat} {p2 : Int32} (hb1 : isPas b1) {Q : St → Prop} (C : MC p s m args meth c cX5_passOn 4 RX5 none g A) {K2 : Int32 → St → Prop} (hK2 : ∀ (v3 : Int32) (u : St) (H : Heap) (locs : List Loc) (ls : Array Slot), K2 v3 u → WD g A s u H locs → lv_has ls 4 [(0, .ref (gad g 39)), (1, .ref (gad g b1)), (2, .int p2), (3, .int v3)] → W p l e rm_X5_passOn s m args below meth c H locs 0 0 (MQ below (va_Qv Q (WQ g) A) args s 0 0 A) (F0 m 2 ls [])) : ∀ (v3 : Int32) (t0 : Int32) (t1 : Int32) (t2 : Int32) (u : St) (H : Heap) (locs : List Loc) (ls : Array Slot), wp_X5_passOn_J47 b1 p2 Q K2 v3 t0 t1 t2 u → WD g A s u H locs → lv_has ls 4 [(0, .ref (gad g 39)), (1, .ref (gad g b1)), (2, .int p2), (3, .int v3)] → W p l e rm_X5_passOn s m args below meth c H locs 0 0 (MQ below (va_Qv Q (WQ g) A) args s 0 0 A) (F0 m 47 ls [.int t0, .int t1, .int t2, .ref (gad g b1)]) := by
  intro v3 t0 t1 t2 u H locs ls h hW hl
  refine lv_iadd C.1 C.2.1 dX5_passOn_47 ?_
  obtain ⟨h11, h⟩ := h
  refine x_iast C hW (gPas hb1) h11 dX5_passOn_48 (fun u12 H locs e12 hW => ?_)
  have h := nxt_get h e12
  refine lv_iinc (v := (v3 + 1)) (lv' := [(3, .int (v3 + 1)), (0, .ref (gad g 39)), (1, .ref (gad g b1)), (2, .int p2)]) C.1 C.2.1 dX5_passOn_49 hl (k := 3) rfl rfl (by decide) rfl (fun ls hl => ?_)
  refine lv_goto (tgt := 2) C.1 C.2.1 dX5_passOn_52 (by decide) ?_
  exact hK2 (v3 + 1) u12 _ _ _ h hW (lv_sub hl [1, 2, 3, 0] rfl)
set_option maxRecDepth 100000 in
theorem k_X5_passOn_J46 {p : Program} {l : Launch} {e : Env} {s : State} {m : MethodId} {args : Array Value} {below : List Frame} {meth : Method} {c : Code} {g : GG} {A : Nat → Prop} {b1 : Nat} {p2 : Int32} (hb1 : isPas b1) {Q : St → Prop} (C : MC p s m args meth c cX5_passOn 4 RX5 none g A) {K2 : Int32 → St → Prop} (hK2 : ∀ (v3 : Int32) (u : St) (H : Heap) (locs : List Loc) (ls : Array Slot), K2 v3 u → WD g A s u H locs → lv_has ls 4 [(0, .ref (gad g 39)), (1, .ref (gad g b1)), (2, .int p2), (3, .int v3)] → W p l e rm_X5_passOn s m args below meth c H locs 0 0 (MQ below (va_Qv Q (WQ g) A) args s 0 0 A) (F0 m 2 ls [])) : ∀ (v3 : Int32) (t0 : Int32) (t1 : Int32) (u : St) (H : Heap) (locs : List Loc) (ls : Array Slot), wp_X5_passOn_J46 b1 p2 Q K2 v3 t0 t1 u → WD g A s u H locs → lv_has ls 4 [(0, .ref (gad g 39)), (1, .ref (gad g b1)), (2, .int p2), (3, .int v3)] → W p l e rm_X5_passOn s m args below meth c H locs 0 0 (MQ below (va_Qv Q (WQ g) A) args s 0 0 A) (F0 m 46 ls [.int t0, .int t1, .ref (gad g b1)]) := by
  intro v3 t0 t1 u H locs ls h hW hl
  refine lv_iconst (v := 0) C.1 C.2.1 dX5_passOn_46 (by decide) ?_
  exact k_X5_passOn_J47 hb1 C hK2 v3 0 t0 t1 u _ _ _ h hW hl
set_option maxRecDepth 100000 in
theorem k_X5_passOn_B2 {p : Program} {l : Launch} {e : Env} {s : State} {m : MethodId} {args : Array Value} {below : List Frame} {meth : Method} {c : Code} {g : GG} {A : Nat → Prop} {b1 : Nat} {p2 : Int32} (hb1 : isPas b1) {Q : St → Prop} (C : MC p s m args meth c cX5_passOn 4 RX5 none g A) {K2 : Int32 → St → Prop} (hK2 : ∀ (v3 : Int32) (u : St) (H : Heap) (locs : List Loc) (ls : Array Slot), K2 v3 u → WD g A s u H locs → lv_has ls 4 [(0, .ref (gad g 39)), (1, .ref (gad g b1)), (2, .int p2), (3, .int v3)] → W p l e rm_X5_passOn s m args below meth c H locs 0 0 (MQ below (va_Qv Q (WQ g) A) args s 0 0 A) (F0 m 2 ls [])) : ∀ (v3 : Int32) (u : St) (H : Heap) (locs : List Loc) (ls : Array Slot), wp_X5_passOn_B2 b1 p2 Q K2 v3 u → WD g A s u H locs → lv_has ls 4 [(0, .ref (gad g 39)), (1, .ref (gad g b1)), (2, .int p2), (3, .int v3)] → W p l e rm_X5_passOn s m args below meth c H locs 0 0 (MQ below (va_Qv Q (WQ g) A) args s 0 0 A) (F0 m 2 ls []) := by
  intro v3 u H locs ls h hW hl
  refine lv_iload_n C.1 C.2.1 dX5_passOn_2 rfl (lv_at hl 3 rfl) ?_
  refine lv_aload_n C.1 C.2.1 dX5_passOn_3 rfl (lv_at hl 0 rfl) ?_
  refine fg_X5_116 C hW dX5_passOn_4 ?_
  refine lv_icmp_ge (tgt := 55) C.1 C.2.1 dX5_passOn_7 (by decide) (fun c1 => ?_) (fun c1 => ?_)
  · have h := h.1 c1
    refine lv_aload_n C.1 C.2.1 dX5_passOn_55 rfl (lv_at hl 1 rfl) ?_
    refine lv_iload_n C.1 C.2.1 dX5_passOn_56 rfl (lv_at hl 2 rfl) ?_
    refine lv_iconst (v := 1) C.1 C.2.1 dX5_passOn_57 (by decide) ?_
    refine lv_iadd C.1 C.2.1 dX5_passOn_58 ?_
    refine lv_dup2_11 C.1 C.2.1 dX5_passOn_59 rfl rfl ?_
    obtain ⟨h2, h⟩ := h
    refine x_iald C hW (gPas hb1) h2 dX5_passOn_60 ?_
    refine lv_iconst (v := 1) C.1 C.2.1 dX5_passOn_61 (by decide) ?_
    refine lv_iadd C.1 C.2.1 dX5_passOn_62 ?_
    obtain ⟨h3, h⟩ := h
    refine x_iast C hW (gPas hb1) h3 dX5_passOn_63 (fun u4 H locs e4 hW => ?_)
    have h := nxt_get h e4
    exact x_vret C hW h dX5_passOn_64
  · have h := h.2 c1
    refine lv_aload_n C.1 C.2.1 dX5_passOn_10 rfl (lv_at hl 1 rfl) ?_
    refine lv_iload_n C.1 C.2.1 dX5_passOn_11 rfl (lv_at hl 2 rfl) ?_
    refine lv_iconst (v := 3) C.1 C.2.1 dX5_passOn_12 (by decide) ?_
    refine lv_iadd C.1 C.2.1 dX5_passOn_13 ?_
    refine lv_iload_n C.1 C.2.1 dX5_passOn_14 rfl (lv_at hl 3 rfl) ?_
    refine lv_iadd C.1 C.2.1 dX5_passOn_15 ?_
    refine lv_dup2_11 C.1 C.2.1 dX5_passOn_16 rfl rfl ?_
    obtain ⟨h5, h⟩ := h
    refine x_iald C hW (gPas hb1) h5 dX5_passOn_17 ?_
    refine lv_aload_n C.1 C.2.1 dX5_passOn_18 rfl (lv_at hl 1 rfl) ?_
    refine lv_iload_n C.1 C.2.1 dX5_passOn_19 rfl (lv_at hl 2 rfl) ?_
    refine lv_iconst (v := 0) C.1 C.2.1 dX5_passOn_20 (by decide) ?_
    refine lv_iadd C.1 C.2.1 dX5_passOn_21 ?_
    obtain ⟨h6, h⟩ := h
    refine x_iald C hW (gPas hb1) h6 dX5_passOn_22 ?_
    refine lv_iload_n C.1 C.2.1 dX5_passOn_23 rfl (lv_at hl 3 rfl) ?_
    refine x_Si (rest := [.int (gi u b1 (Int32.toNatClampNeg ((p2 + 3) + v3))), .int ((p2 + 3) + v3), .ref (gad g b1)]) C hW (c_X5_has l g h) km_X5_has qm_X5_125 ⟨rfl, rfl⟩ (by decide) rfl hl.1 rfl (Nat.le_of_ble_eq_true rfl) ⟨Nat.zero_le _, Nat.zero_le _⟩ dX5_passOn_24 (fun r7 u7 H locs h hW => ?_)
    refine lv_if_eq (tgt := 46) C.1 C.2.1 dX5_passOn_27 (by decide) (fun c8 => ?_) (fun c8 => ?_)
    · have h := h.1 c8
      exact k_X5_passOn_J46 hb1 C hK2 v3 (gi u b1 (Int32.toNatClampNeg ((p2 + 3) + v3))) ((p2 + 3) + v3) u7 _ _ _ h hW hl
    · have h := h.2 c8
      refine lv_aload_n C.1 C.2.1 dX5_passOn_30 rfl (lv_at hl 1 rfl) ?_
      refine lv_iload_n C.1 C.2.1 dX5_passOn_31 rfl (lv_at hl 2 rfl) ?_
      refine lv_iconst (v := 3) C.1 C.2.1 dX5_passOn_32 (by decide) ?_
      refine lv_iadd C.1 C.2.1 dX5_passOn_33 ?_
      refine lv_iload_n C.1 C.2.1 dX5_passOn_34 rfl (lv_at hl 3 rfl) ?_
      refine lv_iadd C.1 C.2.1 dX5_passOn_35 ?_
      obtain ⟨h9, h⟩ := h
      refine x_iald C hW (gPas hb1) h9 dX5_passOn_36 ?_
      refine lv_bipush (v := 9) C.1 C.2.1 dX5_passOn_37 (by decide) ?_
      refine lv_icmp_ge (tgt := 46) C.1 C.2.1 dX5_passOn_39 (by decide) (fun c10 => ?_) (fun c10 => ?_)
      · have h := h.1 c10
        exact k_X5_passOn_J46 hb1 C hK2 v3 (gi u b1 (Int32.toNatClampNeg ((p2 + 3) + v3))) ((p2 + 3) + v3) u7 _ _ _ h hW hl
      · have h := h.2 c10
        refine lv_iconst (v := 1) C.1 C.2.1 dX5_passOn_42 (by decide) ?_
        refine lv_goto (tgt := 47) C.1 C.2.1 dX5_passOn_43 (by decide) ?_
        exact k_X5_passOn_J47 hb1 C hK2 v3 1 (gi u b1 (Int32.toNatClampNeg ((p2 + 3) + v3))) ((p2 + 3) + v3) u7 _ _ _ h hW hl
theorem k_X5_passOn_L2 {p : Program} {l : Launch} {e : Env} {s : State} {m : MethodId} {args : Array Value} {below : List Frame} {meth : Method} {c : Code} {g : GG} {A : Nat → Prop} {b1 : Nat} {p2 : Int32} (hb1 : isPas b1) {Q : St → Prop} (C : MC p s m args meth c cX5_passOn 4 RX5 none g A) : ∀ (n : Nat), ∀ (v3 : Int32) (u : St) (H : Heap) (locs : List Loc) (ls : Array Slot), wp_X5_passOn_L2 b1 p2 Q n v3 u → WD g A s u H locs → lv_has ls 4 [(0, .ref (gad g 39)), (1, .ref (gad g b1)), (2, .int p2), (3, .int v3)] → W p l e rm_X5_passOn s m args below meth c H locs 0 0 (MQ below (va_Qv Q (WQ g) A) args s 0 0 A) (F0 m 2 ls []) := by
  intro n
  induction n with
  | zero => intro v3 u H locs ls h; exact False.elim h
  | succ n ih => exact k_X5_passOn_B2 (b1 := b1) (p2 := p2) hb1 C ih
set_option maxRecDepth 100000 in
theorem c_X5_passOn (l : Launch) (g : GG) {b1 : Nat} {p2 : Int32} (hb1 : isPas b1) {u : St} {Q : St → Prop} (h : wp_X5_passOn b1 p2 u Q) : CV l yX5_passOn cX5_passOn 4 none rm_X5_passOn g [.ref (gad g 39), .ref (gad g b1), .int p2] u Q := by
  refine ent (own := RX5) (Qc := va_Qv Q (WQ g)) (by decide) rfl (Nat.le_of_ble_eq_true rfl) ?_
  intro p e s m below meth c A ls C hl hW
  have hl : lv_has ls 4 [(0, .ref (gad g 39)), (1, .ref (gad g b1)), (2, .int p2)] := hl
  unfold wp_X5_passOn at h
  refine lv_iconst (v := 0) C.1 C.2.1 dX5_passOn_0 (by decide) ?_
  refine lv_istore_n (lv' := [(3, .int 0), (0, .ref (gad g 39)), (1, .ref (gad g b1)), (2, .int p2)]) C.1 C.2.1 dX5_passOn_1 rfl hl (by decide) rfl (fun ls hl => ?_)
  obtain ⟨n, h⟩ := h
  exact k_X5_passOn_L2 hb1 C n 0 u _ _ _ h hW (lv_sub hl [1, 2, 3, 0] rfl)
set_option maxRecDepth 100000 in
theorem k_X5_later_J102 {p : Program} {l : Launch} {e : Env} {s : State} {m : MethodId} {args : Array Value} {below : List Frame} {meth : Method} {c : Code} {g : GG} {A : Nat → Prop} {p1 : Int32} {Q : Int32 → St → Prop} (C : MC p s m args meth c cX5_later 6 RX5 (some .int) g A) {K30 : Int32 → Int32 → St → Prop} (hK30 : ∀ (v2 : Int32) (v3 : Int32) (u : St) (H : Heap) (locs : List Loc) (ls : Array Slot), K30 v2 v3 u → WD g A s u H locs → lv_has ls 6 [(0, .ref (gad g 39)), (1, .int p1), (2, .int v2), (3, .int v3)] → W p l e rm_X5_later s m args below meth c H locs 0 0 (MQ below (va_Qi Q (WQ g) A) args s 0 0 A) (F0 m 30 ls [])) : ∀ (v3 : Int32) (t0 : Int32) (t1 : Int32) (u : St) (H : Heap) (locs : List Loc) (ls : Array Slot), wp_X5_later_J102 p1 Q K30 v3 t0 t1 u → WD g A s u H locs → lv_has ls 6 [(0, .ref (gad g 39)), (1, .int p1), (3, .int v3)] → W p l e rm_X5_later s m args below meth c H locs 0 0 (MQ below (va_Qi Q (WQ g) A) args s 0 0 A) (F0 m 102 ls [.int t0, .int t1]) := by
  intro v3 t0 t1 u H locs ls h hW hl
  refine lv_iadd C.1 C.2.1 dX5_later_102 ?_
  refine lv_istore_n (lv' := [(2, .int (t1 + t0)), (0, .ref (gad g 39)), (1, .int p1), (3, .int v3)]) C.1 C.2.1 dX5_later_103 rfl hl (by decide) rfl (fun ls hl => ?_)
  refine lv_aload_n C.1 C.2.1 dX5_later_104 rfl (lv_at hl 1 rfl) ?_
  refine lv_aload_n C.1 C.2.1 dX5_later_105 rfl (lv_at hl 1 rfl) ?_
  refine fg_X5_54 C hW dX5_later_106 ?_
  refine lv_iconst (v := 0) C.1 C.2.1 dX5_later_109 (by decide) ?_
  refine x_Vv (rest := []) C hW (c_X5_passOn l g (Or.inr rfl) h) km_X5_passOn oModel rfl qm_X5_172 ⟨rfl, rfl⟩ (by decide) rfl hl.1 rfl (Nat.le_of_ble_eq_true rfl) ⟨Nat.zero_le _, Nat.zero_le _⟩ dX5_later_110 (fun u17 H locs h hW => ?_)
  refine lv_iinc (v := (v3 + 1)) (lv' := [(3, .int (v3 + 1)), (2, .int (t1 + t0)), (0, .ref (gad g 39)), (1, .int p1)]) C.1 C.2.1 dX5_later_113 hl (k := 3) rfl rfl (by decide) rfl (fun ls hl => ?_)
  refine lv_goto (tgt := 30) C.1 C.2.1 dX5_later_116 (by decide) ?_
  exact hK30 (t1 + t0) (v3 + 1) u17 _ _ _ h hW (lv_sub hl [2, 3, 1, 0] rfl)
set_option maxRecDepth 100000 in
theorem k_X5_later_J82 {p : Program} {l : Launch} {e : Env} {s : State} {m : MethodId} {args : Array Value} {below : List Frame} {meth : Method} {c : Code} {g : GG} {A : Nat → Prop} {p1 : Int32} {Q : Int32 → St → Prop} (C : MC p s m args meth c cX5_later 6 RX5 (some .int) g A) {K30 : Int32 → Int32 → St → Prop} (hK30 : ∀ (v2 : Int32) (v3 : Int32) (u : St) (H : Heap) (locs : List Loc) (ls : Array Slot), K30 v2 v3 u → WD g A s u H locs → lv_has ls 6 [(0, .ref (gad g 39)), (1, .int p1), (2, .int v2), (3, .int v3)] → W p l e rm_X5_later s m args below meth c H locs 0 0 (MQ below (va_Qi Q (WQ g) A) args s 0 0 A) (F0 m 30 ls [])) {K51 : Int32 → Int32 → Int32 → Int32 → St → Prop} (hK51 : ∀ (v2 : Int32) (v3 : Int32) (v4 : Int32) (v5 : Int32) (u : St) (H : Heap) (locs : List Loc) (ls : Array Slot), K51 v2 v3 v4 v5 u → WD g A s u H locs → lv_has ls 6 [(0, .ref (gad g 39)), (1, .int p1), (2, .int v2), (3, .int v3), (4, .int v4), (5, .int v5)] → W p l e rm_X5_later s m args below meth c H locs 0 0 (MQ below (va_Qi Q (WQ g) A) args s 0 0 A) (F0 m 51 ls [])) : ∀ (v2 : Int32) (v3 : Int32) (v5 : Int32) (u : St) (H : Heap) (locs : List Loc) (ls : Array Slot), wp_X5_later_J82 p1 Q K30 K51 v2 v3 v5 u → WD g A s u H locs → lv_has ls 6 [(0, .ref (gad g 39)), (1, .int p1), (2, .int v2), (3, .int v3), (5, .int v5)] → W p l e rm_X5_later s m args below meth c H locs 0 0 (MQ below (va_Qi Q (WQ g) A) args s 0 0 A) (F0 m 82 ls []) := by
  intro v2 v3 v5 u H locs ls h hW hl
  refine lv_iconst (v := 0) C.1 C.2.1 dX5_later_82 (by decide) ?_
  refine lv_istore (lv' := [(4, .int 0), (0, .ref (gad g 39)), (1, .int p1), (2, .int v2), (3, .int v3), (5, .int v5)]) C.1 C.2.1 dX5_later_83 hl (by decide) rfl (fun ls hl => ?_)
  refine lv_iinc (v := (v5 + 1)) (lv' := [(5, .int (v5 + 1)), (4, .int 0), (0, .ref (gad g 39)), (1, .int p1), (2, .int v2), (3, .int v3)]) C.1 C.2.1 dX5_later_85 hl (k := 5) rfl rfl (by decide) rfl (fun ls hl => ?_)
  refine lv_goto (tgt := 51) C.1 C.2.1 dX5_later_88 (by decide) ?_
  exact hK51 v2 v3 0 (v5 + 1) u _ _ _ h hW (lv_sub hl [2, 3, 4, 5, 1, 0] rfl)
set_option maxRecDepth 100000 in
theorem k_X5_later_B51 {p : Program} {l : Launch} {e : Env} {s : State} {m : MethodId} {args : Array Value} {below : List Frame} {meth : Method} {c : Code} {g : GG} {A : Nat → Prop} {p1 : Int32} {Q : Int32 → St → Prop} (C : MC p s m args meth c cX5_later 6 RX5 (some .int) g A) {K30 : Int32 → Int32 → St → Prop} (hK30 : ∀ (v2 : Int32) (v3 : Int32) (u : St) (H : Heap) (locs : List Loc) (ls : Array Slot), K30 v2 v3 u → WD g A s u H locs → lv_has ls 6 [(0, .ref (gad g 39)), (1, .int p1), (2, .int v2), (3, .int v3)] → W p l e rm_X5_later s m args below meth c H locs 0 0 (MQ below (va_Qi Q (WQ g) A) args s 0 0 A) (F0 m 30 ls [])) {K51 : Int32 → Int32 → Int32 → Int32 → St → Prop} (hK51 : ∀ (v2 : Int32) (v3 : Int32) (v4 : Int32) (v5 : Int32) (u : St) (H : Heap) (locs : List Loc) (ls : Array Slot), K51 v2 v3 v4 v5 u → WD g A s u H locs → lv_has ls 6 [(0, .ref (gad g 39)), (1, .int p1), (2, .int v2), (3, .int v3), (4, .int v4), (5, .int v5)] → W p l e rm_X5_later s m args below meth c H locs 0 0 (MQ below (va_Qi Q (WQ g) A) args s 0 0 A) (F0 m 51 ls [])) : ∀ (v2 : Int32) (v3 : Int32) (v4 : Int32) (v5 : Int32) (u : St) (H : Heap) (locs : List Loc) (ls : Array Slot), wp_X5_later_B51 p1 Q K30 K51 v2 v3 v4 v5 u → WD g A s u H locs → lv_has ls 6 [(0, .ref (gad g 39)), (1, .int p1), (2, .int v2), (3, .int v3), (4, .int v4), (5, .int v5)] → W p l e rm_X5_later s m args below meth c H locs 0 0 (MQ below (va_Qi Q (WQ g) A) args s 0 0 A) (F0 m 51 ls []) := by
  intro v2 v3 v4 v5 u H locs ls h hW hl
  refine lv_iload C.1 C.2.1 dX5_later_51 (lv_at hl 5 rfl) ?_
  refine lv_iload_n C.1 C.2.1 dX5_later_53 rfl (lv_at hl 3 rfl) ?_
  refine lv_icmp_ge (tgt := 91) C.1 C.2.1 dX5_later_54 (by decide) (fun c11 => ?_) (fun c11 => ?_)
  · have h := h.1 c11
    refine lv_iload_n C.1 C.2.1 dX5_later_91 rfl (lv_at hl 2 rfl) ?_
    refine lv_iload C.1 C.2.1 dX5_later_92 (lv_at hl 4 rfl) ?_
    refine lv_if_eq (tgt := 101) C.1 C.2.1 dX5_later_94 (by decide) (fun c12 => ?_) (fun c12 => ?_)
    · have h := h.1 c12
      refine lv_iconst (v := 0) C.1 C.2.1 dX5_later_101 (by decide) ?_
      exact k_X5_later_J102 C hK30 v3 0 v2 u _ _ _ h hW (lv_sub hl [0, 1, 3] rfl)
    · have h := h.2 c12
      refine lv_iconst (v := 1) C.1 C.2.1 dX5_later_97 (by decide) ?_
      refine lv_goto (tgt := 102) C.1 C.2.1 dX5_later_98 (by decide) ?_
      exact k_X5_later_J102 C hK30 v3 1 v2 u _ _ _ h hW (lv_sub hl [0, 1, 3] rfl)
  · have h := h.2 c11
    refine lv_iload C.1 C.2.1 dX5_later_57 (lv_at hl 4 rfl) ?_
    refine lv_if_eq (tgt := 82) C.1 C.2.1 dX5_later_59 (by decide) (fun c13 => ?_) (fun c13 => ?_)
    · have h := h.1 c13
      exact k_X5_later_J82 C hK30 hK51 v2 v3 v5 u _ _ _ h hW (lv_sub hl [0, 1, 2, 3, 5] rfl)
    · have h := h.2 c13
      refine lv_aload_n C.1 C.2.1 dX5_later_62 rfl (lv_at hl 0 rfl) ?_
      refine fg_X5_69 C hW dX5_later_63 ?_
      refine lv_iload C.1 C.2.1 dX5_later_66 (lv_at hl 5 rfl) ?_
      obtain ⟨h14, h⟩ := h
      refine x_iald C hW g_58 h14 dX5_later_68 ?_
      refine lv_aload_n C.1 C.2.1 dX5_later_69 rfl (lv_at hl 0 rfl) ?_
      refine fg_X5_69 C hW dX5_later_70 ?_
      refine lv_iload_n C.1 C.2.1 dX5_later_73 rfl (lv_at hl 3 rfl) ?_
      obtain ⟨h15, h⟩ := h
      refine x_iald C hW g_58 h15 dX5_later_74 ?_
      refine lv_icmp_eq (tgt := 82) C.1 C.2.1 dX5_later_75 (by decide) (fun c16 => ?_) (fun c16 => ?_)
      · have h := h.1 c16
        exact k_X5_later_J82 C hK30 hK51 v2 v3 v5 u _ _ _ h hW (lv_sub hl [0, 1, 2, 3, 5] rfl)
      · have h := h.2 c16
        refine lv_iconst (v := 1) C.1 C.2.1 dX5_later_78 (by decide) ?_
        refine lv_goto (tgt := 83) C.1 C.2.1 dX5_later_79 (by decide) ?_
        refine lv_istore (lv' := [(4, .int 1), (0, .ref (gad g 39)), (1, .int p1), (2, .int v2), (3, .int v3), (5, .int v5)]) C.1 C.2.1 dX5_later_83 hl (by decide) rfl (fun ls hl => ?_)
        refine lv_iinc (v := (v5 + 1)) (lv' := [(5, .int (v5 + 1)), (4, .int 1), (0, .ref (gad g 39)), (1, .int p1), (2, .int v2), (3, .int v3)]) C.1 C.2.1 dX5_later_85 hl (k := 5) rfl rfl (by decide) rfl (fun ls hl => ?_)
        refine lv_goto (tgt := 51) C.1 C.2.1 dX5_later_88 (by decide) ?_
        exact hK51 v2 v3 1 (v5 + 1) u _ _ _ h hW (lv_sub hl [2, 3, 4, 5, 1, 0] rfl)
theorem k_X5_later_L51 {p : Program} {l : Launch} {e : Env} {s : State} {m : MethodId} {args : Array Value} {below : List Frame} {meth : Method} {c : Code} {g : GG} {A : Nat → Prop} {p1 : Int32} {Q : Int32 → St → Prop} (C : MC p s m args meth c cX5_later 6 RX5 (some .int) g A) {K30 : Int32 → Int32 → St → Prop} (hK30 : ∀ (v2 : Int32) (v3 : Int32) (u : St) (H : Heap) (locs : List Loc) (ls : Array Slot), K30 v2 v3 u → WD g A s u H locs → lv_has ls 6 [(0, .ref (gad g 39)), (1, .int p1), (2, .int v2), (3, .int v3)] → W p l e rm_X5_later s m args below meth c H locs 0 0 (MQ below (va_Qi Q (WQ g) A) args s 0 0 A) (F0 m 30 ls [])) : ∀ (n : Nat), ∀ (v2 : Int32) (v3 : Int32) (v4 : Int32) (v5 : Int32) (u : St) (H : Heap) (locs : List Loc) (ls : Array Slot), wp_X5_later_L51 p1 Q K30 n v2 v3 v4 v5 u → WD g A s u H locs → lv_has ls 6 [(0, .ref (gad g 39)), (1, .int p1), (2, .int v2), (3, .int v3), (4, .int v4), (5, .int v5)] → W p l e rm_X5_later s m args below meth c H locs 0 0 (MQ below (va_Qi Q (WQ g) A) args s 0 0 A) (F0 m 51 ls []) := by
  intro n
  induction n with
  | zero => intro v2 v3 v4 v5 u H locs ls h; exact False.elim h
  | succ n ih => exact k_X5_later_B51 (p1 := p1) C hK30 ih
set_option maxRecDepth 100000 in
theorem k_X5_later_B30 {p : Program} {l : Launch} {e : Env} {s : State} {m : MethodId} {args : Array Value} {below : List Frame} {meth : Method} {c : Code} {g : GG} {A : Nat → Prop} {p1 : Int32} {Q : Int32 → St → Prop} (C : MC p s m args meth c cX5_later 6 RX5 (some .int) g A) {K30 : Int32 → Int32 → St → Prop} (hK30 : ∀ (v2 : Int32) (v3 : Int32) (u : St) (H : Heap) (locs : List Loc) (ls : Array Slot), K30 v2 v3 u → WD g A s u H locs → lv_has ls 6 [(0, .ref (gad g 39)), (1, .int p1), (2, .int v2), (3, .int v3)] → W p l e rm_X5_later s m args below meth c H locs 0 0 (MQ below (va_Qi Q (WQ g) A) args s 0 0 A) (F0 m 30 ls [])) : ∀ (v2 : Int32) (v3 : Int32) (u : St) (H : Heap) (locs : List Loc) (ls : Array Slot), wp_X5_later_B30 p1 Q K30 v2 v3 u → WD g A s u H locs → lv_has ls 6 [(0, .ref (gad g 39)), (1, .int p1), (2, .int v2), (3, .int v3)] → W p l e rm_X5_later s m args below meth c H locs 0 0 (MQ below (va_Qi Q (WQ g) A) args s 0 0 A) (F0 m 30 ls []) := by
  intro v2 v3 u H locs ls h hW hl
  refine lv_iload_n C.1 C.2.1 dX5_later_30 rfl (lv_at hl 3 rfl) ?_
  refine lv_iload_n C.1 C.2.1 dX5_later_31 rfl (lv_at hl 1 rfl) ?_
  refine lv_icmp_gt (tgt := 119) C.1 C.2.1 dX5_later_32 (by decide) (fun c5 => ?_) (fun c5 => ?_)
  · have h := h.1 c5
    refine lv_aload_n C.1 C.2.1 dX5_later_119 rfl (lv_at hl 0 rfl) ?_
    refine lv_iload_n C.1 C.2.1 dX5_later_120 rfl (lv_at hl 2 rfl) ?_
    refine x_Vi (rest := []) C hW (c_X5_tellAsked l g h) km_X5_tellAsked oModel rfl qm_X5_100 ⟨rfl, rfl⟩ (by decide) rfl hl.1 rfl (Nat.le_of_ble_eq_true rfl) ⟨Nat.zero_le _, Nat.zero_le _⟩ dX5_later_121 (fun r6 u6 H locs h hW => ?_)
    refine lv_pop C.1 C.2.1 dX5_later_124 rfl ?_
    refine lv_aload_n C.1 C.2.1 dX5_later_125 rfl (lv_at hl 0 rfl) ?_
    refine fg_X5_69 C hW dX5_later_126 ?_
    refine lv_iload_n C.1 C.2.1 dX5_later_129 rfl (lv_at hl 1 rfl) ?_
    obtain ⟨h7, h⟩ := h
    refine x_iald C hW g_58 h7 dX5_later_130 ?_
    exact x_iret C hW h dX5_later_131
  · have h := h.2 c5
    refine lv_aload_n C.1 C.2.1 dX5_later_35 rfl (lv_at hl 0 rfl) ?_
    refine fg_X5_69 C hW dX5_later_36 ?_
    refine lv_iload_n C.1 C.2.1 dX5_later_39 rfl (lv_at hl 3 rfl) ?_
    refine lv_aload_n C.1 C.2.1 dX5_later_40 rfl (lv_at hl 0 rfl) ?_
    refine x_Vi (rest := [.int v3, .ref (gad g 58)]) C hW (c_X5_toldBy l g h) km_X5_toldBy oModel rfl qm_X5_142 ⟨rfl, rfl⟩ (by decide) rfl hl.1 rfl (Nat.le_of_ble_eq_true rfl) ⟨Nat.zero_le _, Nat.zero_le _⟩ dX5_later_41 (fun r8 u8 H locs h hW => ?_)
    obtain ⟨h9, h⟩ := h
    refine x_iast C hW g_58 h9 dX5_later_44 (fun u10 H locs e10 hW => ?_)
    have h := nxt_get h e10
    refine lv_iconst (v := 1) C.1 C.2.1 dX5_later_45 (by decide) ?_
    refine lv_istore (lv' := [(4, .int 1), (0, .ref (gad g 39)), (1, .int p1), (2, .int v2), (3, .int v3)]) C.1 C.2.1 dX5_later_46 hl (by decide) rfl (fun ls hl => ?_)
    refine lv_iconst (v := 0) C.1 C.2.1 dX5_later_48 (by decide) ?_
    refine lv_istore (lv' := [(5, .int 0), (4, .int 1), (0, .ref (gad g 39)), (1, .int p1), (2, .int v2), (3, .int v3)]) C.1 C.2.1 dX5_later_49 hl (by decide) rfl (fun ls hl => ?_)
    obtain ⟨n, h⟩ := h
    exact k_X5_later_L51 C hK30 n v2 v3 1 0 u10 _ _ _ h hW (lv_sub hl [2, 3, 4, 5, 1, 0] rfl)
theorem k_X5_later_L30 {p : Program} {l : Launch} {e : Env} {s : State} {m : MethodId} {args : Array Value} {below : List Frame} {meth : Method} {c : Code} {g : GG} {A : Nat → Prop} {p1 : Int32} {Q : Int32 → St → Prop} (C : MC p s m args meth c cX5_later 6 RX5 (some .int) g A) : ∀ (n : Nat), ∀ (v2 : Int32) (v3 : Int32) (u : St) (H : Heap) (locs : List Loc) (ls : Array Slot), wp_X5_later_L30 p1 Q n v2 v3 u → WD g A s u H locs → lv_has ls 6 [(0, .ref (gad g 39)), (1, .int p1), (2, .int v2), (3, .int v3)] → W p l e rm_X5_later s m args below meth c H locs 0 0 (MQ below (va_Qi Q (WQ g) A) args s 0 0 A) (F0 m 30 ls []) := by
  intro n
  induction n with
  | zero => intro v2 v3 u H locs ls h; exact False.elim h
  | succ n ih => exact k_X5_later_B30 (p1 := p1) C ih
set_option maxRecDepth 100000 in
theorem c_X5_later (l : Launch) (g : GG) {p1 : Int32} {u : St} {Q : Int32 → St → Prop} (h : wp_X5_later p1 u Q) : CI l yX5_later cX5_later 6 (some .int) rm_X5_later g [.ref (gad g 39), .int p1] u Q := by
  refine ent (own := RX5) (Qc := va_Qi Q (WQ g)) (by decide) rfl (Nat.le_of_ble_eq_true rfl) ?_
  intro p e s m below meth c A ls C hl hW
  have hl : lv_has ls 6 [(0, .ref (gad g 39)), (1, .int p1)] := hl
  unfold wp_X5_later at h
  refine lv_iload_n C.1 C.2.1 dX5_later_0 rfl (lv_at hl 1 rfl) ?_
  refine lv_iconst (v := 0) C.1 C.2.1 dX5_later_1 (by decide) ?_
  refine lv_bipush (v := 20) C.1 C.2.1 dX5_later_2 (by decide) ?_
  refine x_Si (rest := []) C hW (c_X5_in l g h) km_X5_in qm_X5_88 ⟨rfl, rfl⟩ (by decide) rfl hl.1 rfl (Nat.le_of_ble_eq_true rfl) ⟨Nat.zero_le _, Nat.zero_le _⟩ dX5_later_4 (fun r1 u1 H locs h hW => ?_)
  refine lv_if_ne (tgt := 12) C.1 C.2.1 dX5_later_7 (by decide) (fun c2 => ?_) (fun c2 => ?_)
  · have h := h.1 c2
    refine lv_aload_n C.1 C.2.1 dX5_later_12 rfl (lv_at hl 0 rfl) ?_
    refine fg_X5_116 C hW dX5_later_13 ?_
    refine lv_if_ne (tgt := 22) C.1 C.2.1 dX5_later_16 (by decide) (fun c3 => ?_) (fun c3 => ?_)
    · have h := h.1 c3
      refine lv_aload_n C.1 C.2.1 dX5_later_22 rfl (lv_at hl 0 rfl) ?_
      refine x_Vv (rest := []) C hW (c_X5_take l g h) km_X5_take oModel rfl qm_X5_139 ⟨rfl, rfl⟩ (by decide) rfl hl.1 rfl (Nat.le_of_ble_eq_true rfl) ⟨Nat.zero_le _, Nat.zero_le _⟩ dX5_later_23 (fun u4 H locs h hW => ?_)
      refine lv_iconst (v := 0) C.1 C.2.1 dX5_later_26 (by decide) ?_
      refine lv_istore_n (lv' := [(2, .int 0), (0, .ref (gad g 39)), (1, .int p1)]) C.1 C.2.1 dX5_later_27 rfl hl (by decide) rfl (fun ls hl => ?_)
      refine lv_iconst (v := 0) C.1 C.2.1 dX5_later_28 (by decide) ?_
      refine lv_istore_n (lv' := [(3, .int 0), (2, .int 0), (0, .ref (gad g 39)), (1, .int p1)]) C.1 C.2.1 dX5_later_29 rfl hl (by decide) rfl (fun ls hl => ?_)
      obtain ⟨n, h⟩ := h
      exact k_X5_later_L30 C n 0 0 u4 _ _ _ h hW (lv_sub hl [2, 3, 1, 0] rfl)
    · have h := h.2 c3
      refine lv_bipush (v := (-4)) C.1 C.2.1 dX5_later_19 (by decide) ?_
      exact x_iret C hW h dX5_later_21
  · have h := h.2 c2
    refine lv_iconst (v := (-1)) C.1 C.2.1 dX5_later_10 (by decide) ?_
    exact x_iret C hW h dX5_later_11
set_option maxRecDepth 100000 in
theorem c_X5_lay (l : Launch) (g : GG) {p1 : Int32} {p2 : Int32} {p3 : Int32} {u : St} {Q : Int32 → St → Prop} (h : wp_X5_lay p1 p2 p3 u Q) : CI l yX5_lay cX5_lay 5 (some .int) rm_X5_lay g [.ref (gad g 39), .int p1, .int p2, .int p3] u Q := by
  refine ent (own := RX5) (Qc := va_Qi Q (WQ g)) (by decide) rfl (Nat.le_of_ble_eq_true rfl) ?_
  intro p e s m below meth c A ls C hl hW
  have hl : lv_has ls 5 [(0, .ref (gad g 39)), (1, .int p1), (2, .int p2), (3, .int p3)] := hl
  unfold wp_X5_lay at h
  refine lv_iload_n C.1 C.2.1 dX5_lay_0 rfl (lv_at hl 1 rfl) ?_
  refine x_Si (rest := []) C hW (c_X5_isRow l g h) km_X5_isRow qm_X5_92 ⟨rfl, rfl⟩ (by decide) rfl hl.1 rfl (Nat.le_of_ble_eq_true rfl) ⟨Nat.zero_le _, Nat.zero_le _⟩ dX5_lay_1 (fun r1 u1 H locs h hW => ?_)
  refine lv_if_ne (tgt := 9) C.1 C.2.1 dX5_lay_4 (by decide) (fun c2 => ?_) (fun c2 => ?_)
  · have h := h.1 c2
    refine lv_aload_n C.1 C.2.1 dX5_lay_9 rfl (lv_at hl 0 rfl) ?_
    refine fg_X5_17 C hW dX5_lay_10 ?_
    refine lv_iload_n C.1 C.2.1 dX5_lay_13 rfl (lv_at hl 1 rfl) ?_
    obtain ⟨h3, h⟩ := h
    refine x_iald C hW g_41 h3 dX5_lay_14 ?_
    refine lv_if_ge (tgt := 24) C.1 C.2.1 dX5_lay_15 (by decide) (fun c4 => ?_) (fun c4 => ?_)
    · have h := h.1 c4
      refine lv_iload_n C.1 C.2.1 dX5_lay_24 rfl (lv_at hl 2 rfl) ?_
      refine lv_iconst (v := 0) C.1 C.2.1 dX5_lay_25 (by decide) ?_
      refine lv_aload_n C.1 C.2.1 dX5_lay_26 rfl (lv_at hl 0 rfl) ?_
      refine fg_X5_17 C hW dX5_lay_27 ?_
      refine lv_iload_n C.1 C.2.1 dX5_lay_30 rfl (lv_at hl 1 rfl) ?_
      obtain ⟨h5, h⟩ := h
      refine x_iald C hW g_41 h5 dX5_lay_31 ?_
      refine lv_iconst (v := 1) C.1 C.2.1 dX5_lay_32 (by decide) ?_
      refine lv_isub C.1 C.2.1 dX5_lay_33 ?_
      refine x_Si (rest := []) C hW (c_X5_in l g h) km_X5_in qm_X5_88 ⟨rfl, rfl⟩ (by decide) rfl hl.1 rfl (Nat.le_of_ble_eq_true rfl) ⟨Nat.zero_le _, Nat.zero_le _⟩ dX5_lay_34 (fun r6 u6 H locs h hW => ?_)
      refine lv_if_ne (tgt := 46) C.1 C.2.1 dX5_lay_37 (by decide) (fun c7 => ?_) (fun c7 => ?_)
      · have h := h.1 c7
        refine lv_aload_n C.1 C.2.1 dX5_lay_46 rfl (lv_at hl 0 rfl) ?_
        refine fg_X5_20 C hW dX5_lay_47 ?_
        refine lv_bipush (v := 40) C.1 C.2.1 dX5_lay_50 (by decide) ?_
        refine lv_iload_n C.1 C.2.1 dX5_lay_52 rfl (lv_at hl 1 rfl) ?_
        refine lv_imul C.1 C.2.1 dX5_lay_53 ?_
        refine lv_iload_n C.1 C.2.1 dX5_lay_54 rfl (lv_at hl 2 rfl) ?_
        refine lv_iadd C.1 C.2.1 dX5_lay_55 ?_
        obtain ⟨h8, h⟩ := h
        refine x_iald C hW g_42 h8 dX5_lay_56 ?_
        refine lv_istore (lv' := [(4, .int (gi u6 42 (Int32.toNatClampNeg ((40 * p1) + p2)))), (0, .ref (gad g 39)), (1, .int p1), (2, .int p2), (3, .int p3)]) C.1 C.2.1 dX5_lay_57 hl (by decide) rfl (fun ls hl => ?_)
        refine lv_aload_n C.1 C.2.1 dX5_lay_59 rfl (lv_at hl 1 rfl) ?_
        refine fg_X5_20 C hW dX5_lay_60 ?_
        refine lv_bipush (v := 40) C.1 C.2.1 dX5_lay_63 (by decide) ?_
        refine lv_iload_n C.1 C.2.1 dX5_lay_65 rfl (lv_at hl 2 rfl) ?_
        refine lv_imul C.1 C.2.1 dX5_lay_66 ?_
        refine lv_iload_n C.1 C.2.1 dX5_lay_67 rfl (lv_at hl 3 rfl) ?_
        refine lv_iadd C.1 C.2.1 dX5_lay_68 ?_
        refine lv_iload_n C.1 C.2.1 dX5_lay_69 rfl (lv_at hl 4 rfl) ?_
        obtain ⟨h9, h⟩ := h
        refine x_iast C hW g_42 h9 dX5_lay_70 (fun u10 H locs e10 hW => ?_)
        have h := nxt_get h e10
        refine lv_aload_n C.1 C.2.1 dX5_lay_71 rfl (lv_at hl 1 rfl) ?_
        refine lv_iload C.1 C.2.1 dX5_lay_72 (lv_at hl 0 rfl) ?_
        refine x_Vi (rest := []) C hW (c_X5_tellAsked l g h) km_X5_tellAsked oModel rfl qm_X5_100 ⟨rfl, rfl⟩ (by decide) rfl hl.1 rfl (Nat.le_of_ble_eq_true rfl) ⟨Nat.zero_le _, Nat.zero_le _⟩ dX5_lay_74 (fun r11 u11 H locs h hW => ?_)
        exact x_iret C hW h dX5_lay_77
      · have h := h.2 c7
        refine lv_aload_n C.1 C.2.1 dX5_lay_40 rfl (lv_at hl 0 rfl) ?_
        refine lv_iconst (v := 2) C.1 C.2.1 dX5_lay_41 (by decide) ?_
        refine x_Vi (rest := []) C hW (c_X5_find l g h) km_X5_find oModel rfl qm_X5_96 ⟨rfl, rfl⟩ (by decide) rfl hl.1 rfl (Nat.le_of_ble_eq_true rfl) ⟨Nat.zero_le _, Nat.zero_le _⟩ dX5_lay_42 (fun r12 u12 H locs h hW => ?_)
        exact x_iret C hW h dX5_lay_45
    · have h := h.2 c4
      refine lv_aload_n C.1 C.2.1 dX5_lay_18 rfl (lv_at hl 0 rfl) ?_
      refine lv_iconst (v := 1) C.1 C.2.1 dX5_lay_19 (by decide) ?_
      refine x_Vi (rest := []) C hW (c_X5_find l g h) km_X5_find oModel rfl qm_X5_96 ⟨rfl, rfl⟩ (by decide) rfl hl.1 rfl (Nat.le_of_ble_eq_true rfl) ⟨Nat.zero_le _, Nat.zero_le _⟩ dX5_lay_20 (fun r13 u13 H locs h hW => ?_)
      exact x_iret C hW h dX5_lay_23
  · have h := h.2 c2
    refine lv_iconst (v := (-1)) C.1 C.2.1 dX5_lay_7 (by decide) ?_
    exact x_iret C hW h dX5_lay_8
set_option maxRecDepth 100000 in
theorem c_X5_pressNow (l : Launch) (g : GG) {p1 : Int32} {u : St} {Q : St → Prop} (h : wp_X5_pressNow p1 u Q) : CV l yX5_pressNow cX5_pressNow 2 none rm_X5_pressNow g [.ref (gad g 39), .int p1] u Q := by
  refine ent (own := RX5) (Qc := va_Qv Q (WQ g)) (by decide) rfl (Nat.le_of_ble_eq_true rfl) ?_
  intro p e s m below meth c A ls C hl hW
  have hl : lv_has ls 2 [(0, .ref (gad g 39)), (1, .int p1)] := hl
  unfold wp_X5_pressNow at h
  refine lv_aload_n C.1 C.2.1 dX5_pressNow_0 rfl (lv_at hl 0 rfl) ?_
  refine fg_X5_45 C hW dX5_pressNow_1 ?_
  refine lv_bipush (v := 10) C.1 C.2.1 dX5_pressNow_4 (by decide) ?_
  refine lv_aload_n C.1 C.2.1 dX5_pressNow_6 rfl (lv_at hl 0 rfl) ?_
  refine fg_X5_119 C hW dX5_pressNow_7 ?_
  refine lv_imul C.1 C.2.1 dX5_pressNow_10 ?_
  refine lv_iconst (v := 0) C.1 C.2.1 dX5_pressNow_11 (by decide) ?_
  refine lv_iadd C.1 C.2.1 dX5_pressNow_12 ?_
  refine lv_aload_n C.1 C.2.1 dX5_pressNow_13 rfl (lv_at hl 0 rfl) ?_
  refine lv_iconst (v := 0) C.1 C.2.1 dX5_pressNow_14 (by decide) ?_
  refine x_Vi (rest := [.int ((10 * (gi u 39 16)) + 0), .ref (gad g 50)]) C hW (c_X5_now l g h) km_X5_now oModel rfl qm_X5_122 ⟨rfl, rfl⟩ (by decide) rfl hl.1 rfl (Nat.le_of_ble_eq_true rfl) ⟨Nat.zero_le _, Nat.zero_le _⟩ dX5_pressNow_15 (fun r1 u1 H locs h hW => ?_)
  refine lv_iload_n C.1 C.2.1 dX5_pressNow_18 rfl (lv_at hl 1 rfl) ?_
  refine x_Si (rest := [.int ((10 * (gi u 39 16)) + 0), .ref (gad g 50)]) C hW (c_X5_flipped l g h) km_X5_flipped qm_X5_162 ⟨rfl, rfl⟩ (by decide) rfl hl.1 rfl (Nat.le_of_ble_eq_true rfl) ⟨Nat.zero_le _, Nat.zero_le _⟩ dX5_pressNow_19 (fun r2 u2 H locs h hW => ?_)
  obtain ⟨h3, h⟩ := h
  refine x_iast C hW g_50 h3 dX5_pressNow_22 (fun u4 H locs e4 hW => ?_)
  have h := nxt_get h e4
  refine lv_aload_n C.1 C.2.1 dX5_pressNow_23 rfl (lv_at hl 0 rfl) ?_
  refine fg_X5_45 C hW dX5_pressNow_24 ?_
  refine lv_bipush (v := 10) C.1 C.2.1 dX5_pressNow_27 (by decide) ?_
  refine lv_aload_n C.1 C.2.1 dX5_pressNow_29 rfl (lv_at hl 0 rfl) ?_
  refine fg_X5_119 C hW dX5_pressNow_30 ?_
  refine lv_imul C.1 C.2.1 dX5_pressNow_33 ?_
  refine lv_iconst (v := 3) C.1 C.2.1 dX5_pressNow_34 (by decide) ?_
  refine lv_iadd C.1 C.2.1 dX5_pressNow_35 ?_
  refine lv_iload_n C.1 C.2.1 dX5_pressNow_36 rfl (lv_at hl 1 rfl) ?_
  refine lv_iadd C.1 C.2.1 dX5_pressNow_37 ?_
  refine lv_iconst (v := 0) C.1 C.2.1 dX5_pressNow_38 (by decide) ?_
  obtain ⟨h5, h⟩ := h
  refine x_iast C hW g_50 h5 dX5_pressNow_39 (fun u6 H locs e6 hW => ?_)
  have h := nxt_get h e6
  exact x_vret C hW h dX5_pressNow_40
set_option maxRecDepth 100000 in
theorem k_X5_lots_B52 {p : Program} {l : Launch} {e : Env} {s : State} {m : MethodId} {args : Array Value} {below : List Frame} {meth : Method} {c : Code} {g : GG} {A : Nat → Prop} {p1 : Int32} {p2 : Int32} {Q : Int32 → St → Prop} (C : MC p s m args meth c cX5_lots 7 RX5 (some .int) g A) {K52 : Int64 → Int32 → St → Prop} (hK52 : ∀ (v3 : Int64) (v5 : Int32) (u : St) (H : Heap) (locs : List Loc) (ls : Array Slot), K52 v3 v5 u → WD g A s u H locs → lv_has ls 7 [(0, .ref (gad g 39)), (1, .int p1), (3, .long v3), (5, .int v5)] → W p l e rm_X5_lots s m args below meth c H locs 0 0 (MQ below (va_Qi Q (WQ g) A) args s 0 0 A) (F0 m 52 ls [])) : ∀ (v3 : Int64) (v5 : Int32) (u : St) (H : Heap) (locs : List Loc) (ls : Array Slot), wp_X5_lots_B52 p1 p2 Q K52 v3 v5 u → WD g A s u H locs → lv_has ls 7 [(0, .ref (gad g 39)), (1, .int p1), (3, .long v3), (5, .int v5)] → W p l e rm_X5_lots s m args below meth c H locs 0 0 (MQ below (va_Qi Q (WQ g) A) args s 0 0 A) (F0 m 52 ls []) := by
  intro v3 v5 u H locs ls h hW hl
  refine lv_iload C.1 C.2.1 dX5_lots_52 (lv_at hl 3 rfl) ?_
  refine lv_iload_n C.1 C.2.1 dX5_lots_54 rfl (lv_at hl 1 rfl) ?_
  refine lv_icmp_ge (tgt := 166) C.1 C.2.1 dX5_lots_55 (by decide) (fun c7 => ?_) (fun c7 => ?_)
  · have h := h.1 c7
    refine lv_aload_n C.1 C.2.1 dX5_lots_166 rfl (lv_at hl 0 rfl) ?_
    refine x_Vi (rest := []) C hW (c_X5_toldNow l g h) km_X5_toldNow oModel rfl qm_X5_146 ⟨rfl, rfl⟩ (by decide) rfl hl.1 rfl (Nat.le_of_ble_eq_true rfl) ⟨Nat.zero_le _, Nat.zero_le _⟩ dX5_lots_167 (fun r8 u8 H locs h hW => ?_)
    refine x_Si (rest := []) C hW (c_X5_bitsOf l g h) km_X5_bitsOf qm_X5_156 ⟨rfl, rfl⟩ (by decide) rfl hl.1 rfl (Nat.le_of_ble_eq_true rfl) ⟨Nat.zero_le _, Nat.zero_le _⟩ dX5_lots_170 (fun r9 u9 H locs h hW => ?_)
    exact x_iret C hW h dX5_lots_173
  · have h := h.2 c7
    refine lv_lload_n C.1 C.2.1 dX5_lots_58 rfl (lv_at hl 2 rfl) ?_
    refine lv_ldc2 (v := 48271) C.1 C.2.1 C.2.2.2.1 (C.2.2.2.2.1 _ qk_X5_212) dX5_lots_59 ?_
    refine lv_lmul C.1 C.2.1 dX5_lots_62 ?_
    refine lv_ldc2 (v := 2147483647) C.1 C.2.1 C.2.2.2.1 (C.2.2.2.2.1 _ qk_X5_214) dX5_lots_63 ?_
    refine lv_lrem C.1 C.2.1 dX5_lots_66 (by decide) ?_
    refine lv_lstore_n (lv' := [(3, .long ((v3 * 48271) - ((v3 * 48271) / 2147483647) * 2147483647)), (0, .ref (gad g 39)), (1, .int p1), (5, .int v5)]) C.1 C.2.1 dX5_lots_67 rfl hl (by decide) rfl (fun ls hl => ?_)
    refine lv_lload_n C.1 C.2.1 dX5_lots_68 rfl (lv_at hl 0 rfl) ?_
    refine lv_ldc2 (v := 8) C.1 C.2.1 C.2.2.2.1 (C.2.2.2.2.1 _ qk_X5_216) dX5_lots_69 ?_
    refine lv_lrem C.1 C.2.1 dX5_lots_72 (by decide) ?_
    refine lv_l2i (v := (((v3 * 48271) - ((v3 * 48271) / 2147483647) * 2147483647) - (((v3 * 48271) - ((v3 * 48271) / 2147483647) * 2147483647) / 8) * 8).toInt32) C.1 C.2.1 dX5_lots_73 rfl ?_
    refine lv_istore (lv' := [(6, .int (((v3 * 48271) - ((v3 * 48271) / 2147483647) * 2147483647) - (((v3 * 48271) - ((v3 * 48271) / 2147483647) * 2147483647) / 8) * 8).toInt32), (3, .long ((v3 * 48271) - ((v3 * 48271) / 2147483647) * 2147483647)), (0, .ref (gad g 39)), (1, .int p1), (5, .int v5)]) C.1 C.2.1 dX5_lots_74 hl (by decide) rfl (fun ls hl => ?_)
    refine lv_aload_n C.1 C.2.1 dX5_lots_76 rfl (lv_at hl 2 rfl) ?_
    refine x_Vv (rest := []) C hW (c_X5_begin l g h) km_X5_begin oModel rfl qm_X5_165 ⟨rfl, rfl⟩ (by decide) rfl hl.1 rfl (Nat.le_of_ble_eq_true rfl) ⟨Nat.zero_le _, Nat.zero_le _⟩ dX5_lots_77 (fun u10 H locs h hW => ?_)
    refine lv_iload C.1 C.2.1 dX5_lots_80 (lv_at hl 0 rfl) ?_
    refine lv_if_ne (tgt := 120) C.1 C.2.1 dX5_lots_82 (by decide) (fun c11 => ?_) (fun c11 => ?_)
    · have h := h.1 c11
      refine lv_iload C.1 C.2.1 dX5_lots_120 (lv_at hl 0 rfl) ?_
      refine lv_iconst (v := 4) C.1 C.2.1 dX5_lots_122 (by decide) ?_
      refine lv_icmp_ge (tgt := 144) C.1 C.2.1 dX5_lots_123 (by decide) (fun c12 => ?_) (fun c12 => ?_)
      · have h := h.1 c12
        refine lv_aload_n C.1 C.2.1 dX5_lots_144 rfl (lv_at hl 2 rfl) ?_
        refine lv_lload_n C.1 C.2.1 dX5_lots_145 rfl (lv_at hl 1 rfl) ?_
        refine lv_ldc2 (v := 8) C.1 C.2.1 C.2.2.2.1 (C.2.2.2.2.1 _ qk_X5_216) dX5_lots_146 ?_
        refine lv_ldiv C.1 C.2.1 dX5_lots_149 (by decide) ?_
        refine lv_aload_n C.1 C.2.1 dX5_lots_150 rfl (lv_at hl 2 rfl) ?_
        refine fg_X5_116 C hW dX5_lots_151 ?_
        refine lv_i2l (v := (gi u10 39 10).toInt64) C.1 C.2.1 dX5_lots_154 rfl ?_
        obtain ⟨h13, h⟩ := h
        refine lv_lrem C.1 C.2.1 dX5_lots_155 h13 ?_
        refine lv_l2i (v := ((((v3 * 48271) - ((v3 * 48271) / 2147483647) * 2147483647) / 8) - ((((v3 * 48271) - ((v3 * 48271) / 2147483647) * 2147483647) / 8) / (gi u10 39 10).toInt64) * (gi u10 39 10).toInt64).toInt32) C.1 C.2.1 dX5_lots_156 rfl ?_
        refine x_Vv (rest := []) C hW (c_X5_pressNow l g h) km_X5_pressNow oModel rfl qm_X5_168 ⟨rfl, rfl⟩ (by decide) rfl hl.1 rfl (Nat.le_of_ble_eq_true rfl) ⟨Nat.zero_le _, Nat.zero_le _⟩ dX5_lots_157 (fun u14 H locs h hW => ?_)
        refine lv_iinc (v := (v5 + 1)) (lv' := [(5, .int (v5 + 1)), (6, .int (((v3 * 48271) - ((v3 * 48271) / 2147483647) * 2147483647) - (((v3 * 48271) - ((v3 * 48271) / 2147483647) * 2147483647) / 8) * 8).toInt32), (3, .long ((v3 * 48271) - ((v3 * 48271) / 2147483647) * 2147483647)), (0, .ref (gad g 39)), (1, .int p1)]) C.1 C.2.1 dX5_lots_160 hl (k := 4) rfl rfl (by decide) rfl (fun ls hl => ?_)
        refine lv_goto (tgt := 52) C.1 C.2.1 dX5_lots_163 (by decide) ?_
        exact hK52 ((v3 * 48271) - ((v3 * 48271) / 2147483647) * 2147483647) (v5 + 1) u14 _ _ _ h hW (lv_sub hl [3, 4, 2, 0] rfl)
      · have h := h.2 c12
        refine lv_aload_n C.1 C.2.1 dX5_lots_126 rfl (lv_at hl 2 rfl) ?_
        refine lv_aload_n C.1 C.2.1 dX5_lots_127 rfl (lv_at hl 2 rfl) ?_
        refine fg_X5_45 C hW dX5_lots_128 ?_
        refine lv_bipush (v := 10) C.1 C.2.1 dX5_lots_131 (by decide) ?_
        refine lv_aload_n C.1 C.2.1 dX5_lots_133 rfl (lv_at hl 2 rfl) ?_
        refine fg_X5_119 C hW dX5_lots_134 ?_
        refine lv_imul C.1 C.2.1 dX5_lots_137 ?_
        refine x_Vv (rest := []) C hW (c_X5_passOn l g (Or.inl rfl) h) km_X5_passOn oModel rfl qm_X5_172 ⟨rfl, rfl⟩ (by decide) rfl hl.1 rfl (Nat.le_of_ble_eq_true rfl) ⟨Nat.zero_le _, Nat.zero_le _⟩ dX5_lots_138 (fun u15 H locs h hW => ?_)
        refine lv_goto (tgt := 160) C.1 C.2.1 dX5_lots_141 (by decide) ?_
        refine lv_iinc (v := (v5 + 1)) (lv' := [(5, .int (v5 + 1)), (6, .int (((v3 * 48271) - ((v3 * 48271) / 2147483647) * 2147483647) - (((v3 * 48271) - ((v3 * 48271) / 2147483647) * 2147483647) / 8) * 8).toInt32), (3, .long ((v3 * 48271) - ((v3 * 48271) / 2147483647) * 2147483647)), (0, .ref (gad g 39)), (1, .int p1)]) C.1 C.2.1 dX5_lots_160 hl (k := 4) rfl rfl (by decide) rfl (fun ls hl => ?_)
        refine lv_goto (tgt := 52) C.1 C.2.1 dX5_lots_163 (by decide) ?_
        exact hK52 ((v3 * 48271) - ((v3 * 48271) / 2147483647) * 2147483647) (v5 + 1) u15 _ _ _ h hW (lv_sub hl [3, 4, 2, 0] rfl)
    · have h := h.2 c11
      refine lv_aload_n C.1 C.2.1 dX5_lots_85 rfl (lv_at hl 2 rfl) ?_
      refine fg_X5_45 C hW dX5_lots_86 ?_
      refine lv_bipush (v := 10) C.1 C.2.1 dX5_lots_89 (by decide) ?_
      refine lv_aload_n C.1 C.2.1 dX5_lots_91 rfl (lv_at hl 2 rfl) ?_
      refine fg_X5_119 C hW dX5_lots_92 ?_
      refine lv_imul C.1 C.2.1 dX5_lots_95 ?_
      refine lv_iconst (v := 2) C.1 C.2.1 dX5_lots_96 (by decide) ?_
      refine lv_iadd C.1 C.2.1 dX5_lots_97 ?_
      refine lv_aload_n C.1 C.2.1 dX5_lots_98 rfl (lv_at hl 2 rfl) ?_
      refine lv_iconst (v := 2) C.1 C.2.1 dX5_lots_99 (by decide) ?_
      refine x_Vi (rest := [.int ((10 * (gi u10 39 16)) + 2), .ref (gad g 50)]) C hW (c_X5_now l g h) km_X5_now oModel rfl qm_X5_122 ⟨rfl, rfl⟩ (by decide) rfl hl.1 rfl (Nat.le_of_ble_eq_true rfl) ⟨Nat.zero_le _, Nat.zero_le _⟩ dX5_lots_100 (fun r16 u16 H locs h hW => ?_)
      refine lv_lload_n C.1 C.2.1 dX5_lots_103 rfl (lv_at hl 1 rfl) ?_
      refine lv_ldc2 (v := 8) C.1 C.2.1 C.2.2.2.1 (C.2.2.2.2.1 _ qk_X5_216) dX5_lots_104 ?_
      refine lv_ldiv C.1 C.2.1 dX5_lots_107 (by decide) ?_
      refine lv_ldc2 (v := 4) C.1 C.2.1 C.2.2.2.1 (C.2.2.2.2.1 _ qk_X5_218) dX5_lots_108 ?_
      refine lv_lrem C.1 C.2.1 dX5_lots_111 (by decide) ?_
      refine lv_l2i (v := ((((v3 * 48271) - ((v3 * 48271) / 2147483647) * 2147483647) / 8) - ((((v3 * 48271) - ((v3 * 48271) / 2147483647) * 2147483647) / 8) / 4) * 4).toInt32) C.1 C.2.1 dX5_lots_112 rfl ?_
      refine x_Si (rest := [.int ((10 * (gi u10 39 16)) + 2), .ref (gad g 50)]) C hW (c_X5_flipped l g h) km_X5_flipped qm_X5_162 ⟨rfl, rfl⟩ (by decide) rfl hl.1 rfl (Nat.le_of_ble_eq_true rfl) ⟨Nat.zero_le _, Nat.zero_le _⟩ dX5_lots_113 (fun r17 u17 H locs h hW => ?_)
      obtain ⟨h18, h⟩ := h
      refine x_iast C hW g_50 h18 dX5_lots_116 (fun u19 H locs e19 hW => ?_)
      have h := nxt_get h e19
      refine lv_goto (tgt := 160) C.1 C.2.1 dX5_lots_117 (by decide) ?_
      refine lv_iinc (v := (v5 + 1)) (lv' := [(5, .int (v5 + 1)), (6, .int (((v3 * 48271) - ((v3 * 48271) / 2147483647) * 2147483647) - (((v3 * 48271) - ((v3 * 48271) / 2147483647) * 2147483647) / 8) * 8).toInt32), (3, .long ((v3 * 48271) - ((v3 * 48271) / 2147483647) * 2147483647)), (0, .ref (gad g 39)), (1, .int p1)]) C.1 C.2.1 dX5_lots_160 hl (k := 4) rfl rfl (by decide) rfl (fun ls hl => ?_)
      refine lv_goto (tgt := 52) C.1 C.2.1 dX5_lots_163 (by decide) ?_
      exact hK52 ((v3 * 48271) - ((v3 * 48271) / 2147483647) * 2147483647) (v5 + 1) u19 _ _ _ h hW (lv_sub hl [3, 4, 2, 0] rfl)
theorem k_X5_lots_L52 {p : Program} {l : Launch} {e : Env} {s : State} {m : MethodId} {args : Array Value} {below : List Frame} {meth : Method} {c : Code} {g : GG} {A : Nat → Prop} {p1 : Int32} {p2 : Int32} {Q : Int32 → St → Prop} (C : MC p s m args meth c cX5_lots 7 RX5 (some .int) g A) : ∀ (n : Nat), ∀ (v3 : Int64) (v5 : Int32) (u : St) (H : Heap) (locs : List Loc) (ls : Array Slot), wp_X5_lots_L52 p1 p2 Q n v3 v5 u → WD g A s u H locs → lv_has ls 7 [(0, .ref (gad g 39)), (1, .int p1), (3, .long v3), (5, .int v5)] → W p l e rm_X5_lots s m args below meth c H locs 0 0 (MQ below (va_Qi Q (WQ g) A) args s 0 0 A) (F0 m 52 ls []) := by
  intro n
  induction n with
  | zero => intro v3 v5 u H locs ls h; exact False.elim h
  | succ n ih => exact k_X5_lots_B52 (p1 := p1) (p2 := p2) C ih
set_option maxRecDepth 100000 in
theorem c_X5_lots (l : Launch) (g : GG) {p1 : Int32} {p2 : Int32} {u : St} {Q : Int32 → St → Prop} (h : wp_X5_lots p1 p2 u Q) : CI l yX5_lots cX5_lots 7 (some .int) rm_X5_lots g [.ref (gad g 39), .int p1, .int p2] u Q := by
  refine ent (own := RX5) (Qc := va_Qi Q (WQ g)) (by decide) rfl (Nat.le_of_ble_eq_true rfl) ?_
  intro p e s m below meth c A ls C hl hW
  have hl : lv_has ls 7 [(0, .ref (gad g 39)), (1, .int p1), (2, .int p2)] := hl
  unfold wp_X5_lots at h
  refine lv_iload_n C.1 C.2.1 dX5_lots_0 rfl (lv_at hl 1 rfl) ?_
  refine lv_iconst (v := 1) C.1 C.2.1 dX5_lots_1 (by decide) ?_
  refine lv_bipush (v := 20) C.1 C.2.1 dX5_lots_2 (by decide) ?_
  refine x_Si (rest := []) C hW (c_X5_in l g h) km_X5_in qm_X5_88 ⟨rfl, rfl⟩ (by decide) rfl hl.1 rfl (Nat.le_of_ble_eq_true rfl) ⟨Nat.zero_le _, Nat.zero_le _⟩ dX5_lots_4 (fun r1 u1 H locs h hW => ?_)
  refine lv_if_eq (tgt := 20) C.1 C.2.1 dX5_lots_7 (by decide) (fun c2 => ?_) (fun c2 => ?_)
  · have h := h.1 c2
    refine lv_iconst (v := (-1)) C.1 C.2.1 dX5_lots_20 (by decide) ?_
    exact x_iret C hW h dX5_lots_21
  · have h := h.2 c2
    refine lv_iload_n C.1 C.2.1 dX5_lots_10 rfl (lv_at hl 2 rfl) ?_
    refine lv_iconst (v := 1) C.1 C.2.1 dX5_lots_11 (by decide) ?_
    refine lv_ldc (v := 2147483646) C.1 C.2.1 C.2.2.2.1 (C.2.2.2.2.1 _ qk_X5_211) dX5_lots_12 ?_
    refine x_Si (rest := []) C hW (c_X5_in l g h) km_X5_in qm_X5_88 ⟨rfl, rfl⟩ (by decide) rfl hl.1 rfl (Nat.le_of_ble_eq_true rfl) ⟨Nat.zero_le _, Nat.zero_le _⟩ dX5_lots_14 (fun r3 u3 H locs h hW => ?_)
    refine lv_if_ne (tgt := 22) C.1 C.2.1 dX5_lots_17 (by decide) (fun c4 => ?_) (fun c4 => ?_)
    · have h := h.1 c4
      refine lv_aload_n C.1 C.2.1 dX5_lots_22 rfl (lv_at hl 0 rfl) ?_
      refine fg_X5_116 C hW dX5_lots_23 ?_
      refine lv_if_ne (tgt := 32) C.1 C.2.1 dX5_lots_26 (by decide) (fun c5 => ?_) (fun c5 => ?_)
      · have h := h.1 c5
        refine lv_aload_n C.1 C.2.1 dX5_lots_32 rfl (lv_at hl 0 rfl) ?_
        refine fg_X5_119 C hW dX5_lots_33 ?_
        refine lv_iload_n C.1 C.2.1 dX5_lots_36 rfl (lv_at hl 1 rfl) ?_
        refine lv_iadd C.1 C.2.1 dX5_lots_37 ?_
        refine lv_bipush (v := 40) C.1 C.2.1 dX5_lots_38 (by decide) ?_
        refine lv_icmp_le (tgt := 46) C.1 C.2.1 dX5_lots_40 (by decide) (fun c6 => ?_) (fun c6 => ?_)
        · have h := h.1 c6
          refine lv_iload_n C.1 C.2.1 dX5_lots_46 rfl (lv_at hl 2 rfl) ?_
          refine lv_i2l (v := p2.toInt64) C.1 C.2.1 dX5_lots_47 rfl ?_
          refine lv_lstore_n (lv' := [(3, .long p2.toInt64), (0, .ref (gad g 39)), (1, .int p1), (2, .int p2)]) C.1 C.2.1 dX5_lots_48 rfl hl (by decide) rfl (fun ls hl => ?_)
          refine lv_iconst (v := 0) C.1 C.2.1 dX5_lots_49 (by decide) ?_
          refine lv_istore (lv' := [(5, .int 0), (3, .long p2.toInt64), (0, .ref (gad g 39)), (1, .int p1), (2, .int p2)]) C.1 C.2.1 dX5_lots_50 hl (by decide) rfl (fun ls hl => ?_)
          obtain ⟨n, h⟩ := h
          exact k_X5_lots_L52 C n p2.toInt64 0 u3 _ _ _ h hW (lv_sub hl [2, 3, 1, 0] rfl)
        · have h := h.2 c6
          refine lv_bipush (v := (-2)) C.1 C.2.1 dX5_lots_43 (by decide) ?_
          exact x_iret C hW h dX5_lots_45
      · have h := h.2 c5
        refine lv_bipush (v := (-4)) C.1 C.2.1 dX5_lots_29 (by decide) ?_
        exact x_iret C hW h dX5_lots_31
    · have h := h.2 c4
      refine lv_iconst (v := (-1)) C.1 C.2.1 dX5_lots_20 (by decide) ?_
      exact x_iret C hW h dX5_lots_21
set_option maxRecDepth 100000 in
theorem c_X5_lower (l : Launch) (g : GG) {u : St} {Q : Int64 → St → Prop} (h : wp_X5_lower u Q) : CL l yX5_lower cX5_lower 1 (some .long) rm_X5_lower g [.ref (gad g 39)] u Q := by
  refine ent (own := RX5) (Qc := va_Ql Q (WQ g)) (by decide) rfl (Nat.le_of_ble_eq_true rfl) ?_
  intro p e s m below meth c A ls C hl hW
  have hl : lv_has ls 1 [(0, .ref (gad g 39))] := hl
  unfold wp_X5_lower at h
  refine lv_aload_n C.1 C.2.1 dX5_lower_0 rfl (lv_at hl 0 rfl) ?_
  refine fg_X5_13 C hW dX5_lower_1 ?_
  exact x_lret C hW h dX5_lower_4
set_option maxRecDepth 100000 in
theorem k_X5_mark_J231 {p : Program} {l : Launch} {e : Env} {s : State} {m : MethodId} {args : Array Value} {below : List Frame} {meth : Method} {c : Code} {g : GG} {A : Nat → Prop} {p1 : Int32} {p2 : Int32} {Q : Int32 → St → Prop} (C : MC p s m args meth c cX5_mark 6 RX5 (some .int) g A) {K158 : Int32 → Int32 → St → Prop} (hK158 : ∀ (v3 : Int32) (v4 : Int32) (u : St) (H : Heap) (locs : List Loc) (ls : Array Slot), K158 v3 v4 u → WD g A s u H locs → lv_has ls 6 [(0, .ref (gad g 39)), (1, .int p1), (2, .int p2), (3, .int v3), (4, .int v4)] → W p l e rm_X5_mark s m args below meth c H locs 0 0 (MQ below (va_Qi Q (WQ g) A) args s 0 0 A) (F0 m 158 ls [])) : ∀ (v4 : Int32) (t0 : Int32) (t1 : Int32) (u : St) (H : Heap) (locs : List Loc) (ls : Array Slot), wp_X5_mark_J231 p1 p2 Q K158 v4 t0 t1 u → WD g A s u H locs → lv_has ls 6 [(0, .ref (gad g 39)), (1, .int p1), (2, .int p2), (4, .int v4)] → W p l e rm_X5_mark s m args below meth c H locs 0 0 (MQ below (va_Qi Q (WQ g) A) args s 0 0 A) (F0 m 231 ls [.int t0, .int t1]) := by
  intro v4 t0 t1 u H locs ls h hW hl
  refine lv_iadd C.1 C.2.1 dX5_mark_231 ?_
  refine lv_istore_n (lv' := [(3, .int (t1 + t0)), (0, .ref (gad g 39)), (1, .int p1), (2, .int p2), (4, .int v4)]) C.1 C.2.1 dX5_mark_232 rfl hl (by decide) rfl (fun ls hl => ?_)
  refine lv_iinc (v := (v4 + 1)) (lv' := [(4, .int (v4 + 1)), (3, .int (t1 + t0)), (0, .ref (gad g 39)), (1, .int p1), (2, .int p2)]) C.1 C.2.1 dX5_mark_233 hl (k := 4) rfl rfl (by decide) rfl (fun ls hl => ?_)
  refine lv_goto (tgt := 158) C.1 C.2.1 dX5_mark_236 (by decide) ?_
  exact hK158 (t1 + t0) (v4 + 1) u _ _ _ h hW (lv_sub hl [2, 3, 4, 1, 0] rfl)
set_option maxRecDepth 100000 in
theorem k_X5_mark_J230 {p : Program} {l : Launch} {e : Env} {s : State} {m : MethodId} {args : Array Value} {below : List Frame} {meth : Method} {c : Code} {g : GG} {A : Nat → Prop} {p1 : Int32} {p2 : Int32} {Q : Int32 → St → Prop} (C : MC p s m args meth c cX5_mark 6 RX5 (some .int) g A) {K158 : Int32 → Int32 → St → Prop} (hK158 : ∀ (v3 : Int32) (v4 : Int32) (u : St) (H : Heap) (locs : List Loc) (ls : Array Slot), K158 v3 v4 u → WD g A s u H locs → lv_has ls 6 [(0, .ref (gad g 39)), (1, .int p1), (2, .int p2), (3, .int v3), (4, .int v4)] → W p l e rm_X5_mark s m args below meth c H locs 0 0 (MQ below (va_Qi Q (WQ g) A) args s 0 0 A) (F0 m 158 ls [])) : ∀ (v4 : Int32) (t0 : Int32) (u : St) (H : Heap) (locs : List Loc) (ls : Array Slot), wp_X5_mark_J230 p1 p2 Q K158 v4 t0 u → WD g A s u H locs → lv_has ls 6 [(0, .ref (gad g 39)), (1, .int p1), (2, .int p2), (4, .int v4)] → W p l e rm_X5_mark s m args below meth c H locs 0 0 (MQ below (va_Qi Q (WQ g) A) args s 0 0 A) (F0 m 230 ls [.int t0]) := by
  intro v4 t0 u H locs ls h hW hl
  refine lv_iconst (v := 0) C.1 C.2.1 dX5_mark_230 (by decide) ?_
  exact k_X5_mark_J231 C hK158 v4 0 t0 u _ _ _ h hW hl
set_option maxRecDepth 100000 in
theorem k_X5_mark_B158 {p : Program} {l : Launch} {e : Env} {s : State} {m : MethodId} {args : Array Value} {below : List Frame} {meth : Method} {c : Code} {g : GG} {A : Nat → Prop} {p1 : Int32} {p2 : Int32} {Q : Int32 → St → Prop} (C : MC p s m args meth c cX5_mark 6 RX5 (some .int) g A) {K158 : Int32 → Int32 → St → Prop} (hK158 : ∀ (v3 : Int32) (v4 : Int32) (u : St) (H : Heap) (locs : List Loc) (ls : Array Slot), K158 v3 v4 u → WD g A s u H locs → lv_has ls 6 [(0, .ref (gad g 39)), (1, .int p1), (2, .int p2), (3, .int v3), (4, .int v4)] → W p l e rm_X5_mark s m args below meth c H locs 0 0 (MQ below (va_Qi Q (WQ g) A) args s 0 0 A) (F0 m 158 ls [])) : ∀ (v3 : Int32) (v4 : Int32) (u : St) (H : Heap) (locs : List Loc) (ls : Array Slot), wp_X5_mark_B158 p1 p2 Q K158 v3 v4 u → WD g A s u H locs → lv_has ls 6 [(0, .ref (gad g 39)), (1, .int p1), (2, .int p2), (3, .int v3), (4, .int v4)] → W p l e rm_X5_mark s m args below meth c H locs 0 0 (MQ below (va_Qi Q (WQ g) A) args s 0 0 A) (F0 m 158 ls []) := by
  intro v3 v4 u H locs ls h hW hl
  refine lv_iload C.1 C.2.1 dX5_mark_158 (lv_at hl 4 rfl) ?_
  refine lv_aload_n C.1 C.2.1 dX5_mark_160 rfl (lv_at hl 0 rfl) ?_
  refine lv_iconst (v := 1) C.1 C.2.1 dX5_mark_161 (by decide) ?_
  refine x_Vi (rest := [.int v4]) C hW (c_X5_now l g h) km_X5_now oModel rfl qm_X5_122 ⟨rfl, rfl⟩ (by decide) rfl hl.1 rfl (Nat.le_of_ble_eq_true rfl) ⟨Nat.zero_le _, Nat.zero_le _⟩ dX5_mark_162 (fun r21 u21 H locs h hW => ?_)
  refine lv_bipush (v := 8) C.1 C.2.1 dX5_mark_165 (by decide) ?_
  refine lv_iadd C.1 C.2.1 dX5_mark_167 ?_
  refine lv_icmp_ge (tgt := 239) C.1 C.2.1 dX5_mark_168 (by decide) (fun c22 => ?_) (fun c22 => ?_)
  · have h := h.1 c22
    refine lv_iload_n C.1 C.2.1 dX5_mark_239 rfl (lv_at hl 3 rfl) ?_
    exact x_iret C hW h dX5_mark_240
  · have h := h.2 c22
    refine lv_aload_n C.1 C.2.1 dX5_mark_171 rfl (lv_at hl 0 rfl) ?_
    refine fg_X5_33 C hW dX5_mark_172 ?_
    refine lv_iload_n C.1 C.2.1 dX5_mark_175 rfl (lv_at hl 1 rfl) ?_
    obtain ⟨h23, h⟩ := h
    refine x_iald C hW g_46 h23 dX5_mark_176 ?_
    refine lv_iconst (v := 0) C.1 C.2.1 dX5_mark_177 (by decide) ?_
    refine lv_iload C.1 C.2.1 dX5_mark_178 (lv_at hl 4 rfl) ?_
    refine lv_aload_n C.1 C.2.1 dX5_mark_180 rfl (lv_at hl 0 rfl) ?_
    refine fg_X5_42 C hW dX5_mark_181 ?_
    refine lv_iload_n C.1 C.2.1 dX5_mark_184 rfl (lv_at hl 1 rfl) ?_
    obtain ⟨h24, h⟩ := h
    refine x_iald C hW g_49 h24 dX5_mark_185 ?_
    refine x_Si (rest := []) C hW (c_X5_doesBy l g h) km_X5_doesBy qm_X5_129 ⟨rfl, rfl⟩ (by decide) rfl hl.1 rfl (Nat.le_of_ble_eq_true rfl) ⟨Nat.zero_le _, Nat.zero_le _⟩ dX5_mark_186 (fun r25 u25 H locs h hW => ?_)
    refine lv_istore (lv' := [(5, .int r25), (0, .ref (gad g 39)), (1, .int p1), (2, .int p2), (3, .int v3), (4, .int v4)]) C.1 C.2.1 dX5_mark_189 hl (by decide) rfl (fun ls hl => ?_)
    refine lv_iload_n C.1 C.2.1 dX5_mark_191 rfl (lv_at hl 4 rfl) ?_
    refine lv_iload_n C.1 C.2.1 dX5_mark_192 rfl (lv_at hl 3 rfl) ?_
    refine lv_iconst (v := 2) C.1 C.2.1 dX5_mark_193 (by decide) ?_
    refine lv_icmp_ne (tgt := 210) C.1 C.2.1 dX5_mark_194 (by decide) (fun c26 => ?_) (fun c26 => ?_)
    · have h := h.1 c26
      refine lv_iconst (v := 2) C.1 C.2.1 dX5_mark_210 (by decide) ?_
      refine lv_iconst (v := 0) C.1 C.2.1 dX5_mark_211 (by decide) ?_
      refine lv_iload C.1 C.2.1 dX5_mark_212 (lv_at hl 5 rfl) ?_
      refine lv_iconst (v := 0) C.1 C.2.1 dX5_mark_214 (by decide) ?_
      refine x_Si (rest := [.int v3]) C hW (c_X5_doesBy l g h) km_X5_doesBy qm_X5_129 ⟨rfl, rfl⟩ (by decide) rfl hl.1 rfl (Nat.le_of_ble_eq_true rfl) ⟨Nat.zero_le _, Nat.zero_le _⟩ dX5_mark_215 (fun r27 u27 H locs h hW => ?_)
      refine lv_if_eq (tgt := 230) C.1 C.2.1 dX5_mark_218 (by decide) (fun c28 => ?_) (fun c28 => ?_)
      · have h := h.1 c28
        exact k_X5_mark_J230 C hK158 v4 v3 u27 _ _ _ h hW (lv_sub hl [1, 2, 3, 5] rfl)
      · have h := h.2 c28
        refine lv_iload C.1 C.2.1 dX5_mark_221 (lv_at hl 0 rfl) ?_
        refine lv_if_ne (tgt := 230) C.1 C.2.1 dX5_mark_223 (by decide) (fun c29 => ?_) (fun c29 => ?_)
        · have h := h.1 c29
          exact k_X5_mark_J230 C hK158 v4 v3 u27 _ _ _ h hW (lv_sub hl [1, 2, 3, 5] rfl)
        · have h := h.2 c29
          refine lv_iconst (v := 1) C.1 C.2.1 dX5_mark_226 (by decide) ?_
          refine lv_goto (tgt := 231) C.1 C.2.1 dX5_mark_227 (by decide) ?_
          exact k_X5_mark_J231 C hK158 v4 1 v3 u27 _ _ _ h hW (lv_sub hl [1, 2, 3, 5] rfl)
    · have h := h.2 c26
      refine lv_iload C.1 C.2.1 dX5_mark_197 (lv_at hl 0 rfl) ?_
      refine lv_if_eq (tgt := 206) C.1 C.2.1 dX5_mark_199 (by decide) (fun c30 => ?_) (fun c30 => ?_)
      · have h := h.1 c30
        refine lv_iconst (v := 0) C.1 C.2.1 dX5_mark_206 (by decide) ?_
        refine lv_goto (tgt := 231) C.1 C.2.1 dX5_mark_207 (by decide) ?_
        exact k_X5_mark_J231 C hK158 v4 0 v3 u25 _ _ _ h hW (lv_sub hl [1, 2, 3, 5] rfl)
      · have h := h.2 c30
        refine lv_iconst (v := 1) C.1 C.2.1 dX5_mark_202 (by decide) ?_
        refine lv_goto (tgt := 231) C.1 C.2.1 dX5_mark_203 (by decide) ?_
        exact k_X5_mark_J231 C hK158 v4 1 v3 u25 _ _ _ h hW (lv_sub hl [1, 2, 3, 5] rfl)
theorem k_X5_mark_L158 {p : Program} {l : Launch} {e : Env} {s : State} {m : MethodId} {args : Array Value} {below : List Frame} {meth : Method} {c : Code} {g : GG} {A : Nat → Prop} {p1 : Int32} {p2 : Int32} {Q : Int32 → St → Prop} (C : MC p s m args meth c cX5_mark 6 RX5 (some .int) g A) : ∀ (n : Nat), ∀ (v3 : Int32) (v4 : Int32) (u : St) (H : Heap) (locs : List Loc) (ls : Array Slot), wp_X5_mark_L158 p1 p2 Q n v3 v4 u → WD g A s u H locs → lv_has ls 6 [(0, .ref (gad g 39)), (1, .int p1), (2, .int p2), (3, .int v3), (4, .int v4)] → W p l e rm_X5_mark s m args below meth c H locs 0 0 (MQ below (va_Qi Q (WQ g) A) args s 0 0 A) (F0 m 158 ls []) := by
  intro n
  induction n with
  | zero => intro v3 v4 u H locs ls h; exact False.elim h
  | succ n ih => exact k_X5_mark_B158 (p1 := p1) (p2 := p2) C ih
set_option maxRecDepth 100000 in
theorem k_X5_mark_J75 {p : Program} {l : Launch} {e : Env} {s : State} {m : MethodId} {args : Array Value} {below : List Frame} {meth : Method} {c : Code} {g : GG} {A : Nat → Prop} {p1 : Int32} {p2 : Int32} {Q : Int32 → St → Prop} (C : MC p s m args meth c cX5_mark 6 RX5 (some .int) g A) : ∀ (u : St) (H : Heap) (locs : List Loc) (ls : Array Slot), wp_X5_mark_J75 p1 p2 Q u → WD g A s u H locs → lv_has ls 6 [(0, .ref (gad g 39)), (1, .int p1), (2, .int p2)] → W p l e rm_X5_mark s m args below meth c H locs 0 0 (MQ below (va_Qi Q (WQ g) A) args s 0 0 A) (F0 m 75 ls []) := by
  intro u H locs ls h hW hl
  refine lv_aload_n C.1 C.2.1 dX5_mark_75 rfl (lv_at hl 0 rfl) ?_
  refine x_Vi (rest := []) C hW (c_X5_toldNow l g h) km_X5_toldNow oModel rfl qm_X5_146 ⟨rfl, rfl⟩ (by decide) rfl hl.1 rfl (Nat.le_of_ble_eq_true rfl) ⟨Nat.zero_le _, Nat.zero_le _⟩ dX5_mark_76 (fun r31 u31 H locs h hW => ?_)
  refine x_Si (rest := []) C hW (c_X5_bitsOf l g h) km_X5_bitsOf qm_X5_156 ⟨rfl, rfl⟩ (by decide) rfl hl.1 rfl (Nat.le_of_ble_eq_true rfl) ⟨Nat.zero_le _, Nat.zero_le _⟩ dX5_mark_79 (fun r32 u32 H locs h hW => ?_)
  refine lv_istore_n (lv' := [(3, .int r32), (0, .ref (gad g 39)), (1, .int p1), (2, .int p2)]) C.1 C.2.1 dX5_mark_82 rfl hl (by decide) rfl (fun ls hl => ?_)
  refine lv_aload_n C.1 C.2.1 dX5_mark_83 rfl (lv_at hl 1 rfl) ?_
  refine fg_X5_57 C hW dX5_mark_84 ?_
  refine lv_iload_n C.1 C.2.1 dX5_mark_87 rfl (lv_at hl 2 rfl) ?_
  refine lv_iconst (v := 0) C.1 C.2.1 dX5_mark_88 (by decide) ?_
  obtain ⟨h33, h⟩ := h
  refine x_iast C hW g_54 h33 dX5_mark_89 (fun u34 H locs e34 hW => ?_)
  have h := nxt_get h e34
  refine lv_aload_n C.1 C.2.1 dX5_mark_90 rfl (lv_at hl 1 rfl) ?_
  refine x_Vi (rest := []) C hW (c_X5_toldBy l g h) km_X5_toldBy oModel rfl qm_X5_142 ⟨rfl, rfl⟩ (by decide) rfl hl.1 rfl (Nat.le_of_ble_eq_true rfl) ⟨Nat.zero_le _, Nat.zero_le _⟩ dX5_mark_91 (fun r35 u35 H locs h hW => ?_)
  refine x_Si (rest := []) C hW (c_X5_bitsOf l g h) km_X5_bitsOf qm_X5_156 ⟨rfl, rfl⟩ (by decide) rfl hl.1 rfl (Nat.le_of_ble_eq_true rfl) ⟨Nat.zero_le _, Nat.zero_le _⟩ dX5_mark_94 (fun r36 u36 H locs h hW => ?_)
  refine lv_istore (lv' := [(4, .int r36), (3, .int r32), (0, .ref (gad g 39)), (1, .int p1), (2, .int p2)]) C.1 C.2.1 dX5_mark_97 hl (by decide) rfl (fun ls hl => ?_)
  refine lv_bipush (v := 10) C.1 C.2.1 dX5_mark_99 (by decide) ?_
  refine lv_iload_n C.1 C.2.1 dX5_mark_101 rfl (lv_at hl 4 rfl) ?_
  refine lv_iconst (v := 1) C.1 C.2.1 dX5_mark_102 (by decide) ?_
  refine lv_icmp_ne (tgt := 113) C.1 C.2.1 dX5_mark_103 (by decide) (fun c37 => ?_) (fun c37 => ?_)
  · have h := h.1 c37
    refine lv_iload_n C.1 C.2.1 dX5_mark_113 rfl (lv_at hl 1 rfl) ?_
    refine lv_iload C.1 C.2.1 dX5_mark_114 (lv_at hl 0 rfl) ?_
    refine lv_isub C.1 C.2.1 dX5_mark_116 ?_
    refine lv_iadd C.1 C.2.1 dX5_mark_117 ?_
    exact x_iret C hW h dX5_mark_118
  · have h := h.2 c37
    refine lv_iload C.1 C.2.1 dX5_mark_106 (lv_at hl 0 rfl) ?_
    refine lv_iload_n C.1 C.2.1 dX5_mark_108 rfl (lv_at hl 1 rfl) ?_
    refine lv_isub C.1 C.2.1 dX5_mark_109 ?_
    refine lv_goto (tgt := 117) C.1 C.2.1 dX5_mark_110 (by decide) ?_
    refine lv_iadd C.1 C.2.1 dX5_mark_117 ?_
    exact x_iret C hW h dX5_mark_118
set_option maxRecDepth 100000 in
theorem k_X5_mark_J65 {p : Program} {l : Launch} {e : Env} {s : State} {m : MethodId} {args : Array Value} {below : List Frame} {meth : Method} {c : Code} {g : GG} {A : Nat → Prop} {p1 : Int32} {p2 : Int32} {Q : Int32 → St → Prop} (C : MC p s m args meth c cX5_mark 6 RX5 (some .int) g A) : ∀ (u : St) (H : Heap) (locs : List Loc) (ls : Array Slot), wp_X5_mark_J65 p1 p2 Q u → WD g A s u H locs → lv_has ls 6 [(0, .ref (gad g 39)), (1, .int p1), (2, .int p2)] → W p l e rm_X5_mark s m args below meth c H locs 0 0 (MQ below (va_Qi Q (WQ g) A) args s 0 0 A) (F0 m 65 ls []) := by
  intro u H locs ls h hW hl
  refine lv_iload_n C.1 C.2.1 dX5_mark_65 rfl (lv_at hl 2 rfl) ?_
  refine lv_iconst (v := 1) C.1 C.2.1 dX5_mark_66 (by decide) ?_
  refine lv_icmp_eq (tgt := 75) C.1 C.2.1 dX5_mark_67 (by decide) (fun c14 => ?_) (fun c14 => ?_)
  · have h := h.1 c14
    exact k_X5_mark_J75 C u _ _ _ h hW hl
  · have h := h.2 c14
    refine lv_iload_n C.1 C.2.1 dX5_mark_70 rfl (lv_at hl 2 rfl) ?_
    refine lv_iconst (v := 3) C.1 C.2.1 dX5_mark_71 (by decide) ?_
    refine lv_icmp_ne (tgt := 119) C.1 C.2.1 dX5_mark_72 (by decide) (fun c15 => ?_) (fun c15 => ?_)
    · have h := h.1 c15
      refine lv_iload_n C.1 C.2.1 dX5_mark_119 rfl (lv_at hl 2 rfl) ?_
      refine lv_iconst (v := 4) C.1 C.2.1 dX5_mark_120 (by decide) ?_
      refine lv_icmp_ne (tgt := 149) C.1 C.2.1 dX5_mark_121 (by decide) (fun c16 => ?_) (fun c16 => ?_)
      · have h := h.1 c16
        refine lv_iconst (v := 0) C.1 C.2.1 dX5_mark_149 (by decide) ?_
        refine lv_istore_n (lv' := [(3, .int 0), (0, .ref (gad g 39)), (1, .int p1), (2, .int p2)]) C.1 C.2.1 dX5_mark_150 rfl hl (by decide) rfl (fun ls hl => ?_)
        refine lv_aload_n C.1 C.2.1 dX5_mark_151 rfl (lv_at hl 1 rfl) ?_
        refine lv_iconst (v := 1) C.1 C.2.1 dX5_mark_152 (by decide) ?_
        refine x_Vi (rest := []) C hW (c_X5_now l g h) km_X5_now oModel rfl qm_X5_122 ⟨rfl, rfl⟩ (by decide) rfl hl.1 rfl (Nat.le_of_ble_eq_true rfl) ⟨Nat.zero_le _, Nat.zero_le _⟩ dX5_mark_153 (fun r17 u17 H locs h hW => ?_)
        refine lv_istore (lv' := [(4, .int r17), (3, .int 0), (0, .ref (gad g 39)), (1, .int p1), (2, .int p2)]) C.1 C.2.1 dX5_mark_156 hl (by decide) rfl (fun ls hl => ?_)
        obtain ⟨n, h⟩ := h
        exact k_X5_mark_L158 C n 0 r17 u17 _ _ _ h hW (lv_sub hl [2, 3, 4, 1, 0] rfl)
      · have h := h.2 c16
        refine lv_aload_n C.1 C.2.1 dX5_mark_124 rfl (lv_at hl 0 rfl) ?_
        refine fg_X5_42 C hW dX5_mark_125 ?_
        refine lv_iload_n C.1 C.2.1 dX5_mark_128 rfl (lv_at hl 1 rfl) ?_
        obtain ⟨h18, h⟩ := h
        refine x_iald C hW g_49 h18 dX5_mark_129 ?_
        refine lv_aload_n C.1 C.2.1 dX5_mark_130 rfl (lv_at hl 0 rfl) ?_
        refine lv_iconst (v := 3) C.1 C.2.1 dX5_mark_131 (by decide) ?_
        refine lv_iload_n C.1 C.2.1 dX5_mark_132 rfl (lv_at hl 1 rfl) ?_
        refine lv_iadd C.1 C.2.1 dX5_mark_133 ?_
        refine x_Vi (rest := [.int (gi u 49 (Int32.toNatClampNeg p1))]) C hW (c_X5_now l g h) km_X5_now oModel rfl qm_X5_122 ⟨rfl, rfl⟩ (by decide) rfl hl.1 rfl (Nat.le_of_ble_eq_true rfl) ⟨Nat.zero_le _, Nat.zero_le _⟩ dX5_mark_134 (fun r19 u19 H locs h hW => ?_)
        refine lv_isub C.1 C.2.1 dX5_mark_137 ?_
        refine lv_istore_n (lv' := [(3, .int ((gi u 49 (Int32.toNatClampNeg p1)) - r19)), (0, .ref (gad g 39)), (1, .int p1), (2, .int p2)]) C.1 C.2.1 dX5_mark_138 rfl hl (by decide) rfl (fun ls hl => ?_)
        refine lv_iload_n C.1 C.2.1 dX5_mark_139 rfl (lv_at hl 0 rfl) ?_
        refine lv_if_ge (tgt := 147) C.1 C.2.1 dX5_mark_140 (by decide) (fun c20 => ?_) (fun c20 => ?_)
        · have h := h.1 c20
          refine lv_iload_n C.1 C.2.1 dX5_mark_147 rfl (lv_at hl 0 rfl) ?_
          exact x_iret C hW h dX5_mark_148
        · have h := h.2 c20
          refine lv_iconst (v := 0) C.1 C.2.1 dX5_mark_143 (by decide) ?_
          refine lv_goto (tgt := 148) C.1 C.2.1 dX5_mark_144 (by decide) ?_
          exact x_iret C hW h dX5_mark_148
    · have h := h.2 c15
      exact k_X5_mark_J75 C u _ _ _ h hW hl
set_option maxRecDepth 100000 in
theorem k_X5_mark_J59 {p : Program} {l : Launch} {e : Env} {s : State} {m : MethodId} {args : Array Value} {below : List Frame} {meth : Method} {c : Code} {g : GG} {A : Nat → Prop} {p1 : Int32} {p2 : Int32} {Q : Int32 → St → Prop} (C : MC p s m args meth c cX5_mark 6 RX5 (some .int) g A) : ∀ (u : St) (H : Heap) (locs : List Loc) (ls : Array Slot), wp_X5_mark_J59 p1 p2 Q u → WD g A s u H locs → lv_has ls 6 [(0, .ref (gad g 39))] → W p l e rm_X5_mark s m args below meth c H locs 0 0 (MQ below (va_Qi Q (WQ g) A) args s 0 0 A) (F0 m 59 ls []) := by
  intro u H locs ls h hW hl
  refine lv_aload_n C.1 C.2.1 dX5_mark_59 rfl (lv_at hl 0 rfl) ?_
  refine lv_iconst (v := 3) C.1 C.2.1 dX5_mark_60 (by decide) ?_
  refine x_Vi (rest := []) C hW (c_X5_find l g h) km_X5_find oModel rfl qm_X5_96 ⟨rfl, rfl⟩ (by decide) rfl hl.1 rfl (Nat.le_of_ble_eq_true rfl) ⟨Nat.zero_le _, Nat.zero_le _⟩ dX5_mark_61 (fun r13 u13 H locs h hW => ?_)
  exact x_iret C hW h dX5_mark_64
set_option maxRecDepth 100000 in
theorem k_X5_mark_J44 {p : Program} {l : Launch} {e : Env} {s : State} {m : MethodId} {args : Array Value} {below : List Frame} {meth : Method} {c : Code} {g : GG} {A : Nat → Prop} {p1 : Int32} {p2 : Int32} {Q : Int32 → St → Prop} (C : MC p s m args meth c cX5_mark 6 RX5 (some .int) g A) : ∀ (u : St) (H : Heap) (locs : List Loc) (ls : Array Slot), wp_X5_mark_J44 p1 p2 Q u → WD g A s u H locs → lv_has ls 6 [(0, .ref (gad g 39)), (1, .int p1), (2, .int p2)] → W p l e rm_X5_mark s m args below meth c H locs 0 0 (MQ below (va_Qi Q (WQ g) A) args s 0 0 A) (F0 m 44 ls []) := by
  intro u H locs ls h hW hl
  refine lv_iload_n C.1 C.2.1 dX5_mark_44 rfl (lv_at hl 2 rfl) ?_
  refine lv_iconst (v := 2) C.1 C.2.1 dX5_mark_45 (by decide) ?_
  refine lv_icmp_ne (tgt := 59) C.1 C.2.1 dX5_mark_46 (by decide) (fun c10 => ?_) (fun c10 => ?_)
  · have h := h.1 c10
    exact k_X5_mark_J59 C u _ _ _ h hW (lv_sub hl [0] rfl)
  · have h := h.2 c10
    refine lv_aload_n C.1 C.2.1 dX5_mark_49 rfl (lv_at hl 0 rfl) ?_
    refine fg_X5_33 C hW dX5_mark_50 ?_
    refine lv_iload_n C.1 C.2.1 dX5_mark_53 rfl (lv_at hl 1 rfl) ?_
    obtain ⟨h11, h⟩ := h
    refine x_iald C hW g_46 h11 dX5_mark_54 ?_
    refine lv_iconst (v := 5) C.1 C.2.1 dX5_mark_55 (by decide) ?_
    refine lv_icmp_eq (tgt := 65) C.1 C.2.1 dX5_mark_56 (by decide) (fun c12 => ?_) (fun c12 => ?_)
    · have h := h.1 c12
      exact k_X5_mark_J65 C u _ _ _ h hW hl
    · have h := h.2 c12
      exact k_X5_mark_J59 C u _ _ _ h hW (lv_sub hl [0] rfl)
set_option maxRecDepth 100000 in
theorem c_X5_mark (l : Launch) (g : GG) {p1 : Int32} {p2 : Int32} {u : St} {Q : Int32 → St → Prop} (h : wp_X5_mark p1 p2 u Q) : CI l yX5_mark cX5_mark 6 (some .int) rm_X5_mark g [.ref (gad g 39), .int p1, .int p2] u Q := by
  refine ent (own := RX5) (Qc := va_Qi Q (WQ g)) (by decide) rfl (Nat.le_of_ble_eq_true rfl) ?_
  intro p e s m below meth c A ls C hl hW
  have hl : lv_has ls 6 [(0, .ref (gad g 39)), (1, .int p1), (2, .int p2)] := hl
  unfold wp_X5_mark at h
  refine lv_aload_n C.1 C.2.1 dX5_mark_0 rfl (lv_at hl 0 rfl) ?_
  refine lv_iload_n C.1 C.2.1 dX5_mark_1 rfl (lv_at hl 1 rfl) ?_
  refine x_Vi (rest := []) C hW (c_X5_isKey l g h) km_X5_isKey oModel rfl qm_X5_149 ⟨rfl, rfl⟩ (by decide) rfl hl.1 rfl (Nat.le_of_ble_eq_true rfl) ⟨Nat.zero_le _, Nat.zero_le _⟩ dX5_mark_2 (fun r1 u1 H locs h hW => ?_)
  refine lv_if_eq (tgt := 17) C.1 C.2.1 dX5_mark_5 (by decide) (fun c2 => ?_) (fun c2 => ?_)
  · have h := h.1 c2
    refine lv_iconst (v := (-1)) C.1 C.2.1 dX5_mark_17 (by decide) ?_
    exact x_iret C hW h dX5_mark_18
  · have h := h.2 c2
    refine lv_iload_n C.1 C.2.1 dX5_mark_8 rfl (lv_at hl 2 rfl) ?_
    refine lv_iconst (v := 1) C.1 C.2.1 dX5_mark_9 (by decide) ?_
    refine lv_iconst (v := 5) C.1 C.2.1 dX5_mark_10 (by decide) ?_
    refine x_Si (rest := []) C hW (c_X5_in l g h) km_X5_in qm_X5_88 ⟨rfl, rfl⟩ (by decide) rfl hl.1 rfl (Nat.le_of_ble_eq_true rfl) ⟨Nat.zero_le _, Nat.zero_le _⟩ dX5_mark_11 (fun r3 u3 H locs h hW => ?_)
    refine lv_if_ne (tgt := 19) C.1 C.2.1 dX5_mark_14 (by decide) (fun c4 => ?_) (fun c4 => ?_)
    · have h := h.1 c4
      refine lv_aload_n C.1 C.2.1 dX5_mark_19 rfl (lv_at hl 0 rfl) ?_
      refine fg_X5_33 C hW dX5_mark_20 ?_
      refine lv_iload_n C.1 C.2.1 dX5_mark_23 rfl (lv_at hl 1 rfl) ?_
      obtain ⟨h5, h⟩ := h
      refine x_iald C hW g_46 h5 dX5_mark_24 ?_
      refine lv_iload_n C.1 C.2.1 dX5_mark_25 rfl (lv_at hl 2 rfl) ?_
      refine lv_icmp_eq (tgt := 65) C.1 C.2.1 dX5_mark_26 (by decide) (fun c6 => ?_) (fun c6 => ?_)
      · have h := h.1 c6
        exact k_X5_mark_J65 C u3 _ _ _ h hW hl
      · have h := h.2 c6
        refine lv_iload_n C.1 C.2.1 dX5_mark_29 rfl (lv_at hl 2 rfl) ?_
        refine lv_iconst (v := 1) C.1 C.2.1 dX5_mark_30 (by decide) ?_
        refine lv_icmp_ne (tgt := 44) C.1 C.2.1 dX5_mark_31 (by decide) (fun c7 => ?_) (fun c7 => ?_)
        · have h := h.1 c7
          exact k_X5_mark_J44 C u3 _ _ _ h hW hl
        · have h := h.2 c7
          refine lv_aload_n C.1 C.2.1 dX5_mark_34 rfl (lv_at hl 0 rfl) ?_
          refine fg_X5_33 C hW dX5_mark_35 ?_
          refine lv_iload_n C.1 C.2.1 dX5_mark_38 rfl (lv_at hl 1 rfl) ?_
          obtain ⟨h8, h⟩ := h
          refine x_iald C hW g_46 h8 dX5_mark_39 ?_
          refine lv_iconst (v := 4) C.1 C.2.1 dX5_mark_40 (by decide) ?_
          refine lv_icmp_eq (tgt := 65) C.1 C.2.1 dX5_mark_41 (by decide) (fun c9 => ?_) (fun c9 => ?_)
          · have h := h.1 c9
            exact k_X5_mark_J65 C u3 _ _ _ h hW hl
          · have h := h.2 c9
            exact k_X5_mark_J44 C u3 _ _ _ h hW hl
    · have h := h.2 c4
      refine lv_iconst (v := (-1)) C.1 C.2.1 dX5_mark_17 (by decide) ?_
      exact x_iret C hW h dX5_mark_18
set_option maxRecDepth 100000 in
theorem k_X5_mean_B44 {p : Program} {l : Launch} {e : Env} {s : State} {m : MethodId} {args : Array Value} {below : List Frame} {meth : Method} {c : Code} {g : GG} {A : Nat → Prop} {p1 : Int32} {Q : Int32 → St → Prop} (C : MC p s m args meth c cX5_mean 5 RX5 (some .int) g A) {K44 : Int64 → Int32 → St → Prop} (hK44 : ∀ (v2 : Int64) (v4 : Int32) (u : St) (H : Heap) (locs : List Loc) (ls : Array Slot), K44 v2 v4 u → WD g A s u H locs → lv_has ls 5 [(0, .ref (gad g 39)), (1, .int p1), (2, .long v2), (4, .int v4)] → W p l e rm_X5_mean s m args below meth c H locs 0 0 (MQ below (va_Qi Q (WQ g) A) args s 0 0 A) (F0 m 44 ls [])) : ∀ (v2 : Int64) (v4 : Int32) (u : St) (H : Heap) (locs : List Loc) (ls : Array Slot), wp_X5_mean_B44 p1 Q K44 v2 v4 u → WD g A s u H locs → lv_has ls 5 [(0, .ref (gad g 39)), (1, .int p1), (2, .long v2), (4, .int v4)] → W p l e rm_X5_mean s m args below meth c H locs 0 0 (MQ below (va_Qi Q (WQ g) A) args s 0 0 A) (F0 m 44 ls []) := by
  intro v2 v4 u H locs ls h hW hl
  refine lv_iload C.1 C.2.1 dX5_mean_44 (lv_at hl 3 rfl) ?_
  refine lv_aload_n C.1 C.2.1 dX5_mean_46 rfl (lv_at hl 0 rfl) ?_
  refine fg_X5_17 C hW dX5_mean_47 ?_
  refine lv_iload_n C.1 C.2.1 dX5_mean_50 rfl (lv_at hl 1 rfl) ?_
  obtain ⟨h9, h⟩ := h
  refine x_iald C hW g_41 h9 dX5_mean_51 ?_
  refine lv_icmp_ge (tgt := 77) C.1 C.2.1 dX5_mean_52 (by decide) (fun c10 => ?_) (fun c10 => ?_)
  · have h := h.1 c10
    refine lv_aload_n C.1 C.2.1 dX5_mean_77 rfl (lv_at hl 0 rfl) ?_
    refine lv_lload_n C.1 C.2.1 dX5_mean_78 rfl (lv_at hl 2 rfl) ?_
    refine lv_aload_n C.1 C.2.1 dX5_mean_79 rfl (lv_at hl 0 rfl) ?_
    refine fg_X5_17 C hW dX5_mean_80 ?_
    refine lv_iload_n C.1 C.2.1 dX5_mean_83 rfl (lv_at hl 1 rfl) ?_
    obtain ⟨h11, h⟩ := h
    refine x_iald C hW g_41 h11 dX5_mean_84 ?_
    refine lv_i2l (v := (gi u 41 (Int32.toNatClampNeg p1)).toInt64) C.1 C.2.1 dX5_mean_85 rfl ?_
    obtain ⟨h12, h⟩ := h
    refine lv_ldiv C.1 C.2.1 dX5_mean_86 h12 ?_
    refine lv_l2i (v := (v2 / (gi u 41 (Int32.toNatClampNeg p1)).toInt64).toInt32) C.1 C.2.1 dX5_mean_87 rfl ?_
    refine x_Vi (rest := []) C hW (c_X5_tellAsked l g h) km_X5_tellAsked oModel rfl qm_X5_100 ⟨rfl, rfl⟩ (by decide) rfl hl.1 rfl (Nat.le_of_ble_eq_true rfl) ⟨Nat.zero_le _, Nat.zero_le _⟩ dX5_mean_88 (fun r13 u13 H locs h hW => ?_)
    exact x_iret C hW h dX5_mean_91
  · have h := h.2 c10
    refine lv_lload_n C.1 C.2.1 dX5_mean_55 rfl (lv_at hl 2 rfl) ?_
    refine lv_aload_n C.1 C.2.1 dX5_mean_56 rfl (lv_at hl 0 rfl) ?_
    refine fg_X5_20 C hW dX5_mean_57 ?_
    refine lv_bipush (v := 40) C.1 C.2.1 dX5_mean_60 (by decide) ?_
    refine lv_iload_n C.1 C.2.1 dX5_mean_62 rfl (lv_at hl 1 rfl) ?_
    refine lv_imul C.1 C.2.1 dX5_mean_63 ?_
    refine lv_iload C.1 C.2.1 dX5_mean_64 (lv_at hl 3 rfl) ?_
    refine lv_iadd C.1 C.2.1 dX5_mean_66 ?_
    obtain ⟨h14, h⟩ := h
    refine x_iald C hW g_42 h14 dX5_mean_67 ?_
    refine lv_i2l (v := (gi u 42 (Int32.toNatClampNeg ((40 * p1) + v4))).toInt64) C.1 C.2.1 dX5_mean_68 rfl ?_
    refine lv_ladd C.1 C.2.1 dX5_mean_69 ?_
    refine lv_lstore_n (lv' := [(2, .long (v2 + (gi u 42 (Int32.toNatClampNeg ((40 * p1) + v4))).toInt64)), (0, .ref (gad g 39)), (1, .int p1), (4, .int v4)]) C.1 C.2.1 dX5_mean_70 rfl hl (by decide) rfl (fun ls hl => ?_)
    refine lv_iinc (v := (v4 + 1)) (lv' := [(4, .int (v4 + 1)), (2, .long (v2 + (gi u 42 (Int32.toNatClampNeg ((40 * p1) + v4))).toInt64)), (0, .ref (gad g 39)), (1, .int p1)]) C.1 C.2.1 dX5_mean_71 hl (k := 3) rfl rfl (by decide) rfl (fun ls hl => ?_)
    refine lv_goto (tgt := 44) C.1 C.2.1 dX5_mean_74 (by decide) ?_
    exact hK44 (v2 + (gi u 42 (Int32.toNatClampNeg ((40 * p1) + v4))).toInt64) (v4 + 1) u _ _ _ h hW (lv_sub hl [2, 3, 1, 0] rfl)
theorem k_X5_mean_L44 {p : Program} {l : Launch} {e : Env} {s : State} {m : MethodId} {args : Array Value} {below : List Frame} {meth : Method} {c : Code} {g : GG} {A : Nat → Prop} {p1 : Int32} {Q : Int32 → St → Prop} (C : MC p s m args meth c cX5_mean 5 RX5 (some .int) g A) : ∀ (n : Nat), ∀ (v2 : Int64) (v4 : Int32) (u : St) (H : Heap) (locs : List Loc) (ls : Array Slot), wp_X5_mean_L44 p1 Q n v2 v4 u → WD g A s u H locs → lv_has ls 5 [(0, .ref (gad g 39)), (1, .int p1), (2, .long v2), (4, .int v4)] → W p l e rm_X5_mean s m args below meth c H locs 0 0 (MQ below (va_Qi Q (WQ g) A) args s 0 0 A) (F0 m 44 ls []) := by
  intro n
  induction n with
  | zero => intro v2 v4 u H locs ls h; exact False.elim h
  | succ n ih => exact k_X5_mean_B44 (p1 := p1) C ih
set_option maxRecDepth 100000 in
theorem c_X5_mean (l : Launch) (g : GG) {p1 : Int32} {u : St} {Q : Int32 → St → Prop} (h : wp_X5_mean p1 u Q) : CI l yX5_mean cX5_mean 5 (some .int) rm_X5_mean g [.ref (gad g 39), .int p1] u Q := by
  refine ent (own := RX5) (Qc := va_Qi Q (WQ g)) (by decide) rfl (Nat.le_of_ble_eq_true rfl) ?_
  intro p e s m below meth c A ls C hl hW
  have hl : lv_has ls 5 [(0, .ref (gad g 39)), (1, .int p1)] := hl
  unfold wp_X5_mean at h
  refine lv_iload_n C.1 C.2.1 dX5_mean_0 rfl (lv_at hl 1 rfl) ?_
  refine x_Si (rest := []) C hW (c_X5_isRow l g h) km_X5_isRow qm_X5_92 ⟨rfl, rfl⟩ (by decide) rfl hl.1 rfl (Nat.le_of_ble_eq_true rfl) ⟨Nat.zero_le _, Nat.zero_le _⟩ dX5_mean_1 (fun r1 u1 H locs h hW => ?_)
  refine lv_if_ne (tgt := 9) C.1 C.2.1 dX5_mean_4 (by decide) (fun c2 => ?_) (fun c2 => ?_)
  · have h := h.1 c2
    refine lv_aload_n C.1 C.2.1 dX5_mean_9 rfl (lv_at hl 0 rfl) ?_
    refine fg_X5_17 C hW dX5_mean_10 ?_
    refine lv_iload_n C.1 C.2.1 dX5_mean_13 rfl (lv_at hl 1 rfl) ?_
    obtain ⟨h3, h⟩ := h
    refine x_iald C hW g_41 h3 dX5_mean_14 ?_
    refine lv_if_ge (tgt := 24) C.1 C.2.1 dX5_mean_15 (by decide) (fun c4 => ?_) (fun c4 => ?_)
    · have h := h.1 c4
      refine lv_aload_n C.1 C.2.1 dX5_mean_24 rfl (lv_at hl 0 rfl) ?_
      refine fg_X5_17 C hW dX5_mean_25 ?_
      refine lv_iload_n C.1 C.2.1 dX5_mean_28 rfl (lv_at hl 1 rfl) ?_
      obtain ⟨h5, h⟩ := h
      refine x_iald C hW g_41 h5 dX5_mean_29 ?_
      refine lv_if_ne (tgt := 39) C.1 C.2.1 dX5_mean_30 (by decide) (fun c6 => ?_) (fun c6 => ?_)
      · have h := h.1 c6
        refine lv_lconst (v := 0) C.1 C.2.1 dX5_mean_39 (by decide) ?_
        refine lv_lstore_n (lv' := [(2, .long 0), (0, .ref (gad g 39)), (1, .int p1)]) C.1 C.2.1 dX5_mean_40 rfl hl (by decide) rfl (fun ls hl => ?_)
        refine lv_iconst (v := 0) C.1 C.2.1 dX5_mean_41 (by decide) ?_
        refine lv_istore (lv' := [(4, .int 0), (2, .long 0), (0, .ref (gad g 39)), (1, .int p1)]) C.1 C.2.1 dX5_mean_42 hl (by decide) rfl (fun ls hl => ?_)
        obtain ⟨n, h⟩ := h
        exact k_X5_mean_L44 C n 0 0 u1 _ _ _ h hW (lv_sub hl [2, 3, 1, 0] rfl)
      · have h := h.2 c6
        refine lv_aload_n C.1 C.2.1 dX5_mean_33 rfl (lv_at hl 0 rfl) ?_
        refine lv_iconst (v := 4) C.1 C.2.1 dX5_mean_34 (by decide) ?_
        refine x_Vi (rest := []) C hW (c_X5_find l g h) km_X5_find oModel rfl qm_X5_96 ⟨rfl, rfl⟩ (by decide) rfl hl.1 rfl (Nat.le_of_ble_eq_true rfl) ⟨Nat.zero_le _, Nat.zero_le _⟩ dX5_mean_35 (fun r7 u7 H locs h hW => ?_)
        exact x_iret C hW h dX5_mean_38
    · have h := h.2 c4
      refine lv_aload_n C.1 C.2.1 dX5_mean_18 rfl (lv_at hl 0 rfl) ?_
      refine lv_iconst (v := 1) C.1 C.2.1 dX5_mean_19 (by decide) ?_
      refine x_Vi (rest := []) C hW (c_X5_find l g h) km_X5_find oModel rfl qm_X5_96 ⟨rfl, rfl⟩ (by decide) rfl hl.1 rfl (Nat.le_of_ble_eq_true rfl) ⟨Nat.zero_le _, Nat.zero_le _⟩ dX5_mean_20 (fun r8 u8 H locs h hW => ?_)
      exact x_iret C hW h dX5_mean_23
  · have h := h.2 c2
    refine lv_iconst (v := (-1)) C.1 C.2.1 dX5_mean_7 (by decide) ?_
    exact x_iret C hW h dX5_mean_8
set_option maxRecDepth 100000 in
theorem k_X5_waysOf_J35 {p : Program} {l : Launch} {e : Env} {s : State} {m : MethodId} {args : Array Value} {below : List Frame} {meth : Method} {c : Code} {g : GG} {A : Nat → Prop} {p1 : Int32} {p2 : Int32} {Q : Int64 → St → Prop} (C : MC p s m args meth c cX5_waysOf 6 RX5 (some .long) g A) {K5 : Int64 → Int32 → St → Prop} (hK5 : ∀ (v3 : Int64) (v5 : Int32) (u : St) (H : Heap) (locs : List Loc) (ls : Array Slot), K5 v3 v5 u → WD g A s u H locs → lv_has ls 6 [(0, .ref (gad g 39)), (1, .int p1), (2, .int p2), (3, .long v3), (5, .int v5)] → W p l e rm_X5_waysOf s m args below meth c H locs 0 0 (MQ below (va_Ql Q (WQ g) A) args s 0 0 A) (F0 m 5 ls [])) : ∀ (v5 : Int32) (t0 : Int64) (t1 : Int64) (u : St) (H : Heap) (locs : List Loc) (ls : Array Slot), wp_X5_waysOf_J35 p1 p2 Q K5 v5 t0 t1 u → WD g A s u H locs → lv_has ls 6 [(0, .ref (gad g 39)), (1, .int p1), (2, .int p2), (5, .int v5)] → W p l e rm_X5_waysOf s m args below meth c H locs 0 0 (MQ below (va_Ql Q (WQ g) A) args s 0 0 A) (F0 m 35 ls [.long t0, .long t1]) := by
  intro v5 t0 t1 u H locs ls h hW hl
  refine lv_lmul C.1 C.2.1 dX5_waysOf_35 ?_
  refine lv_lstore_n (lv' := [(3, .long (t1 * t0)), (0, .ref (gad g 39)), (1, .int p1), (2, .int p2), (5, .int v5)]) C.1 C.2.1 dX5_waysOf_36 rfl hl (by decide) rfl (fun ls hl => ?_)
  refine lv_iinc (v := (v5 + 1)) (lv' := [(5, .int (v5 + 1)), (3, .long (t1 * t0)), (0, .ref (gad g 39)), (1, .int p1), (2, .int p2)]) C.1 C.2.1 dX5_waysOf_37 hl (k := 4) rfl rfl (by decide) rfl (fun ls hl => ?_)
  refine lv_goto (tgt := 5) C.1 C.2.1 dX5_waysOf_40 (by decide) ?_
  exact hK5 (t1 * t0) (v5 + 1) u _ _ _ h hW (lv_sub hl [2, 3, 4, 1, 0] rfl)
set_option maxRecDepth 100000 in
theorem k_X5_waysOf_B5 {p : Program} {l : Launch} {e : Env} {s : State} {m : MethodId} {args : Array Value} {below : List Frame} {meth : Method} {c : Code} {g : GG} {A : Nat → Prop} {p1 : Int32} {p2 : Int32} {Q : Int64 → St → Prop} (C : MC p s m args meth c cX5_waysOf 6 RX5 (some .long) g A) {K5 : Int64 → Int32 → St → Prop} (hK5 : ∀ (v3 : Int64) (v5 : Int32) (u : St) (H : Heap) (locs : List Loc) (ls : Array Slot), K5 v3 v5 u → WD g A s u H locs → lv_has ls 6 [(0, .ref (gad g 39)), (1, .int p1), (2, .int p2), (3, .long v3), (5, .int v5)] → W p l e rm_X5_waysOf s m args below meth c H locs 0 0 (MQ below (va_Ql Q (WQ g) A) args s 0 0 A) (F0 m 5 ls [])) : ∀ (v3 : Int64) (v5 : Int32) (u : St) (H : Heap) (locs : List Loc) (ls : Array Slot), wp_X5_waysOf_B5 p1 p2 Q K5 v3 v5 u → WD g A s u H locs → lv_has ls 6 [(0, .ref (gad g 39)), (1, .int p1), (2, .int p2), (3, .long v3), (5, .int v5)] → W p l e rm_X5_waysOf s m args below meth c H locs 0 0 (MQ below (va_Ql Q (WQ g) A) args s 0 0 A) (F0 m 5 ls []) := by
  intro v3 v5 u H locs ls h hW hl
  refine lv_iload C.1 C.2.1 dX5_waysOf_5 (lv_at hl 4 rfl) ?_
  refine lv_aload_n C.1 C.2.1 dX5_waysOf_7 rfl (lv_at hl 0 rfl) ?_
  refine fg_X5_116 C hW dX5_waysOf_8 ?_
  refine lv_icmp_ge (tgt := 43) C.1 C.2.1 dX5_waysOf_11 (by decide) (fun c1 => ?_) (fun c1 => ?_)
  · have h := h.1 c1
    refine lv_lload_n C.1 C.2.1 dX5_waysOf_43 rfl (lv_at hl 3 rfl) ?_
    exact x_lret C hW h dX5_waysOf_44
  · have h := h.2 c1
    refine lv_lload_n C.1 C.2.1 dX5_waysOf_14 rfl (lv_at hl 3 rfl) ?_
    refine lv_iload_n C.1 C.2.1 dX5_waysOf_15 rfl (lv_at hl 1 rfl) ?_
    refine lv_iload C.1 C.2.1 dX5_waysOf_16 (lv_at hl 4 rfl) ?_
    refine x_Si (rest := [.long v3]) C hW (c_X5_has l g h) km_X5_has qm_X5_125 ⟨rfl, rfl⟩ (by decide) rfl hl.1 rfl (Nat.le_of_ble_eq_true rfl) ⟨Nat.zero_le _, Nat.zero_le _⟩ dX5_waysOf_18 (fun r2 u2 H locs h hW => ?_)
    refine lv_if_eq (tgt := 29) C.1 C.2.1 dX5_waysOf_21 (by decide) (fun c3 => ?_) (fun c3 => ?_)
    · have h := h.1 c3
      refine lv_ldc2 (v := 12) C.1 C.2.1 C.2.2.2.1 (C.2.2.2.2.1 _ qk_X5_197) dX5_waysOf_29 ?_
      refine lv_iload_n C.1 C.2.1 dX5_waysOf_32 rfl (lv_at hl 2 rfl) ?_
      refine lv_i2l (v := p2.toInt64) C.1 C.2.1 dX5_waysOf_33 rfl ?_
      refine lv_lsub C.1 C.2.1 dX5_waysOf_34 ?_
      exact k_X5_waysOf_J35 C hK5 v5 (12 - p2.toInt64) v3 u2 _ _ _ h hW (lv_sub hl [0, 1, 2, 4] rfl)
    · have h := h.2 c3
      refine lv_iload_n C.1 C.2.1 dX5_waysOf_24 rfl (lv_at hl 2 rfl) ?_
      refine lv_i2l (v := p2.toInt64) C.1 C.2.1 dX5_waysOf_25 rfl ?_
      refine lv_goto (tgt := 35) C.1 C.2.1 dX5_waysOf_26 (by decide) ?_
      exact k_X5_waysOf_J35 C hK5 v5 p2.toInt64 v3 u2 _ _ _ h hW (lv_sub hl [0, 1, 2, 4] rfl)
theorem k_X5_waysOf_L5 {p : Program} {l : Launch} {e : Env} {s : State} {m : MethodId} {args : Array Value} {below : List Frame} {meth : Method} {c : Code} {g : GG} {A : Nat → Prop} {p1 : Int32} {p2 : Int32} {Q : Int64 → St → Prop} (C : MC p s m args meth c cX5_waysOf 6 RX5 (some .long) g A) : ∀ (n : Nat), ∀ (v3 : Int64) (v5 : Int32) (u : St) (H : Heap) (locs : List Loc) (ls : Array Slot), wp_X5_waysOf_L5 p1 p2 Q n v3 v5 u → WD g A s u H locs → lv_has ls 6 [(0, .ref (gad g 39)), (1, .int p1), (2, .int p2), (3, .long v3), (5, .int v5)] → W p l e rm_X5_waysOf s m args below meth c H locs 0 0 (MQ below (va_Ql Q (WQ g) A) args s 0 0 A) (F0 m 5 ls []) := by
  intro n
  induction n with
  | zero => intro v3 v5 u H locs ls h; exact False.elim h
  | succ n ih => exact k_X5_waysOf_B5 (p1 := p1) (p2 := p2) C ih
set_option maxRecDepth 100000 in
theorem c_X5_waysOf (l : Launch) (g : GG) {p1 : Int32} {p2 : Int32} {u : St} {Q : Int64 → St → Prop} (h : wp_X5_waysOf p1 p2 u Q) : CL l yX5_waysOf cX5_waysOf 6 (some .long) rm_X5_waysOf g [.ref (gad g 39), .int p1, .int p2] u Q := by
  refine ent (own := RX5) (Qc := va_Ql Q (WQ g)) (by decide) rfl (Nat.le_of_ble_eq_true rfl) ?_
  intro p e s m below meth c A ls C hl hW
  have hl : lv_has ls 6 [(0, .ref (gad g 39)), (1, .int p1), (2, .int p2)] := hl
  unfold wp_X5_waysOf at h
  refine lv_lconst (v := 1) C.1 C.2.1 dX5_waysOf_0 (by decide) ?_
  refine lv_lstore_n (lv' := [(3, .long 1), (0, .ref (gad g 39)), (1, .int p1), (2, .int p2)]) C.1 C.2.1 dX5_waysOf_1 rfl hl (by decide) rfl (fun ls hl => ?_)
  refine lv_iconst (v := 0) C.1 C.2.1 dX5_waysOf_2 (by decide) ?_
  refine lv_istore (lv' := [(5, .int 0), (3, .long 1), (0, .ref (gad g 39)), (1, .int p1), (2, .int p2)]) C.1 C.2.1 dX5_waysOf_3 hl (by decide) rfl (fun ls hl => ?_)
  obtain ⟨n, h⟩ := h
  exact k_X5_waysOf_L5 C n 1 0 u _ _ _ h hW (lv_sub hl [2, 3, 4, 1, 0] rfl)
set_option maxRecDepth 100000 in
theorem k_X5_mid_B31 {p : Program} {l : Launch} {e : Env} {s : State} {m : MethodId} {args : Array Value} {below : List Frame} {meth : Method} {c : Code} {g : GG} {A : Nat → Prop} {p1 : Int32} {Q : Int32 → St → Prop} (C : MC p s m args meth c cX5_mid 5 RX5 (some .int) g A) {K31 : Int64 → Int32 → St → Prop} (hK31 : ∀ (v2 : Int64) (v4 : Int32) (u : St) (H : Heap) (locs : List Loc) (ls : Array Slot), K31 v2 v4 u → WD g A s u H locs → lv_has ls 5 [(0, .ref (gad g 39)), (1, .int p1), (2, .long v2), (4, .int v4)] → W p l e rm_X5_mid s m args below meth c H locs 0 0 (MQ below (va_Qi Q (WQ g) A) args s 0 0 A) (F0 m 31 ls [])) : ∀ (v2 : Int64) (v4 : Int32) (u : St) (H : Heap) (locs : List Loc) (ls : Array Slot), wp_X5_mid_B31 p1 Q K31 v2 v4 u → WD g A s u H locs → lv_has ls 5 [(0, .ref (gad g 39)), (1, .int p1), (2, .long v2), (4, .int v4)] → W p l e rm_X5_mid s m args below meth c H locs 0 0 (MQ below (va_Qi Q (WQ g) A) args s 0 0 A) (F0 m 31 ls []) := by
  intro v2 v4 u H locs ls h hW hl
  refine lv_iload C.1 C.2.1 dX5_mid_31 (lv_at hl 3 rfl) ?_
  refine lv_iconst (v := 1) C.1 C.2.1 dX5_mid_33 (by decide) ?_
  refine lv_aload_n C.1 C.2.1 dX5_mid_34 rfl (lv_at hl 0 rfl) ?_
  refine fg_X5_116 C hW dX5_mid_35 ?_
  refine lv_ishl C.1 C.2.1 dX5_mid_38 ?_
  refine lv_icmp_ge (tgt := 74) C.1 C.2.1 dX5_mid_39 (by decide) (fun c5 => ?_) (fun c5 => ?_)
  · have h := h.1 c5
    refine lv_aload_n C.1 C.2.1 dX5_mid_74 rfl (lv_at hl 0 rfl) ?_
    refine lv_lload_n C.1 C.2.1 dX5_mid_75 rfl (lv_at hl 2 rfl) ?_
    refine lv_aload_n C.1 C.2.1 dX5_mid_76 rfl (lv_at hl 0 rfl) ?_
    refine x_Vl (rest := [.long v2, .ref (gad g 39)]) C hW (c_X5_allWays l g h) km_X5_allWays oModel rfl qm_X5_203 ⟨rfl, rfl⟩ (by decide) rfl hl.1 rfl (Nat.le_of_ble_eq_true rfl) ⟨Nat.zero_le _, Nat.zero_le _⟩ dX5_mid_77 (fun r6 u6 H locs h hW => ?_)
    refine x_Vi (rest := []) C hW (c_X5_fraction l g h) km_X5_fraction oModel rfl qm_X5_207 ⟨rfl, rfl⟩ (by decide) rfl hl.1 rfl (Nat.le_of_ble_eq_true rfl) ⟨Nat.zero_le _, Nat.zero_le _⟩ dX5_mid_80 (fun r7 u7 H locs h hW => ?_)
    exact x_iret C hW h dX5_mid_83
  · have h := h.2 c5
    refine lv_lload_n C.1 C.2.1 dX5_mid_42 rfl (lv_at hl 2 rfl) ?_
    refine lv_aload_n C.1 C.2.1 dX5_mid_43 rfl (lv_at hl 0 rfl) ?_
    refine lv_iload C.1 C.2.1 dX5_mid_44 (lv_at hl 3 rfl) ?_
    refine lv_iload_n C.1 C.2.1 dX5_mid_46 rfl (lv_at hl 1 rfl) ?_
    refine x_Vl (rest := [.long v2]) C hW (c_X5_waysOf l g h) km_X5_waysOf oModel rfl qm_X5_199 ⟨rfl, rfl⟩ (by decide) rfl hl.1 rfl (Nat.le_of_ble_eq_true rfl) ⟨Nat.zero_le _, Nat.zero_le _⟩ dX5_mid_47 (fun r8 u8 H locs h hW => ?_)
    refine lv_aload_n C.1 C.2.1 dX5_mid_50 rfl (lv_at hl 0 rfl) ?_
    refine lv_iload C.1 C.2.1 dX5_mid_51 (lv_at hl 3 rfl) ?_
    refine x_Vi (rest := [.long r8, .long v2]) C hW (c_X5_toldOf l g h) km_X5_toldOf oModel rfl qm_X5_179 ⟨rfl, rfl⟩ (by decide) rfl hl.1 rfl (Nat.le_of_ble_eq_true rfl) ⟨Nat.zero_le _, Nat.zero_le _⟩ dX5_mid_53 (fun r9 u9 H locs h hW => ?_)
    refine lv_iload C.1 C.2.1 dX5_mid_56 (lv_at hl 3 rfl) ?_
    refine lv_iconst (v := (-1)) C.1 C.2.1 dX5_mid_58 (by decide) ?_
    refine lv_ixor C.1 C.2.1 dX5_mid_59 ?_
    refine lv_iand C.1 C.2.1 dX5_mid_60 ?_
    refine x_Si (rest := [.long r8, .long v2]) C hW (c_X5_bitsOf l g h) km_X5_bitsOf qm_X5_156 ⟨rfl, rfl⟩ (by decide) rfl hl.1 rfl (Nat.le_of_ble_eq_true rfl) ⟨Nat.zero_le _, Nat.zero_le _⟩ dX5_mid_61 (fun r10 u10 H locs h hW => ?_)
    refine lv_i2l (v := r10.toInt64) C.1 C.2.1 dX5_mid_64 rfl ?_
    refine lv_lmul C.1 C.2.1 dX5_mid_65 ?_
    refine lv_ladd C.1 C.2.1 dX5_mid_66 ?_
    refine lv_lstore_n (lv' := [(2, .long (v2 + (r8 * r10.toInt64))), (0, .ref (gad g 39)), (1, .int p1), (4, .int v4)]) C.1 C.2.1 dX5_mid_67 rfl hl (by decide) rfl (fun ls hl => ?_)
    refine lv_iinc (v := (v4 + 1)) (lv' := [(4, .int (v4 + 1)), (2, .long (v2 + (r8 * r10.toInt64))), (0, .ref (gad g 39)), (1, .int p1)]) C.1 C.2.1 dX5_mid_68 hl (k := 3) rfl rfl (by decide) rfl (fun ls hl => ?_)
    refine lv_goto (tgt := 31) C.1 C.2.1 dX5_mid_71 (by decide) ?_
    exact hK31 (v2 + (r8 * r10.toInt64)) (v4 + 1) u10 _ _ _ h hW (lv_sub hl [2, 3, 1, 0] rfl)
theorem k_X5_mid_L31 {p : Program} {l : Launch} {e : Env} {s : State} {m : MethodId} {args : Array Value} {below : List Frame} {meth : Method} {c : Code} {g : GG} {A : Nat → Prop} {p1 : Int32} {Q : Int32 → St → Prop} (C : MC p s m args meth c cX5_mid 5 RX5 (some .int) g A) : ∀ (n : Nat), ∀ (v2 : Int64) (v4 : Int32) (u : St) (H : Heap) (locs : List Loc) (ls : Array Slot), wp_X5_mid_L31 p1 Q n v2 v4 u → WD g A s u H locs → lv_has ls 5 [(0, .ref (gad g 39)), (1, .int p1), (2, .long v2), (4, .int v4)] → W p l e rm_X5_mid s m args below meth c H locs 0 0 (MQ below (va_Qi Q (WQ g) A) args s 0 0 A) (F0 m 31 ls []) := by
  intro n
  induction n with
  | zero => intro v2 v4 u H locs ls h; exact False.elim h
  | succ n ih => exact k_X5_mid_B31 (p1 := p1) C ih
set_option maxRecDepth 100000 in
theorem c_X5_mid (l : Launch) (g : GG) {p1 : Int32} {u : St} {Q : Int32 → St → Prop} (h : wp_X5_mid p1 u Q) : CI l yX5_mid cX5_mid 5 (some .int) rm_X5_mid g [.ref (gad g 39), .int p1] u Q := by
  refine ent (own := RX5) (Qc := va_Qi Q (WQ g)) (by decide) rfl (Nat.le_of_ble_eq_true rfl) ?_
  intro p e s m below meth c A ls C hl hW
  have hl : lv_has ls 5 [(0, .ref (gad g 39)), (1, .int p1)] := hl
  unfold wp_X5_mid at h
  refine lv_iload_n C.1 C.2.1 dX5_mid_0 rfl (lv_at hl 1 rfl) ?_
  refine lv_iconst (v := 0) C.1 C.2.1 dX5_mid_1 (by decide) ?_
  refine lv_bipush (v := 12) C.1 C.2.1 dX5_mid_2 (by decide) ?_
  refine x_Si (rest := []) C hW (c_X5_in l g h) km_X5_in qm_X5_88 ⟨rfl, rfl⟩ (by decide) rfl hl.1 rfl (Nat.le_of_ble_eq_true rfl) ⟨Nat.zero_le _, Nat.zero_le _⟩ dX5_mid_4 (fun r1 u1 H locs h hW => ?_)
  refine lv_if_ne (tgt := 12) C.1 C.2.1 dX5_mid_7 (by decide) (fun c2 => ?_) (fun c2 => ?_)
  · have h := h.1 c2
    refine lv_aload_n C.1 C.2.1 dX5_mid_12 rfl (lv_at hl 0 rfl) ?_
    refine fg_X5_116 C hW dX5_mid_13 ?_
    refine lv_if_ne (tgt := 22) C.1 C.2.1 dX5_mid_16 (by decide) (fun c3 => ?_) (fun c3 => ?_)
    · have h := h.1 c3
      refine lv_aload_n C.1 C.2.1 dX5_mid_22 rfl (lv_at hl 0 rfl) ?_
      refine x_Vv (rest := []) C hW (c_X5_take l g h) km_X5_take oModel rfl qm_X5_139 ⟨rfl, rfl⟩ (by decide) rfl hl.1 rfl (Nat.le_of_ble_eq_true rfl) ⟨Nat.zero_le _, Nat.zero_le _⟩ dX5_mid_23 (fun u4 H locs h hW => ?_)
      refine lv_lconst (v := 0) C.1 C.2.1 dX5_mid_26 (by decide) ?_
      refine lv_lstore_n (lv' := [(2, .long 0), (0, .ref (gad g 39)), (1, .int p1)]) C.1 C.2.1 dX5_mid_27 rfl hl (by decide) rfl (fun ls hl => ?_)
      refine lv_iconst (v := 0) C.1 C.2.1 dX5_mid_28 (by decide) ?_
      refine lv_istore (lv' := [(4, .int 0), (2, .long 0), (0, .ref (gad g 39)), (1, .int p1)]) C.1 C.2.1 dX5_mid_29 hl (by decide) rfl (fun ls hl => ?_)
      obtain ⟨n, h⟩ := h
      exact k_X5_mid_L31 C n 0 0 u4 _ _ _ h hW (lv_sub hl [2, 3, 1, 0] rfl)
    · have h := h.2 c3
      refine lv_bipush (v := (-4)) C.1 C.2.1 dX5_mid_19 (by decide) ?_
      exact x_iret C hW h dX5_mid_21
  · have h := h.2 c2
    refine lv_iconst (v := (-1)) C.1 C.2.1 dX5_mid_10 (by decide) ?_
    exact x_iret C hW h dX5_mid_11
set_option maxRecDepth 100000 in
theorem k_X5_odds_J65 {p : Program} {l : Launch} {e : Env} {s : State} {m : MethodId} {args : Array Value} {below : List Frame} {meth : Method} {c : Code} {g : GG} {A : Nat → Prop} {p1 : Int32} {Q : Int32 → St → Prop} (C : MC p s m args meth c cX5_odds 5 RX5 (some .int) g A) {K31 : Int64 → Int32 → St → Prop} (hK31 : ∀ (v2 : Int64) (v4 : Int32) (u : St) (H : Heap) (locs : List Loc) (ls : Array Slot), K31 v2 v4 u → WD g A s u H locs → lv_has ls 5 [(0, .ref (gad g 39)), (1, .int p1), (2, .long v2), (4, .int v4)] → W p l e rm_X5_odds s m args below meth c H locs 0 0 (MQ below (va_Qi Q (WQ g) A) args s 0 0 A) (F0 m 31 ls [])) : ∀ (v4 : Int32) (t0 : Int64) (t1 : Int64) (u : St) (H : Heap) (locs : List Loc) (ls : Array Slot), wp_X5_odds_J65 p1 Q K31 v4 t0 t1 u → WD g A s u H locs → lv_has ls 5 [(0, .ref (gad g 39)), (1, .int p1), (4, .int v4)] → W p l e rm_X5_odds s m args below meth c H locs 0 0 (MQ below (va_Qi Q (WQ g) A) args s 0 0 A) (F0 m 65 ls [.long t0, .long t1]) := by
  intro v4 t0 t1 u H locs ls h hW hl
  refine lv_ladd C.1 C.2.1 dX5_odds_65 ?_
  refine lv_lstore_n (lv' := [(2, .long (t1 + t0)), (0, .ref (gad g 39)), (1, .int p1), (4, .int v4)]) C.1 C.2.1 dX5_odds_66 rfl hl (by decide) rfl (fun ls hl => ?_)
  refine lv_iinc (v := (v4 + 1)) (lv' := [(4, .int (v4 + 1)), (2, .long (t1 + t0)), (0, .ref (gad g 39)), (1, .int p1)]) C.1 C.2.1 dX5_odds_67 hl (k := 3) rfl rfl (by decide) rfl (fun ls hl => ?_)
  refine lv_goto (tgt := 31) C.1 C.2.1 dX5_odds_70 (by decide) ?_
  exact hK31 (t1 + t0) (v4 + 1) u _ _ _ h hW (lv_sub hl [2, 3, 1, 0] rfl)
set_option maxRecDepth 100000 in
theorem k_X5_odds_B31 {p : Program} {l : Launch} {e : Env} {s : State} {m : MethodId} {args : Array Value} {below : List Frame} {meth : Method} {c : Code} {g : GG} {A : Nat → Prop} {p1 : Int32} {Q : Int32 → St → Prop} (C : MC p s m args meth c cX5_odds 5 RX5 (some .int) g A) {K31 : Int64 → Int32 → St → Prop} (hK31 : ∀ (v2 : Int64) (v4 : Int32) (u : St) (H : Heap) (locs : List Loc) (ls : Array Slot), K31 v2 v4 u → WD g A s u H locs → lv_has ls 5 [(0, .ref (gad g 39)), (1, .int p1), (2, .long v2), (4, .int v4)] → W p l e rm_X5_odds s m args below meth c H locs 0 0 (MQ below (va_Qi Q (WQ g) A) args s 0 0 A) (F0 m 31 ls [])) : ∀ (v2 : Int64) (v4 : Int32) (u : St) (H : Heap) (locs : List Loc) (ls : Array Slot), wp_X5_odds_B31 p1 Q K31 v2 v4 u → WD g A s u H locs → lv_has ls 5 [(0, .ref (gad g 39)), (1, .int p1), (2, .long v2), (4, .int v4)] → W p l e rm_X5_odds s m args below meth c H locs 0 0 (MQ below (va_Qi Q (WQ g) A) args s 0 0 A) (F0 m 31 ls []) := by
  intro v2 v4 u H locs ls h hW hl
  refine lv_iload C.1 C.2.1 dX5_odds_31 (lv_at hl 3 rfl) ?_
  refine lv_iconst (v := 1) C.1 C.2.1 dX5_odds_33 (by decide) ?_
  refine lv_aload_n C.1 C.2.1 dX5_odds_34 rfl (lv_at hl 0 rfl) ?_
  refine fg_X5_116 C hW dX5_odds_35 ?_
  refine lv_ishl C.1 C.2.1 dX5_odds_38 ?_
  refine lv_icmp_ge (tgt := 73) C.1 C.2.1 dX5_odds_39 (by decide) (fun c5 => ?_) (fun c5 => ?_)
  · have h := h.1 c5
    refine lv_aload_n C.1 C.2.1 dX5_odds_73 rfl (lv_at hl 0 rfl) ?_
    refine lv_lload_n C.1 C.2.1 dX5_odds_74 rfl (lv_at hl 2 rfl) ?_
    refine lv_aload_n C.1 C.2.1 dX5_odds_75 rfl (lv_at hl 0 rfl) ?_
    refine x_Vl (rest := [.long v2, .ref (gad g 39)]) C hW (c_X5_allWays l g h) km_X5_allWays oModel rfl qm_X5_203 ⟨rfl, rfl⟩ (by decide) rfl hl.1 rfl (Nat.le_of_ble_eq_true rfl) ⟨Nat.zero_le _, Nat.zero_le _⟩ dX5_odds_76 (fun r6 u6 H locs h hW => ?_)
    refine x_Vi (rest := []) C hW (c_X5_fraction l g h) km_X5_fraction oModel rfl qm_X5_207 ⟨rfl, rfl⟩ (by decide) rfl hl.1 rfl (Nat.le_of_ble_eq_true rfl) ⟨Nat.zero_le _, Nat.zero_le _⟩ dX5_odds_79 (fun r7 u7 H locs h hW => ?_)
    exact x_iret C hW h dX5_odds_82
  · have h := h.2 c5
    refine lv_lload_n C.1 C.2.1 dX5_odds_42 rfl (lv_at hl 2 rfl) ?_
    refine lv_aload_n C.1 C.2.1 dX5_odds_43 rfl (lv_at hl 0 rfl) ?_
    refine lv_iload C.1 C.2.1 dX5_odds_44 (lv_at hl 3 rfl) ?_
    refine x_Vi (rest := [.long v2]) C hW (c_X5_toldOf l g h) km_X5_toldOf oModel rfl qm_X5_179 ⟨rfl, rfl⟩ (by decide) rfl hl.1 rfl (Nat.le_of_ble_eq_true rfl) ⟨Nat.zero_le _, Nat.zero_le _⟩ dX5_odds_46 (fun r8 u8 H locs h hW => ?_)
    refine lv_iload C.1 C.2.1 dX5_odds_49 (lv_at hl 3 rfl) ?_
    refine lv_icmp_ne (tgt := 64) C.1 C.2.1 dX5_odds_51 (by decide) (fun c9 => ?_) (fun c9 => ?_)
    · have h := h.1 c9
      refine lv_lconst (v := 0) C.1 C.2.1 dX5_odds_64 (by decide) ?_
      exact k_X5_odds_J65 C hK31 v4 0 v2 u8 _ _ _ h hW (lv_sub hl [0, 1, 3] rfl)
    · have h := h.2 c9
      refine lv_aload_n C.1 C.2.1 dX5_odds_54 rfl (lv_at hl 0 rfl) ?_
      refine lv_iload C.1 C.2.1 dX5_odds_55 (lv_at hl 3 rfl) ?_
      refine lv_iload_n C.1 C.2.1 dX5_odds_57 rfl (lv_at hl 1 rfl) ?_
      refine x_Vl (rest := [.long v2]) C hW (c_X5_waysOf l g h) km_X5_waysOf oModel rfl qm_X5_199 ⟨rfl, rfl⟩ (by decide) rfl hl.1 rfl (Nat.le_of_ble_eq_true rfl) ⟨Nat.zero_le _, Nat.zero_le _⟩ dX5_odds_58 (fun r10 u10 H locs h hW => ?_)
      refine lv_goto (tgt := 65) C.1 C.2.1 dX5_odds_61 (by decide) ?_
      exact k_X5_odds_J65 C hK31 v4 r10 v2 u10 _ _ _ h hW (lv_sub hl [0, 1, 3] rfl)
theorem k_X5_odds_L31 {p : Program} {l : Launch} {e : Env} {s : State} {m : MethodId} {args : Array Value} {below : List Frame} {meth : Method} {c : Code} {g : GG} {A : Nat → Prop} {p1 : Int32} {Q : Int32 → St → Prop} (C : MC p s m args meth c cX5_odds 5 RX5 (some .int) g A) : ∀ (n : Nat), ∀ (v2 : Int64) (v4 : Int32) (u : St) (H : Heap) (locs : List Loc) (ls : Array Slot), wp_X5_odds_L31 p1 Q n v2 v4 u → WD g A s u H locs → lv_has ls 5 [(0, .ref (gad g 39)), (1, .int p1), (2, .long v2), (4, .int v4)] → W p l e rm_X5_odds s m args below meth c H locs 0 0 (MQ below (va_Qi Q (WQ g) A) args s 0 0 A) (F0 m 31 ls []) := by
  intro n
  induction n with
  | zero => intro v2 v4 u H locs ls h; exact False.elim h
  | succ n ih => exact k_X5_odds_B31 (p1 := p1) C ih
set_option maxRecDepth 100000 in
theorem c_X5_odds (l : Launch) (g : GG) {p1 : Int32} {u : St} {Q : Int32 → St → Prop} (h : wp_X5_odds p1 u Q) : CI l yX5_odds cX5_odds 5 (some .int) rm_X5_odds g [.ref (gad g 39), .int p1] u Q := by
  refine ent (own := RX5) (Qc := va_Qi Q (WQ g)) (by decide) rfl (Nat.le_of_ble_eq_true rfl) ?_
  intro p e s m below meth c A ls C hl hW
  have hl : lv_has ls 5 [(0, .ref (gad g 39)), (1, .int p1)] := hl
  unfold wp_X5_odds at h
  refine lv_iload_n C.1 C.2.1 dX5_odds_0 rfl (lv_at hl 1 rfl) ?_
  refine lv_iconst (v := 0) C.1 C.2.1 dX5_odds_1 (by decide) ?_
  refine lv_bipush (v := 12) C.1 C.2.1 dX5_odds_2 (by decide) ?_
  refine x_Si (rest := []) C hW (c_X5_in l g h) km_X5_in qm_X5_88 ⟨rfl, rfl⟩ (by decide) rfl hl.1 rfl (Nat.le_of_ble_eq_true rfl) ⟨Nat.zero_le _, Nat.zero_le _⟩ dX5_odds_4 (fun r1 u1 H locs h hW => ?_)
  refine lv_if_ne (tgt := 12) C.1 C.2.1 dX5_odds_7 (by decide) (fun c2 => ?_) (fun c2 => ?_)
  · have h := h.1 c2
    refine lv_aload_n C.1 C.2.1 dX5_odds_12 rfl (lv_at hl 0 rfl) ?_
    refine fg_X5_116 C hW dX5_odds_13 ?_
    refine lv_if_ne (tgt := 22) C.1 C.2.1 dX5_odds_16 (by decide) (fun c3 => ?_) (fun c3 => ?_)
    · have h := h.1 c3
      refine lv_aload_n C.1 C.2.1 dX5_odds_22 rfl (lv_at hl 0 rfl) ?_
      refine x_Vv (rest := []) C hW (c_X5_take l g h) km_X5_take oModel rfl qm_X5_139 ⟨rfl, rfl⟩ (by decide) rfl hl.1 rfl (Nat.le_of_ble_eq_true rfl) ⟨Nat.zero_le _, Nat.zero_le _⟩ dX5_odds_23 (fun u4 H locs h hW => ?_)
      refine lv_lconst (v := 0) C.1 C.2.1 dX5_odds_26 (by decide) ?_
      refine lv_lstore_n (lv' := [(2, .long 0), (0, .ref (gad g 39)), (1, .int p1)]) C.1 C.2.1 dX5_odds_27 rfl hl (by decide) rfl (fun ls hl => ?_)
      refine lv_iconst (v := 0) C.1 C.2.1 dX5_odds_28 (by decide) ?_
      refine lv_istore (lv' := [(4, .int 0), (2, .long 0), (0, .ref (gad g 39)), (1, .int p1)]) C.1 C.2.1 dX5_odds_29 hl (by decide) rfl (fun ls hl => ?_)
      obtain ⟨n, h⟩ := h
      exact k_X5_odds_L31 C n 0 0 u4 _ _ _ h hW (lv_sub hl [2, 3, 1, 0] rfl)
    · have h := h.2 c3
      refine lv_bipush (v := (-4)) C.1 C.2.1 dX5_odds_19 (by decide) ?_
      exact x_iret C hW h dX5_odds_21
  · have h := h.2 c2
    refine lv_iconst (v := (-1)) C.1 C.2.1 dX5_odds_10 (by decide) ?_
    exact x_iret C hW h dX5_odds_11
set_option maxRecDepth 100000 in
theorem k_X5_on_B28 {p : Program} {l : Launch} {e : Env} {s : State} {m : MethodId} {args : Array Value} {below : List Frame} {meth : Method} {c : Code} {g : GG} {A : Nat → Prop} {p1 : Int32} {Q : Int32 → St → Prop} (C : MC p s m args meth c cX5_on 3 RX5 (some .int) g A) {K28 : Int32 → St → Prop} (hK28 : ∀ (v2 : Int32) (u : St) (H : Heap) (locs : List Loc) (ls : Array Slot), K28 v2 u → WD g A s u H locs → lv_has ls 3 [(0, .ref (gad g 39)), (1, .int p1), (2, .int v2)] → W p l e rm_X5_on s m args below meth c H locs 0 0 (MQ below (va_Qi Q (WQ g) A) args s 0 0 A) (F0 m 28 ls [])) : ∀ (v2 : Int32) (u : St) (H : Heap) (locs : List Loc) (ls : Array Slot), wp_X5_on_B28 p1 Q K28 v2 u → WD g A s u H locs → lv_has ls 3 [(0, .ref (gad g 39)), (1, .int p1), (2, .int v2)] → W p l e rm_X5_on s m args below meth c H locs 0 0 (MQ below (va_Qi Q (WQ g) A) args s 0 0 A) (F0 m 28 ls []) := by
  intro v2 u H locs ls h hW hl
  refine lv_iload_n C.1 C.2.1 dX5_on_28 rfl (lv_at hl 2 rfl) ?_
  refine lv_sipush (v := 410) C.1 C.2.1 dX5_on_29 (by decide) ?_
  refine lv_icmp_ge (tgt := 59) C.1 C.2.1 dX5_on_32 (by decide) (fun c6 => ?_) (fun c6 => ?_)
  · have h := h.1 c6
    refine lv_aload_n C.1 C.2.1 dX5_on_59 rfl (lv_at hl 0 rfl) ?_
    refine lv_aload_n C.1 C.2.1 dX5_on_60 rfl (lv_at hl 0 rfl) ?_
    refine fg_X5_51 C hW dX5_on_61 ?_
    refine lv_iload_n C.1 C.2.1 dX5_on_64 rfl (lv_at hl 1 rfl) ?_
    obtain ⟨h7, h⟩ := h
    refine x_iald C hW g_52 h7 dX5_on_65 ?_
    refine fp_X5_119 C hW dX5_on_66 (fun u8 H locs e8 hW => ?_)
    have h := nxt_get h e8
    refine lv_aload_n C.1 C.2.1 dX5_on_69 rfl (lv_at hl 0 rfl) ?_
    refine fg_X5_119 C hW dX5_on_70 ?_
    exact x_iret C hW h dX5_on_73
  · have h := h.2 c6
    refine lv_aload_n C.1 C.2.1 dX5_on_35 rfl (lv_at hl 0 rfl) ?_
    refine fg_X5_45 C hW dX5_on_36 ?_
    refine lv_iload_n C.1 C.2.1 dX5_on_39 rfl (lv_at hl 2 rfl) ?_
    refine lv_aload_n C.1 C.2.1 dX5_on_40 rfl (lv_at hl 0 rfl) ?_
    refine fg_X5_48 C hW dX5_on_41 ?_
    refine lv_sipush (v := 410) C.1 C.2.1 dX5_on_44 (by decide) ?_
    refine lv_iload_n C.1 C.2.1 dX5_on_47 rfl (lv_at hl 1 rfl) ?_
    refine lv_imul C.1 C.2.1 dX5_on_48 ?_
    refine lv_iload_n C.1 C.2.1 dX5_on_49 rfl (lv_at hl 2 rfl) ?_
    refine lv_iadd C.1 C.2.1 dX5_on_50 ?_
    obtain ⟨h9, h⟩ := h
    refine x_iald C hW g_51 h9 dX5_on_51 ?_
    obtain ⟨h10, h⟩ := h
    refine x_iast C hW g_50 h10 dX5_on_52 (fun u11 H locs e11 hW => ?_)
    have h := nxt_get h e11
    refine lv_iinc (v := (v2 + 1)) (lv' := [(2, .int (v2 + 1)), (0, .ref (gad g 39)), (1, .int p1)]) C.1 C.2.1 dX5_on_53 hl (k := 2) rfl rfl (by decide) rfl (fun ls hl => ?_)
    refine lv_goto (tgt := 28) C.1 C.2.1 dX5_on_56 (by decide) ?_
    exact hK28 (v2 + 1) u11 _ _ _ h hW (lv_sub hl [1, 2, 0] rfl)
theorem k_X5_on_L28 {p : Program} {l : Launch} {e : Env} {s : State} {m : MethodId} {args : Array Value} {below : List Frame} {meth : Method} {c : Code} {g : GG} {A : Nat → Prop} {p1 : Int32} {Q : Int32 → St → Prop} (C : MC p s m args meth c cX5_on 3 RX5 (some .int) g A) : ∀ (n : Nat), ∀ (v2 : Int32) (u : St) (H : Heap) (locs : List Loc) (ls : Array Slot), wp_X5_on_L28 p1 Q n v2 u → WD g A s u H locs → lv_has ls 3 [(0, .ref (gad g 39)), (1, .int p1), (2, .int v2)] → W p l e rm_X5_on s m args below meth c H locs 0 0 (MQ below (va_Qi Q (WQ g) A) args s 0 0 A) (F0 m 28 ls []) := by
  intro n
  induction n with
  | zero => intro v2 u H locs ls h; exact False.elim h
  | succ n ih => exact k_X5_on_B28 (p1 := p1) C ih
set_option maxRecDepth 100000 in
theorem c_X5_on (l : Launch) (g : GG) {p1 : Int32} {u : St} {Q : Int32 → St → Prop} (h : wp_X5_on p1 u Q) : CI l yX5_on cX5_on 3 (some .int) rm_X5_on g [.ref (gad g 39), .int p1] u Q := by
  refine ent (own := RX5) (Qc := va_Qi Q (WQ g)) (by decide) rfl (Nat.le_of_ble_eq_true rfl) ?_
  intro p e s m below meth c A ls C hl hW
  have hl : lv_has ls 3 [(0, .ref (gad g 39)), (1, .int p1)] := hl
  unfold wp_X5_on at h
  refine lv_iload_n C.1 C.2.1 dX5_on_0 rfl (lv_at hl 1 rfl) ?_
  refine lv_iconst (v := 0) C.1 C.2.1 dX5_on_1 (by decide) ?_
  refine lv_iconst (v := 2) C.1 C.2.1 dX5_on_2 (by decide) ?_
  refine x_Si (rest := []) C hW (c_X5_in l g h) km_X5_in qm_X5_88 ⟨rfl, rfl⟩ (by decide) rfl hl.1 rfl (Nat.le_of_ble_eq_true rfl) ⟨Nat.zero_le _, Nat.zero_le _⟩ dX5_on_3 (fun r1 u1 H locs h hW => ?_)
  refine lv_if_ne (tgt := 11) C.1 C.2.1 dX5_on_6 (by decide) (fun c2 => ?_) (fun c2 => ?_)
  · have h := h.1 c2
    refine lv_aload_n C.1 C.2.1 dX5_on_11 rfl (lv_at hl 0 rfl) ?_
    refine fg_X5_51 C hW dX5_on_12 ?_
    refine lv_iload_n C.1 C.2.1 dX5_on_15 rfl (lv_at hl 1 rfl) ?_
    obtain ⟨h3, h⟩ := h
    refine x_iald C hW g_52 h3 dX5_on_16 ?_
    refine lv_if_ge (tgt := 26) C.1 C.2.1 dX5_on_17 (by decide) (fun c4 => ?_) (fun c4 => ?_)
    · have h := h.1 c4
      refine lv_iconst (v := 0) C.1 C.2.1 dX5_on_26 (by decide) ?_
      refine lv_istore_n (lv' := [(2, .int 0), (0, .ref (gad g 39)), (1, .int p1)]) C.1 C.2.1 dX5_on_27 rfl hl (by decide) rfl (fun ls hl => ?_)
      obtain ⟨n, h⟩ := h
      exact k_X5_on_L28 C n 0 u1 _ _ _ h hW (lv_sub hl [1, 2, 0] rfl)
    · have h := h.2 c4
      refine lv_aload_n C.1 C.2.1 dX5_on_20 rfl (lv_at hl 0 rfl) ?_
      refine lv_iconst (v := 1) C.1 C.2.1 dX5_on_21 (by decide) ?_
      refine x_Vi (rest := []) C hW (c_X5_find l g h) km_X5_find oModel rfl qm_X5_96 ⟨rfl, rfl⟩ (by decide) rfl hl.1 rfl (Nat.le_of_ble_eq_true rfl) ⟨Nat.zero_le _, Nat.zero_le _⟩ dX5_on_22 (fun r5 u5 H locs h hW => ?_)
      exact x_iret C hW h dX5_on_25
  · have h := h.2 c2
    refine lv_iconst (v := (-1)) C.1 C.2.1 dX5_on_9 (by decide) ?_
    exact x_iret C hW h dX5_on_10
set_option maxRecDepth 100000 in
theorem k_X5_places_J129 {p : Program} {l : Launch} {e : Env} {s : State} {m : MethodId} {args : Array Value} {below : List Frame} {meth : Method} {c : Code} {g : GG} {A : Nat → Prop} {p1 : Int32} {p2 : Int32} {Q : Int32 → St → Prop} (C : MC p s m args meth c cX5_places 8 RX5 (some .int) g A) : ∀ (v4 : Int32) (u : St) (H : Heap) (locs : List Loc) (ls : Array Slot), wp_X5_places_J129 p1 p2 Q v4 u → WD g A s u H locs → lv_has ls 8 [(4, .int v4)] → W p l e rm_X5_places s m args below meth c H locs 0 0 (MQ below (va_Qi Q (WQ g) A) args s 0 0 A) (F0 m 129 ls []) := by
  intro v4 u H locs ls h hW hl
  refine lv_iload C.1 C.2.1 dX5_places_129 (lv_at hl 0 rfl) ?_
  refine lv_if_le (tgt := 139) C.1 C.2.1 dX5_places_131 (by decide) (fun c20 => ?_) (fun c20 => ?_)
  · have h := h.1 c20
    refine lv_bipush (v := (-9)) C.1 C.2.1 dX5_places_139 (by decide) ?_
    exact x_iret C hW h dX5_places_141
  · have h := h.2 c20
    refine lv_iload C.1 C.2.1 dX5_places_134 (lv_at hl 0 rfl) ?_
    refine lv_goto (tgt := 141) C.1 C.2.1 dX5_places_136 (by decide) ?_
    exact x_iret C hW h dX5_places_141
set_option maxRecDepth 100000 in
theorem k_X5_places_B47 {p : Program} {l : Launch} {e : Env} {s : State} {m : MethodId} {args : Array Value} {below : List Frame} {meth : Method} {c : Code} {g : GG} {A : Nat → Prop} {p1 : Int32} {p2 : Int32} {Q : Int32 → St → Prop} (C : MC p s m args meth c cX5_places 8 RX5 (some .int) g A) {K39 : Int32 → Int32 → Int32 → St → Prop} (hK39 : ∀ (v4 : Int32) (v5 : Int32) (v6 : Int32) (u : St) (H : Heap) (locs : List Loc) (ls : Array Slot), K39 v4 v5 v6 u → WD g A s u H locs → lv_has ls 8 [(0, .ref (gad g 39)), (1, .int p1), (2, .int p2), (4, .int v4), (5, .int v5), (6, .int v6)] → W p l e rm_X5_places s m args below meth c H locs 0 0 (MQ below (va_Qi Q (WQ g) A) args s 0 0 A) (F0 m 39 ls [])) {K47 : Int32 → Int32 → Int32 → Int32 → St → Prop} (hK47 : ∀ (v4 : Int32) (v5 : Int32) (v6 : Int32) (v7 : Int32) (u : St) (H : Heap) (locs : List Loc) (ls : Array Slot), K47 v4 v5 v6 v7 u → WD g A s u H locs → lv_has ls 8 [(0, .ref (gad g 39)), (1, .int p1), (2, .int p2), (4, .int v4), (5, .int v5), (6, .int v6), (7, .int v7)] → W p l e rm_X5_places s m args below meth c H locs 0 0 (MQ below (va_Qi Q (WQ g) A) args s 0 0 A) (F0 m 47 ls [])) : ∀ (v4 : Int32) (v5 : Int32) (v6 : Int32) (v7 : Int32) (u : St) (H : Heap) (locs : List Loc) (ls : Array Slot), wp_X5_places_B47 p1 p2 Q K39 K47 v4 v5 v6 v7 u → WD g A s u H locs → lv_has ls 8 [(0, .ref (gad g 39)), (1, .int p1), (2, .int p2), (4, .int v4), (5, .int v5), (6, .int v6), (7, .int v7)] → W p l e rm_X5_places s m args below meth c H locs 0 0 (MQ below (va_Qi Q (WQ g) A) args s 0 0 A) (F0 m 47 ls []) := by
  intro v4 v5 v6 v7 u H locs ls h hW hl
  refine lv_iload C.1 C.2.1 dX5_places_47 (lv_at hl 6 rfl) ?_
  refine lv_if_lt (tgt := 111) C.1 C.2.1 dX5_places_49 (by decide) (fun c10 => ?_) (fun c10 => ?_)
  · have h := h.1 c10
    refine lv_iinc (v := (v6 + (-1))) (lv' := [(6, .int (v6 + (-1))), (0, .ref (gad g 39)), (1, .int p1), (2, .int p2), (4, .int v4), (5, .int v5), (7, .int v7)]) C.1 C.2.1 dX5_places_111 hl (k := 5) rfl rfl (by decide) rfl (fun ls hl => ?_)
    refine lv_goto (tgt := 39) C.1 C.2.1 dX5_places_114 (by decide) ?_
    exact hK39 v4 v5 (v6 + (-1)) u _ _ _ h hW (lv_sub hl [1, 2, 3, 4, 5, 0] rfl)
  · have h := h.2 c10
    refine lv_aload_n C.1 C.2.1 dX5_places_52 rfl (lv_at hl 0 rfl) ?_
    refine x_Vv (rest := []) C hW (c_X5_take l g h) km_X5_take oModel rfl qm_X5_139 ⟨rfl, rfl⟩ (by decide) rfl hl.1 rfl (Nat.le_of_ble_eq_true rfl) ⟨Nat.zero_le _, Nat.zero_le _⟩ dX5_places_53 (fun u11 H locs h hW => ?_)
    refine lv_aload_n C.1 C.2.1 dX5_places_56 rfl (lv_at hl 0 rfl) ?_
    refine fg_X5_60 C hW dX5_places_57 ?_
    refine lv_iload_n C.1 C.2.1 dX5_places_60 rfl (lv_at hl 1 rfl) ?_
    refine lv_iload C.1 C.2.1 dX5_places_61 (lv_at hl 5 rfl) ?_
    obtain ⟨h12, h⟩ := h
    refine x_iast C hW g_55 h12 dX5_places_63 (fun u13 H locs e13 hW => ?_)
    have h := nxt_get h e13
    refine lv_aload_n C.1 C.2.1 dX5_places_64 rfl (lv_at hl 0 rfl) ?_
    refine fg_X5_63 C hW dX5_places_65 ?_
    refine lv_iload_n C.1 C.2.1 dX5_places_68 rfl (lv_at hl 1 rfl) ?_
    refine lv_iload C.1 C.2.1 dX5_places_69 (lv_at hl 6 rfl) ?_
    obtain ⟨h14, h⟩ := h
    refine x_iast C hW g_56 h14 dX5_places_71 (fun u15 H locs e15 hW => ?_)
    have h := nxt_get h e15
    refine lv_aload_n C.1 C.2.1 dX5_places_72 rfl (lv_at hl 0 rfl) ?_
    refine lv_iload_n C.1 C.2.1 dX5_places_73 rfl (lv_at hl 1 rfl) ?_
    refine lv_iload C.1 C.2.1 dX5_places_74 (lv_at hl 5 rfl) ?_
    refine lv_iload C.1 C.2.1 dX5_places_76 (lv_at hl 6 rfl) ?_
    refine x_Vi (rest := []) C hW (c_X5_isFree l g h) km_X5_isFree oModel rfl qm_X5_194 ⟨rfl, rfl⟩ (by decide) rfl hl.1 rfl (Nat.le_of_ble_eq_true rfl) ⟨Nat.zero_le _, Nat.zero_le _⟩ dX5_places_78 (fun r16 u16 H locs h hW => ?_)
    refine lv_if_eq (tgt := 105) C.1 C.2.1 dX5_places_81 (by decide) (fun c17 => ?_) (fun c17 => ?_)
    · have h := h.1 c17
      refine lv_iinc (v := (v7 + (-1))) (lv' := [(7, .int (v7 + (-1))), (0, .ref (gad g 39)), (1, .int p1), (2, .int p2), (4, .int v4), (5, .int v5), (6, .int v6)]) C.1 C.2.1 dX5_places_105 hl (k := 6) rfl rfl (by decide) rfl (fun ls hl => ?_)
      refine lv_goto (tgt := 47) C.1 C.2.1 dX5_places_108 (by decide) ?_
      exact hK47 v4 v5 v6 (v7 + (-1)) u16 _ _ _ h hW (lv_sub hl [1, 2, 3, 4, 5, 6, 0] rfl)
    · have h := h.2 c17
      refine lv_aload_n C.1 C.2.1 dX5_places_84 rfl (lv_at hl 0 rfl) ?_
      refine lv_iload_n C.1 C.2.1 dX5_places_85 rfl (lv_at hl 2 rfl) ?_
      refine x_Vi (rest := []) C hW (c_X5_isSo l g h) km_X5_isSo oModel rfl qm_X5_185 ⟨rfl, rfl⟩ (by decide) rfl hl.1 rfl (Nat.le_of_ble_eq_true rfl) ⟨Nat.zero_le _, Nat.zero_le _⟩ dX5_places_86 (fun r18 u18 H locs h hW => ?_)
      refine lv_if_eq (tgt := 105) C.1 C.2.1 dX5_places_89 (by decide) (fun c19 => ?_) (fun c19 => ?_)
      · have h := h.1 c19
        refine lv_iinc (v := (v7 + (-1))) (lv' := [(7, .int (v7 + (-1))), (0, .ref (gad g 39)), (1, .int p1), (2, .int p2), (4, .int v4), (5, .int v5), (6, .int v6)]) C.1 C.2.1 dX5_places_105 hl (k := 6) rfl rfl (by decide) rfl (fun ls hl => ?_)
        refine lv_goto (tgt := 47) C.1 C.2.1 dX5_places_108 (by decide) ?_
        exact hK47 v4 v5 v6 (v7 + (-1)) u18 _ _ _ h hW (lv_sub hl [1, 2, 3, 4, 5, 6, 0] rfl)
      · have h := h.2 c19
        refine lv_bipush (v := 10) C.1 C.2.1 dX5_places_92 (by decide) ?_
        refine lv_iload C.1 C.2.1 dX5_places_94 (lv_at hl 5 rfl) ?_
        refine lv_imul C.1 C.2.1 dX5_places_96 ?_
        refine lv_iload C.1 C.2.1 dX5_places_97 (lv_at hl 6 rfl) ?_
        refine lv_iadd C.1 C.2.1 dX5_places_99 ?_
        refine lv_istore (lv' := [(5, .int ((10 * v6) + v7)), (0, .ref (gad g 39)), (1, .int p1), (2, .int p2), (4, .int v4), (6, .int v6), (7, .int v7)]) C.1 C.2.1 dX5_places_100 hl (by decide) rfl (fun ls hl => ?_)
        refine lv_iinc (v := (v4 + 1)) (lv' := [(4, .int (v4 + 1)), (5, .int ((10 * v6) + v7)), (0, .ref (gad g 39)), (1, .int p1), (2, .int p2), (6, .int v6), (7, .int v7)]) C.1 C.2.1 dX5_places_102 hl (k := 4) rfl rfl (by decide) rfl (fun ls hl => ?_)
        refine lv_iinc (v := (v7 + (-1))) (lv' := [(7, .int (v7 + (-1))), (4, .int (v4 + 1)), (5, .int ((10 * v6) + v7)), (0, .ref (gad g 39)), (1, .int p1), (2, .int p2), (6, .int v6)]) C.1 C.2.1 dX5_places_105 hl (k := 6) rfl rfl (by decide) rfl (fun ls hl => ?_)
        refine lv_goto (tgt := 47) C.1 C.2.1 dX5_places_108 (by decide) ?_
        exact hK47 (v4 + 1) ((10 * v6) + v7) v6 (v7 + (-1)) u18 _ _ _ h hW (lv_sub hl [3, 4, 5, 1, 2, 6, 0] rfl)
theorem k_X5_places_L47 {p : Program} {l : Launch} {e : Env} {s : State} {m : MethodId} {args : Array Value} {below : List Frame} {meth : Method} {c : Code} {g : GG} {A : Nat → Prop} {p1 : Int32} {p2 : Int32} {Q : Int32 → St → Prop} (C : MC p s m args meth c cX5_places 8 RX5 (some .int) g A) {K39 : Int32 → Int32 → Int32 → St → Prop} (hK39 : ∀ (v4 : Int32) (v5 : Int32) (v6 : Int32) (u : St) (H : Heap) (locs : List Loc) (ls : Array Slot), K39 v4 v5 v6 u → WD g A s u H locs → lv_has ls 8 [(0, .ref (gad g 39)), (1, .int p1), (2, .int p2), (4, .int v4), (5, .int v5), (6, .int v6)] → W p l e rm_X5_places s m args below meth c H locs 0 0 (MQ below (va_Qi Q (WQ g) A) args s 0 0 A) (F0 m 39 ls [])) : ∀ (n : Nat), ∀ (v4 : Int32) (v5 : Int32) (v6 : Int32) (v7 : Int32) (u : St) (H : Heap) (locs : List Loc) (ls : Array Slot), wp_X5_places_L47 p1 p2 Q K39 n v4 v5 v6 v7 u → WD g A s u H locs → lv_has ls 8 [(0, .ref (gad g 39)), (1, .int p1), (2, .int p2), (4, .int v4), (5, .int v5), (6, .int v6), (7, .int v7)] → W p l e rm_X5_places s m args below meth c H locs 0 0 (MQ below (va_Qi Q (WQ g) A) args s 0 0 A) (F0 m 47 ls []) := by
  intro n
  induction n with
  | zero => intro v4 v5 v6 v7 u H locs ls h; exact False.elim h
  | succ n ih => exact k_X5_places_B47 (p1 := p1) (p2 := p2) C hK39 ih
set_option maxRecDepth 100000 in
theorem k_X5_places_B39 {p : Program} {l : Launch} {e : Env} {s : State} {m : MethodId} {args : Array Value} {below : List Frame} {meth : Method} {c : Code} {g : GG} {A : Nat → Prop} {p1 : Int32} {p2 : Int32} {Q : Int32 → St → Prop} (C : MC p s m args meth c cX5_places 8 RX5 (some .int) g A) {K39 : Int32 → Int32 → Int32 → St → Prop} (hK39 : ∀ (v4 : Int32) (v5 : Int32) (v6 : Int32) (u : St) (H : Heap) (locs : List Loc) (ls : Array Slot), K39 v4 v5 v6 u → WD g A s u H locs → lv_has ls 8 [(0, .ref (gad g 39)), (1, .int p1), (2, .int p2), (4, .int v4), (5, .int v5), (6, .int v6)] → W p l e rm_X5_places s m args below meth c H locs 0 0 (MQ below (va_Qi Q (WQ g) A) args s 0 0 A) (F0 m 39 ls [])) : ∀ (v4 : Int32) (v5 : Int32) (v6 : Int32) (u : St) (H : Heap) (locs : List Loc) (ls : Array Slot), wp_X5_places_B39 p1 p2 Q K39 v4 v5 v6 u → WD g A s u H locs → lv_has ls 8 [(0, .ref (gad g 39)), (1, .int p1), (2, .int p2), (4, .int v4), (5, .int v5), (6, .int v6)] → W p l e rm_X5_places s m args below meth c H locs 0 0 (MQ below (va_Qi Q (WQ g) A) args s 0 0 A) (F0 m 39 ls []) := by
  intro v4 v5 v6 u H locs ls h hW hl
  refine lv_iload C.1 C.2.1 dX5_places_39 (lv_at hl 5 rfl) ?_
  refine lv_if_lt (tgt := 117) C.1 C.2.1 dX5_places_41 (by decide) (fun c7 => ?_) (fun c7 => ?_)
  · have h := h.1 c7
    refine lv_iload C.1 C.2.1 dX5_places_117 (lv_at hl 3 rfl) ?_
    refine lv_if_le (tgt := 129) C.1 C.2.1 dX5_places_119 (by decide) (fun c8 => ?_) (fun c8 => ?_)
    · have h := h.1 c8
      exact k_X5_places_J129 C v4 u _ _ _ h hW (lv_sub hl [3] rfl)
    · have h := h.2 c8
      refine lv_aload_n C.1 C.2.1 dX5_places_122 rfl (lv_at hl 0 rfl) ?_
      refine lv_iload C.1 C.2.1 dX5_places_123 (lv_at hl 4 rfl) ?_
      refine x_Vi (rest := []) C hW (c_X5_tellAsked l g h) km_X5_tellAsked oModel rfl qm_X5_100 ⟨rfl, rfl⟩ (by decide) rfl hl.1 rfl (Nat.le_of_ble_eq_true rfl) ⟨Nat.zero_le _, Nat.zero_le _⟩ dX5_places_125 (fun r9 u9 H locs h hW => ?_)
      refine lv_pop C.1 C.2.1 dX5_places_128 rfl ?_
      exact k_X5_places_J129 C v4 u9 _ _ _ h hW (lv_sub hl [3] rfl)
  · have h := h.2 c7
    refine lv_iconst (v := 5) C.1 C.2.1 dX5_places_44 (by decide) ?_
    refine lv_istore (lv' := [(7, .int 5), (0, .ref (gad g 39)), (1, .int p1), (2, .int p2), (4, .int v4), (5, .int v5), (6, .int v6)]) C.1 C.2.1 dX5_places_45 hl (by decide) rfl (fun ls hl => ?_)
    obtain ⟨n, h⟩ := h
    exact k_X5_places_L47 C hK39 n v4 v5 v6 5 u _ _ _ h hW (lv_sub hl [1, 2, 3, 4, 5, 6, 0] rfl)
theorem k_X5_places_L39 {p : Program} {l : Launch} {e : Env} {s : State} {m : MethodId} {args : Array Value} {below : List Frame} {meth : Method} {c : Code} {g : GG} {A : Nat → Prop} {p1 : Int32} {p2 : Int32} {Q : Int32 → St → Prop} (C : MC p s m args meth c cX5_places 8 RX5 (some .int) g A) : ∀ (n : Nat), ∀ (v4 : Int32) (v5 : Int32) (v6 : Int32) (u : St) (H : Heap) (locs : List Loc) (ls : Array Slot), wp_X5_places_L39 p1 p2 Q n v4 v5 v6 u → WD g A s u H locs → lv_has ls 8 [(0, .ref (gad g 39)), (1, .int p1), (2, .int p2), (4, .int v4), (5, .int v5), (6, .int v6)] → W p l e rm_X5_places s m args below meth c H locs 0 0 (MQ below (va_Qi Q (WQ g) A) args s 0 0 A) (F0 m 39 ls []) := by
  intro n
  induction n with
  | zero => intro v4 v5 v6 u H locs ls h; exact False.elim h
  | succ n ih => exact k_X5_places_B39 (p1 := p1) (p2 := p2) C ih
set_option maxRecDepth 100000 in
theorem c_X5_places (l : Launch) (g : GG) {p1 : Int32} {p2 : Int32} {u : St} {Q : Int32 → St → Prop} (h : wp_X5_places p1 p2 u Q) : CI l yX5_places cX5_places 8 (some .int) rm_X5_places g [.ref (gad g 39), .int p1, .int p2] u Q := by
  refine ent (own := RX5) (Qc := va_Qi Q (WQ g)) (by decide) rfl (Nat.le_of_ble_eq_true rfl) ?_
  intro p e s m below meth c A ls C hl hW
  have hl : lv_has ls 8 [(0, .ref (gad g 39)), (1, .int p1), (2, .int p2)] := hl
  unfold wp_X5_places at h
  refine lv_aload_n C.1 C.2.1 dX5_places_0 rfl (lv_at hl 0 rfl) ?_
  refine lv_iload_n C.1 C.2.1 dX5_places_1 rfl (lv_at hl 1 rfl) ?_
  refine x_Vi (rest := []) C hW (c_X5_isKey l g h) km_X5_isKey oModel rfl qm_X5_149 ⟨rfl, rfl⟩ (by decide) rfl hl.1 rfl (Nat.le_of_ble_eq_true rfl) ⟨Nat.zero_le _, Nat.zero_le _⟩ dX5_places_2 (fun r1 u1 H locs h hW => ?_)
  refine lv_if_eq (tgt := 15) C.1 C.2.1 dX5_places_5 (by decide) (fun c2 => ?_) (fun c2 => ?_)
  · have h := h.1 c2
    refine lv_iconst (v := (-1)) C.1 C.2.1 dX5_places_15 (by decide) ?_
    exact x_iret C hW h dX5_places_16
  · have h := h.2 c2
    refine lv_iload_n C.1 C.2.1 dX5_places_8 rfl (lv_at hl 2 rfl) ?_
    refine x_Si (rest := []) C hW (c_X5_isRow l g h) km_X5_isRow qm_X5_92 ⟨rfl, rfl⟩ (by decide) rfl hl.1 rfl (Nat.le_of_ble_eq_true rfl) ⟨Nat.zero_le _, Nat.zero_le _⟩ dX5_places_9 (fun r3 u3 H locs h hW => ?_)
    refine lv_if_ne (tgt := 17) C.1 C.2.1 dX5_places_12 (by decide) (fun c4 => ?_) (fun c4 => ?_)
    · have h := h.1 c4
      refine lv_aload_n C.1 C.2.1 dX5_places_17 rfl (lv_at hl 0 rfl) ?_
      refine lv_iload_n C.1 C.2.1 dX5_places_18 rfl (lv_at hl 2 rfl) ?_
      refine x_Vi (rest := []) C hW (c_X5_pairs l g h) km_X5_pairs oModel rfl qm_X5_188 ⟨rfl, rfl⟩ (by decide) rfl hl.1 rfl (Nat.le_of_ble_eq_true rfl) ⟨Nat.zero_le _, Nat.zero_le _⟩ dX5_places_19 (fun r5 u5 H locs h hW => ?_)
      refine lv_istore_n (lv' := [(3, .int r5), (0, .ref (gad g 39)), (1, .int p1), (2, .int p2)]) C.1 C.2.1 dX5_places_22 rfl hl (by decide) rfl (fun ls hl => ?_)
      refine lv_iload_n C.1 C.2.1 dX5_places_23 rfl (lv_at hl 0 rfl) ?_
      refine lv_if_eq (tgt := 29) C.1 C.2.1 dX5_places_24 (by decide) (fun c6 => ?_) (fun c6 => ?_)
      · have h := h.1 c6
        refine lv_iconst (v := 0) C.1 C.2.1 dX5_places_29 (by decide) ?_
        refine lv_istore (lv' := [(4, .int 0), (3, .int r5), (0, .ref (gad g 39)), (1, .int p1), (2, .int p2)]) C.1 C.2.1 dX5_places_30 hl (by decide) rfl (fun ls hl => ?_)
        refine lv_bipush (v := (-9)) C.1 C.2.1 dX5_places_32 (by decide) ?_
        refine lv_istore (lv' := [(5, .int (-9)), (4, .int 0), (3, .int r5), (0, .ref (gad g 39)), (1, .int p1), (2, .int p2)]) C.1 C.2.1 dX5_places_34 hl (by decide) rfl (fun ls hl => ?_)
        refine lv_iconst (v := 3) C.1 C.2.1 dX5_places_36 (by decide) ?_
        refine lv_istore (lv' := [(6, .int 3), (5, .int (-9)), (4, .int 0), (3, .int r5), (0, .ref (gad g 39)), (1, .int p1), (2, .int p2)]) C.1 C.2.1 dX5_places_37 hl (by decide) rfl (fun ls hl => ?_)
        obtain ⟨n, h⟩ := h
        exact k_X5_places_L39 C n 0 (-9) 3 u5 _ _ _ h hW (lv_sub hl [4, 5, 6, 2, 1, 0] rfl)
      · have h := h.2 c6
        refine lv_iload_n C.1 C.2.1 dX5_places_27 rfl (lv_at hl 0 rfl) ?_
        exact x_iret C hW h dX5_places_28
    · have h := h.2 c4
      refine lv_iconst (v := (-1)) C.1 C.2.1 dX5_places_15 (by decide) ?_
      exact x_iret C hW h dX5_places_16
set_option maxRecDepth 100000 in
theorem c_X5_press (l : Launch) (g : GG) {p1 : Int32} {u : St} {Q : Int32 → St → Prop} (h : wp_X5_press p1 u Q) : CI l yX5_press cX5_press 2 (some .int) rm_X5_press g [.ref (gad g 39), .int p1] u Q := by
  refine ent (own := RX5) (Qc := va_Qi Q (WQ g)) (by decide) rfl (Nat.le_of_ble_eq_true rfl) ?_
  intro p e s m below meth c A ls C hl hW
  have hl : lv_has ls 2 [(0, .ref (gad g 39)), (1, .int p1)] := hl
  unfold wp_X5_press at h
  refine lv_aload_n C.1 C.2.1 dX5_press_0 rfl (lv_at hl 0 rfl) ?_
  refine lv_iload_n C.1 C.2.1 dX5_press_1 rfl (lv_at hl 1 rfl) ?_
  refine x_Vi (rest := []) C hW (c_X5_isKey l g h) km_X5_isKey oModel rfl qm_X5_149 ⟨rfl, rfl⟩ (by decide) rfl hl.1 rfl (Nat.le_of_ble_eq_true rfl) ⟨Nat.zero_le _, Nat.zero_le _⟩ dX5_press_2 (fun r1 u1 H locs h hW => ?_)
  refine lv_if_ne (tgt := 10) C.1 C.2.1 dX5_press_5 (by decide) (fun c2 => ?_) (fun c2 => ?_)
  · have h := h.1 c2
    refine lv_aload_n C.1 C.2.1 dX5_press_10 rfl (lv_at hl 0 rfl) ?_
    refine fg_X5_119 C hW dX5_press_11 ?_
    refine lv_bipush (v := 40) C.1 C.2.1 dX5_press_14 (by decide) ?_
    refine lv_icmp_ne (tgt := 22) C.1 C.2.1 dX5_press_16 (by decide) (fun c3 => ?_) (fun c3 => ?_)
    · have h := h.1 c3
      refine lv_aload_n C.1 C.2.1 dX5_press_22 rfl (lv_at hl 0 rfl) ?_
      refine x_Vv (rest := []) C hW (c_X5_begin l g h) km_X5_begin oModel rfl qm_X5_165 ⟨rfl, rfl⟩ (by decide) rfl hl.1 rfl (Nat.le_of_ble_eq_true rfl) ⟨Nat.zero_le _, Nat.zero_le _⟩ dX5_press_23 (fun u4 H locs h hW => ?_)
      refine lv_aload_n C.1 C.2.1 dX5_press_26 rfl (lv_at hl 0 rfl) ?_
      refine lv_iload_n C.1 C.2.1 dX5_press_27 rfl (lv_at hl 1 rfl) ?_
      refine x_Vv (rest := []) C hW (c_X5_pressNow l g h) km_X5_pressNow oModel rfl qm_X5_168 ⟨rfl, rfl⟩ (by decide) rfl hl.1 rfl (Nat.le_of_ble_eq_true rfl) ⟨Nat.zero_le _, Nat.zero_le _⟩ dX5_press_28 (fun u5 H locs h hW => ?_)
      refine lv_aload_n C.1 C.2.1 dX5_press_31 rfl (lv_at hl 0 rfl) ?_
      refine lv_iconst (v := 0) C.1 C.2.1 dX5_press_32 (by decide) ?_
      refine x_Vi (rest := []) C hW (c_X5_now l g h) km_X5_now oModel rfl qm_X5_122 ⟨rfl, rfl⟩ (by decide) rfl hl.1 rfl (Nat.le_of_ble_eq_true rfl) ⟨Nat.zero_le _, Nat.zero_le _⟩ dX5_press_33 (fun r6 u6 H locs h hW => ?_)
      refine x_Si (rest := []) C hW (c_X5_bitsOf l g h) km_X5_bitsOf qm_X5_156 ⟨rfl, rfl⟩ (by decide) rfl hl.1 rfl (Nat.le_of_ble_eq_true rfl) ⟨Nat.zero_le _, Nat.zero_le _⟩ dX5_press_36 (fun r7 u7 H locs h hW => ?_)
      exact x_iret C hW h dX5_press_39
    · have h := h.2 c3
      refine lv_bipush (v := (-2)) C.1 C.2.1 dX5_press_19 (by decide) ?_
      exact x_iret C hW h dX5_press_21
  · have h := h.2 c2
    refine lv_iconst (v := (-1)) C.1 C.2.1 dX5_press_8 (by decide) ?_
    exact x_iret C hW h dX5_press_9
set_option maxRecDepth 100000 in
theorem c_X5_put (l : Launch) (g : GG) {p1 : Int32} {p2 : Int32} {p3 : Int32} {u : St} {Q : Int32 → St → Prop} (h : wp_X5_put p1 p2 p3 u Q) : CI l yX5_put cX5_put 5 (some .int) rm_X5_put g [.ref (gad g 39), .int p1, .int p2, .int p3] u Q := by
  refine ent (own := RX5) (Qc := va_Qi Q (WQ g)) (by decide) rfl (Nat.le_of_ble_eq_true rfl) ?_
  intro p e s m below meth c A ls C hl hW
  have hl : lv_has ls 5 [(0, .ref (gad g 39)), (1, .int p1), (2, .int p2), (3, .int p3)] := hl
  unfold wp_X5_put at h
  refine lv_iload_n C.1 C.2.1 dX5_put_0 rfl (lv_at hl 1 rfl) ?_
  refine x_Si (rest := []) C hW (c_X5_isText l g h) km_X5_isText qm_X5_103 ⟨rfl, rfl⟩ (by decide) rfl hl.1 rfl (Nat.le_of_ble_eq_true rfl) ⟨Nat.zero_le _, Nat.zero_le _⟩ dX5_put_1 (fun r1 u1 H locs h hW => ?_)
  refine lv_if_ne (tgt := 9) C.1 C.2.1 dX5_put_4 (by decide) (fun c2 => ?_) (fun c2 => ?_)
  · have h := h.1 c2
    refine lv_aload_n C.1 C.2.1 dX5_put_9 rfl (lv_at hl 0 rfl) ?_
    refine fg_X5_23 C hW dX5_put_10 ?_
    refine lv_iload_n C.1 C.2.1 dX5_put_13 rfl (lv_at hl 1 rfl) ?_
    obtain ⟨h3, h⟩ := h
    refine x_iald C hW g_43 h3 dX5_put_14 ?_
    refine lv_if_ge (tgt := 24) C.1 C.2.1 dX5_put_15 (by decide) (fun c4 => ?_) (fun c4 => ?_)
    · have h := h.1 c4
      refine lv_iload_n C.1 C.2.1 dX5_put_24 rfl (lv_at hl 2 rfl) ?_
      refine lv_iconst (v := 0) C.1 C.2.1 dX5_put_25 (by decide) ?_
      refine lv_aload_n C.1 C.2.1 dX5_put_26 rfl (lv_at hl 0 rfl) ?_
      refine fg_X5_23 C hW dX5_put_27 ?_
      refine lv_iload_n C.1 C.2.1 dX5_put_30 rfl (lv_at hl 1 rfl) ?_
      obtain ⟨h5, h⟩ := h
      refine x_iald C hW g_43 h5 dX5_put_31 ?_
      refine lv_iconst (v := 1) C.1 C.2.1 dX5_put_32 (by decide) ?_
      refine lv_isub C.1 C.2.1 dX5_put_33 ?_
      refine x_Si (rest := []) C hW (c_X5_in l g h) km_X5_in qm_X5_88 ⟨rfl, rfl⟩ (by decide) rfl hl.1 rfl (Nat.le_of_ble_eq_true rfl) ⟨Nat.zero_le _, Nat.zero_le _⟩ dX5_put_34 (fun r6 u6 H locs h hW => ?_)
      refine lv_if_ne (tgt := 46) C.1 C.2.1 dX5_put_37 (by decide) (fun c7 => ?_) (fun c7 => ?_)
      · have h := h.1 c7
        refine lv_aload_n C.1 C.2.1 dX5_put_46 rfl (lv_at hl 0 rfl) ?_
        refine fg_X5_26 C hW dX5_put_47 ?_
        refine lv_bipush (v := 60) C.1 C.2.1 dX5_put_50 (by decide) ?_
        refine lv_iload_n C.1 C.2.1 dX5_put_52 rfl (lv_at hl 1 rfl) ?_
        refine lv_imul C.1 C.2.1 dX5_put_53 ?_
        refine lv_iload_n C.1 C.2.1 dX5_put_54 rfl (lv_at hl 2 rfl) ?_
        refine lv_iadd C.1 C.2.1 dX5_put_55 ?_
        obtain ⟨h8, h⟩ := h
        refine x_bald C hW g_44 h8 dX5_put_56 ?_
        refine lv_istore (lv' := [(4, .int (gi u6 44 (Int32.toNatClampNeg ((60 * p1) + p2)))), (0, .ref (gad g 39)), (1, .int p1), (2, .int p2), (3, .int p3)]) C.1 C.2.1 dX5_put_57 hl (by decide) rfl (fun ls hl => ?_)
        refine lv_aload_n C.1 C.2.1 dX5_put_59 rfl (lv_at hl 1 rfl) ?_
        refine fg_X5_26 C hW dX5_put_60 ?_
        refine lv_bipush (v := 60) C.1 C.2.1 dX5_put_63 (by decide) ?_
        refine lv_iload_n C.1 C.2.1 dX5_put_65 rfl (lv_at hl 2 rfl) ?_
        refine lv_imul C.1 C.2.1 dX5_put_66 ?_
        refine lv_iload_n C.1 C.2.1 dX5_put_67 rfl (lv_at hl 3 rfl) ?_
        refine lv_iadd C.1 C.2.1 dX5_put_68 ?_
        refine lv_iload_n C.1 C.2.1 dX5_put_69 rfl (lv_at hl 4 rfl) ?_
        refine lv_i2b (v := p3.toInt8.toInt32) C.1 C.2.1 dX5_put_70 rfl ?_
        obtain ⟨h9, h⟩ := h
        refine x_bast C hW g_44 h9 dX5_put_71 (fun u10 H locs e10 hW => ?_)
        have h := nxt_get h e10
        refine lv_iload C.1 C.2.1 dX5_put_72 (lv_at hl 0 rfl) ?_
        refine lv_sipush (v := 1000) C.1 C.2.1 dX5_put_74 (by decide) ?_
        refine lv_iadd C.1 C.2.1 dX5_put_77 ?_
        exact x_iret C hW h dX5_put_78
      · have h := h.2 c7
        refine lv_aload_n C.1 C.2.1 dX5_put_40 rfl (lv_at hl 0 rfl) ?_
        refine lv_iconst (v := 2) C.1 C.2.1 dX5_put_41 (by decide) ?_
        refine x_Vi (rest := []) C hW (c_X5_find l g h) km_X5_find oModel rfl qm_X5_96 ⟨rfl, rfl⟩ (by decide) rfl hl.1 rfl (Nat.le_of_ble_eq_true rfl) ⟨Nat.zero_le _, Nat.zero_le _⟩ dX5_put_42 (fun r11 u11 H locs h hW => ?_)
        exact x_iret C hW h dX5_put_45
    · have h := h.2 c4
      refine lv_aload_n C.1 C.2.1 dX5_put_18 rfl (lv_at hl 0 rfl) ?_
      refine lv_iconst (v := 1) C.1 C.2.1 dX5_put_19 (by decide) ?_
      refine x_Vi (rest := []) C hW (c_X5_find l g h) km_X5_find oModel rfl qm_X5_96 ⟨rfl, rfl⟩ (by decide) rfl hl.1 rfl (Nat.le_of_ble_eq_true rfl) ⟨Nat.zero_le _, Nat.zero_le _⟩ dX5_put_20 (fun r12 u12 H locs h hW => ?_)
      exact x_iret C hW h dX5_put_23
  · have h := h.2 c2
    refine lv_iconst (v := (-1)) C.1 C.2.1 dX5_put_7 (by decide) ?_
    exact x_iret C hW h dX5_put_8
set_option maxRecDepth 100000 in
theorem c_X5_reads (l : Launch) (g : GG) {p1 : Int32} {u : St} {Q : Int32 → St → Prop} (h : wp_X5_reads p1 u Q) : CI l yX5_reads cX5_reads 2 (some .int) rm_X5_reads g [.ref (gad g 39), .int p1] u Q := by
  refine ent (own := RX5) (Qc := va_Qi Q (WQ g)) (by decide) rfl (Nat.le_of_ble_eq_true rfl) ?_
  intro p e s m below meth c A ls C hl hW
  have hl : lv_has ls 2 [(0, .ref (gad g 39)), (1, .int p1)] := hl
  unfold wp_X5_reads at h
  refine lv_iload_n C.1 C.2.1 dX5_reads_0 rfl (lv_at hl 1 rfl) ?_
  refine x_Si (rest := []) C hW (c_X5_isLine l g h) km_X5_isLine qm_X5_159 ⟨rfl, rfl⟩ (by decide) rfl hl.1 rfl (Nat.le_of_ble_eq_true rfl) ⟨Nat.zero_le _, Nat.zero_le _⟩ dX5_reads_1 (fun r1 u1 H locs h hW => ?_)
  refine lv_if_ne (tgt := 9) C.1 C.2.1 dX5_reads_4 (by decide) (fun c2 => ?_) (fun c2 => ?_)
  · have h := h.1 c2
    refine lv_aload_n C.1 C.2.1 dX5_reads_9 rfl (lv_at hl 0 rfl) ?_
    refine x_Vv (rest := []) C hW (c_X5_take l g h) km_X5_take oModel rfl qm_X5_139 ⟨rfl, rfl⟩ (by decide) rfl hl.1 rfl (Nat.le_of_ble_eq_true rfl) ⟨Nat.zero_le _, Nat.zero_le _⟩ dX5_reads_10 (fun u3 H locs h hW => ?_)
    refine lv_aload_n C.1 C.2.1 dX5_reads_13 rfl (lv_at hl 0 rfl) ?_
    refine lv_iload_n C.1 C.2.1 dX5_reads_14 rfl (lv_at hl 1 rfl) ?_
    refine x_Vi (rest := []) C hW (c_X5_readBy l g h) km_X5_readBy oModel rfl qm_X5_136 ⟨rfl, rfl⟩ (by decide) rfl hl.1 rfl (Nat.le_of_ble_eq_true rfl) ⟨Nat.zero_le _, Nat.zero_le _⟩ dX5_reads_15 (fun r4 u4 H locs h hW => ?_)
    exact x_iret C hW h dX5_reads_18
  · have h := h.2 c2
    refine lv_iconst (v := (-1)) C.1 C.2.1 dX5_reads_7 (by decide) ?_
    exact x_iret C hW h dX5_reads_8
set_option maxRecDepth 100000 in
theorem k_X5_right_J67 {p : Program} {l : Launch} {e : Env} {s : State} {m : MethodId} {args : Array Value} {below : List Frame} {meth : Method} {c : Code} {g : GG} {A : Nat → Prop} {Q : Int32 → St → Prop} (C : MC p s m args meth c cX5_right 4 RX5 (some .int) g A) {K21 : Int32 → Int32 → St → Prop} (hK21 : ∀ (v1 : Int32) (v2 : Int32) (u : St) (H : Heap) (locs : List Loc) (ls : Array Slot), K21 v1 v2 u → WD g A s u H locs → lv_has ls 4 [(0, .ref (gad g 39)), (1, .int v1), (2, .int v2)] → W p l e rm_X5_right s m args below meth c H locs 0 0 (MQ below (va_Qi Q (WQ g) A) args s 0 0 A) (F0 m 21 ls [])) : ∀ (v1 : Int32) (v2 : Int32) (u : St) (H : Heap) (locs : List Loc) (ls : Array Slot), wp_X5_right_J67 Q K21 v1 v2 u → WD g A s u H locs → lv_has ls 4 [(0, .ref (gad g 39)), (1, .int v1), (2, .int v2)] → W p l e rm_X5_right s m args below meth c H locs 0 0 (MQ below (va_Qi Q (WQ g) A) args s 0 0 A) (F0 m 67 ls []) := by
  intro v1 v2 u H locs ls h hW hl
  refine lv_iload_n C.1 C.2.1 dX5_right_67 rfl (lv_at hl 1 rfl) ?_
  refine lv_istore_n (lv' := [(1, .int v1), (0, .ref (gad g 39)), (2, .int v2)]) C.1 C.2.1 dX5_right_68 rfl hl (by decide) rfl (fun ls hl => ?_)
  refine lv_iinc (v := (v2 + 1)) (lv' := [(2, .int (v2 + 1)), (1, .int v1), (0, .ref (gad g 39))]) C.1 C.2.1 dX5_right_69 hl (k := 2) rfl rfl (by decide) rfl (fun ls hl => ?_)
  refine lv_goto (tgt := 21) C.1 C.2.1 dX5_right_72 (by decide) ?_
  exact hK21 v1 (v2 + 1) u _ _ _ h hW (lv_sub hl [2, 1, 0] rfl)
set_option maxRecDepth 100000 in
theorem k_X5_right_J45 {p : Program} {l : Launch} {e : Env} {s : State} {m : MethodId} {args : Array Value} {below : List Frame} {meth : Method} {c : Code} {g : GG} {A : Nat → Prop} {Q : Int32 → St → Prop} (C : MC p s m args meth c cX5_right 4 RX5 (some .int) g A) {K21 : Int32 → Int32 → St → Prop} (hK21 : ∀ (v1 : Int32) (v2 : Int32) (u : St) (H : Heap) (locs : List Loc) (ls : Array Slot), K21 v1 v2 u → WD g A s u H locs → lv_has ls 4 [(0, .ref (gad g 39)), (1, .int v1), (2, .int v2)] → W p l e rm_X5_right s m args below meth c H locs 0 0 (MQ below (va_Qi Q (WQ g) A) args s 0 0 A) (F0 m 21 ls [])) : ∀ (v1 : Int32) (v2 : Int32) (t0 : Int32) (u : St) (H : Heap) (locs : List Loc) (ls : Array Slot), wp_X5_right_J45 Q K21 v1 v2 t0 u → WD g A s u H locs → lv_has ls 4 [(0, .ref (gad g 39)), (1, .int v1), (2, .int v2)] → W p l e rm_X5_right s m args below meth c H locs 0 0 (MQ below (va_Qi Q (WQ g) A) args s 0 0 A) (F0 m 45 ls [.int t0]) := by
  intro v1 v2 t0 u H locs ls h hW hl
  refine lv_istore_n (lv' := [(3, .int t0), (0, .ref (gad g 39)), (1, .int v1), (2, .int v2)]) C.1 C.2.1 dX5_right_45 rfl hl (by decide) rfl (fun ls hl => ?_)
  refine lv_iload_n C.1 C.2.1 dX5_right_46 rfl (lv_at hl 0 rfl) ?_
  refine lv_if_eq (tgt := 67) C.1 C.2.1 dX5_right_47 (by decide) (fun c8 => ?_) (fun c8 => ?_)
  · have h := h.1 c8
    exact k_X5_right_J67 C hK21 v1 v2 u _ _ _ h hW (lv_sub hl [1, 2, 3] rfl)
  · have h := h.2 c8
    refine lv_iload_n C.1 C.2.1 dX5_right_50 rfl (lv_at hl 3 rfl) ?_
    refine x_Si (rest := []) C hW (c_X5_bitsOf l g h) km_X5_bitsOf qm_X5_156 ⟨rfl, rfl⟩ (by decide) rfl hl.1 rfl (Nat.le_of_ble_eq_true rfl) ⟨Nat.zero_le _, Nat.zero_le _⟩ dX5_right_51 (fun r9 u9 H locs h hW => ?_)
    refine lv_iload_n C.1 C.2.1 dX5_right_54 rfl (lv_at hl 2 rfl) ?_
    refine lv_icmp_gt (tgt := 67) C.1 C.2.1 dX5_right_55 (by decide) (fun c10 => ?_) (fun c10 => ?_)
    · have h := h.1 c10
      exact k_X5_right_J67 C hK21 v1 v2 u9 _ _ _ h hW (lv_sub hl [1, 2, 3] rfl)
    · have h := h.2 c10
      refine lv_iload_n C.1 C.2.1 dX5_right_58 rfl (lv_at hl 3 rfl) ?_
      refine x_Si (rest := []) C hW (c_X5_bitsOf l g h) km_X5_bitsOf qm_X5_156 ⟨rfl, rfl⟩ (by decide) rfl hl.1 rfl (Nat.le_of_ble_eq_true rfl) ⟨Nat.zero_le _, Nat.zero_le _⟩ dX5_right_59 (fun r11 u11 H locs h hW => ?_)
      refine lv_iconst (v := 1) C.1 C.2.1 dX5_right_62 (by decide) ?_
      refine lv_isub C.1 C.2.1 dX5_right_63 ?_
      refine lv_goto (tgt := 68) C.1 C.2.1 dX5_right_64 (by decide) ?_
      refine lv_istore_n (lv' := [(1, .int (r11 - 1)), (3, .int t0), (0, .ref (gad g 39)), (2, .int v2)]) C.1 C.2.1 dX5_right_68 rfl hl (by decide) rfl (fun ls hl => ?_)
      refine lv_iinc (v := (v2 + 1)) (lv' := [(2, .int (v2 + 1)), (1, .int (r11 - 1)), (3, .int t0), (0, .ref (gad g 39))]) C.1 C.2.1 dX5_right_69 hl (k := 3) rfl rfl (by decide) rfl (fun ls hl => ?_)
      refine lv_goto (tgt := 21) C.1 C.2.1 dX5_right_72 (by decide) ?_
      exact hK21 (r11 - 1) (v2 + 1) u11 _ _ _ h hW (lv_sub hl [3, 1, 0] rfl)
set_option maxRecDepth 100000 in
theorem k_X5_right_B21 {p : Program} {l : Launch} {e : Env} {s : State} {m : MethodId} {args : Array Value} {below : List Frame} {meth : Method} {c : Code} {g : GG} {A : Nat → Prop} {Q : Int32 → St → Prop} (C : MC p s m args meth c cX5_right 4 RX5 (some .int) g A) {K21 : Int32 → Int32 → St → Prop} (hK21 : ∀ (v1 : Int32) (v2 : Int32) (u : St) (H : Heap) (locs : List Loc) (ls : Array Slot), K21 v1 v2 u → WD g A s u H locs → lv_has ls 4 [(0, .ref (gad g 39)), (1, .int v1), (2, .int v2)] → W p l e rm_X5_right s m args below meth c H locs 0 0 (MQ below (va_Qi Q (WQ g) A) args s 0 0 A) (F0 m 21 ls [])) : ∀ (v1 : Int32) (v2 : Int32) (u : St) (H : Heap) (locs : List Loc) (ls : Array Slot), wp_X5_right_B21 Q K21 v1 v2 u → WD g A s u H locs → lv_has ls 4 [(0, .ref (gad g 39)), (1, .int v1), (2, .int v2)] → W p l e rm_X5_right s m args below meth c H locs 0 0 (MQ below (va_Qi Q (WQ g) A) args s 0 0 A) (F0 m 21 ls []) := by
  intro v1 v2 u H locs ls h hW hl
  refine lv_iload_n C.1 C.2.1 dX5_right_21 rfl (lv_at hl 2 rfl) ?_
  refine lv_iconst (v := 1) C.1 C.2.1 dX5_right_22 (by decide) ?_
  refine lv_aload_n C.1 C.2.1 dX5_right_23 rfl (lv_at hl 0 rfl) ?_
  refine fg_X5_116 C hW dX5_right_24 ?_
  refine lv_ishl C.1 C.2.1 dX5_right_27 ?_
  refine lv_icmp_ge (tgt := 75) C.1 C.2.1 dX5_right_28 (by decide) (fun c3 => ?_) (fun c3 => ?_)
  · have h := h.1 c3
    refine lv_aload_n C.1 C.2.1 dX5_right_75 rfl (lv_at hl 0 rfl) ?_
    refine lv_iload_n C.1 C.2.1 dX5_right_76 rfl (lv_at hl 1 rfl) ?_
    refine x_Vi (rest := []) C hW (c_X5_tellAsked l g h) km_X5_tellAsked oModel rfl qm_X5_100 ⟨rfl, rfl⟩ (by decide) rfl hl.1 rfl (Nat.le_of_ble_eq_true rfl) ⟨Nat.zero_le _, Nat.zero_le _⟩ dX5_right_77 (fun r4 u4 H locs h hW => ?_)
    refine lv_pop C.1 C.2.1 dX5_right_80 rfl ?_
    refine lv_aload_n C.1 C.2.1 dX5_right_81 rfl (lv_at hl 0 rfl) ?_
    refine x_Vi (rest := []) C hW (c_X5_rightSets l g h) km_X5_rightSets oModel rfl qm_X5_182 ⟨rfl, rfl⟩ (by decide) rfl hl.1 rfl (Nat.le_of_ble_eq_true rfl) ⟨Nat.zero_le _, Nat.zero_le _⟩ dX5_right_82 (fun r5 u5 H locs h hW => ?_)
    exact x_iret C hW h dX5_right_85
  · have h := h.2 c3
    refine lv_aload_n C.1 C.2.1 dX5_right_31 rfl (lv_at hl 0 rfl) ?_
    refine lv_iload_n C.1 C.2.1 dX5_right_32 rfl (lv_at hl 2 rfl) ?_
    refine x_Vi (rest := []) C hW (c_X5_toldOf l g h) km_X5_toldOf oModel rfl qm_X5_179 ⟨rfl, rfl⟩ (by decide) rfl hl.1 rfl (Nat.le_of_ble_eq_true rfl) ⟨Nat.zero_le _, Nat.zero_le _⟩ dX5_right_33 (fun r6 u6 H locs h hW => ?_)
    refine lv_iload_n C.1 C.2.1 dX5_right_36 rfl (lv_at hl 2 rfl) ?_
    refine lv_icmp_eq (tgt := 44) C.1 C.2.1 dX5_right_37 (by decide) (fun c7 => ?_) (fun c7 => ?_)
    · have h := h.1 c7
      refine lv_iconst (v := 0) C.1 C.2.1 dX5_right_44 (by decide) ?_
      exact k_X5_right_J45 C hK21 v1 v2 0 u6 _ _ _ h hW hl
    · have h := h.2 c7
      refine lv_iconst (v := 1) C.1 C.2.1 dX5_right_40 (by decide) ?_
      refine lv_goto (tgt := 45) C.1 C.2.1 dX5_right_41 (by decide) ?_
      exact k_X5_right_J45 C hK21 v1 v2 1 u6 _ _ _ h hW hl
theorem k_X5_right_L21 {p : Program} {l : Launch} {e : Env} {s : State} {m : MethodId} {args : Array Value} {below : List Frame} {meth : Method} {c : Code} {g : GG} {A : Nat → Prop} {Q : Int32 → St → Prop} (C : MC p s m args meth c cX5_right 4 RX5 (some .int) g A) : ∀ (n : Nat), ∀ (v1 : Int32) (v2 : Int32) (u : St) (H : Heap) (locs : List Loc) (ls : Array Slot), wp_X5_right_L21 Q n v1 v2 u → WD g A s u H locs → lv_has ls 4 [(0, .ref (gad g 39)), (1, .int v1), (2, .int v2)] → W p l e rm_X5_right s m args below meth c H locs 0 0 (MQ below (va_Qi Q (WQ g) A) args s 0 0 A) (F0 m 21 ls []) := by
  intro n
  induction n with
  | zero => intro v1 v2 u H locs ls h; exact False.elim h
  | succ n ih => exact k_X5_right_B21 C ih
set_option maxRecDepth 100000 in
theorem c_X5_right (l : Launch) (g : GG) {u : St} {Q : Int32 → St → Prop} (h : wp_X5_right u Q) : CI l yX5_right cX5_right 4 (some .int) rm_X5_right g [.ref (gad g 39)] u Q := by
  refine ent (own := RX5) (Qc := va_Qi Q (WQ g)) (by decide) rfl (Nat.le_of_ble_eq_true rfl) ?_
  intro p e s m below meth c A ls C hl hW
  have hl : lv_has ls 4 [(0, .ref (gad g 39))] := hl
  unfold wp_X5_right at h
  refine lv_aload_n C.1 C.2.1 dX5_right_0 rfl (lv_at hl 0 rfl) ?_
  refine fg_X5_116 C hW dX5_right_1 ?_
  refine lv_if_ne (tgt := 10) C.1 C.2.1 dX5_right_4 (by decide) (fun c1 => ?_) (fun c1 => ?_)
  · have h := h.1 c1
    refine lv_aload_n C.1 C.2.1 dX5_right_10 rfl (lv_at hl 0 rfl) ?_
    refine x_Vv (rest := []) C hW (c_X5_take l g h) km_X5_take oModel rfl qm_X5_139 ⟨rfl, rfl⟩ (by decide) rfl hl.1 rfl (Nat.le_of_ble_eq_true rfl) ⟨Nat.zero_le _, Nat.zero_le _⟩ dX5_right_11 (fun u2 H locs h hW => ?_)
    refine lv_aload_n C.1 C.2.1 dX5_right_14 rfl (lv_at hl 0 rfl) ?_
    refine fg_X5_116 C hW dX5_right_15 ?_
    refine lv_istore_n (lv' := [(1, .int (gi u2 39 10)), (0, .ref (gad g 39))]) C.1 C.2.1 dX5_right_18 rfl hl (by decide) rfl (fun ls hl => ?_)
    refine lv_iconst (v := 0) C.1 C.2.1 dX5_right_19 (by decide) ?_
    refine lv_istore_n (lv' := [(2, .int 0), (1, .int (gi u2 39 10)), (0, .ref (gad g 39))]) C.1 C.2.1 dX5_right_20 rfl hl (by decide) rfl (fun ls hl => ?_)
    obtain ⟨n, h⟩ := h
    exact k_X5_right_L21 C n (gi u2 39 10) 0 u2 _ _ _ h hW (lv_sub hl [2, 1, 0] rfl)
  · have h := h.2 c1
    refine lv_bipush (v := (-4)) C.1 C.2.1 dX5_right_7 (by decide) ?_
    exact x_iret C hW h dX5_right_9
