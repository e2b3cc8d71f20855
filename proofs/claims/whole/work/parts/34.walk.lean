set_option maxRecDepth 100000 in
theorem k_X5_readBy_J127 {p : Program} {l : Launch} {e : Env} {s : State} {m : MethodId} {args : Array Value} {below : List Frame} {meth : Method} {c : Code} {g : GG} {A : Nat → Prop} {p1 : Int32} {Q : Int32 → St → Prop} (C : MC p s m args meth c cX5_readBy 7 RX5 (some .int) g A) {K9 : Int32 → Int32 → Int32 → St → Prop} (hK9 : ∀ (v2 : Int32) (v3 : Int32) (v4 : Int32) (u : St) (H : Heap) (locs : List Loc) (ls : Array Slot), K9 v2 v3 v4 u → WD g A s u H locs → lv_has ls 7 [(0, .ref (gad g 39)), (2, .int v2), (3, .int v3), (4, .int v4)] → W p l e rm_X5_readBy s m args below meth c H locs 0 0 (MQ below (va_Qi Q (WQ g) A) args s 0 0 A) (F0 m 9 ls [])) {K20 : Int32 → Int32 → Int32 → Int32 → St → Prop} (hK20 : ∀ (v2 : Int32) (v3 : Int32) (v4 : Int32) (v5 : Int32) (u : St) (H : Heap) (locs : List Loc) (ls : Array Slot), K20 v2 v3 v4 v5 u → WD g A s u H locs → lv_has ls 7 [(0, .ref (gad g 39)), (2, .int v2), (3, .int v3), (4, .int v4), (5, .int v5)] → W p l e rm_X5_readBy s m args below meth c H locs 0 0 (MQ below (va_Qi Q (WQ g) A) args s 0 0 A) (F0 m 20 ls [])) : ∀ (v2 : Int32) (v3 : Int32) (v4 : Int32) (v5 : Int32) (t0 : Int32) (u : St) (H : Heap) (locs : List Loc) (ls : Array Slot), wp_X5_readBy_J127 p1 Q K9 K20 v2 v3 v4 v5 t0 u → WD g A s u H locs → lv_has ls 7 [(0, .ref (gad g 39)), (2, .int v2), (3, .int v3), (4, .int v4), (5, .int v5)] → W p l e rm_X5_readBy s m args below meth c H locs 0 0 (MQ below (va_Qi Q (WQ g) A) args s 0 0 A) (F0 m 127 ls [.int t0]) := by
  intro v2 v3 v4 v5 t0 u H locs ls h hW hl
  refine lv_istore (lv' := [(6, .int t0), (0, .ref (gad g 39)), (2, .int v2), (3, .int v3), (4, .int v4), (5, .int v5)]) C.1 C.2.1 dX5_readBy_127 hl (by decide) rfl (fun ls hl => ?_)
  refine lv_iload C.1 C.2.1 dX5_readBy_129 (lv_at hl 0 rfl) ?_
  refine lv_if_eq (tgt := 177) C.1 C.2.1 dX5_readBy_131 (by decide) (fun c20 => ?_) (fun c20 => ?_)
  · have h := h.1 c20
    refine lv_iinc (v := (v5 + 1)) (lv' := [(5, .int (v5 + 1)), (6, .int t0), (0, .ref (gad g 39)), (2, .int v2), (3, .int v3), (4, .int v4)]) C.1 C.2.1 dX5_readBy_177 hl (k := 5) rfl rfl (by decide) rfl (fun ls hl => ?_)
    refine lv_goto (tgt := 20) C.1 C.2.1 dX5_readBy_180 (by decide) ?_
    exact hK20 v2 v3 v4 (v5 + 1) u _ _ _ h hW (lv_sub hl [2, 3, 4, 5, 0] rfl)
  · have h := h.2 c20
    refine lv_iload_n C.1 C.2.1 dX5_readBy_134 rfl (lv_at hl 3 rfl) ?_
    refine lv_aload_n C.1 C.2.1 dX5_readBy_135 rfl (lv_at hl 1 rfl) ?_
    refine fg_X5_63 C hW dX5_readBy_136 ?_
    refine lv_iload C.1 C.2.1 dX5_readBy_139 (lv_at hl 5 rfl) ?_
    obtain ⟨h21, h⟩ := h
    refine x_iald C hW g_56 h21 dX5_readBy_141 ?_
    refine x_Si (rest := []) C hW (c_X5_has l g h) km_X5_has qm_X5_125 ⟨rfl, rfl⟩ (by decide) rfl hl.1 rfl (Nat.le_of_ble_eq_true rfl) ⟨Nat.zero_le _, Nat.zero_le _⟩ dX5_readBy_142 (fun r22 u22 H locs h hW => ?_)
    refine lv_if_eq (tgt := 177) C.1 C.2.1 dX5_readBy_145 (by decide) (fun c23 => ?_) (fun c23 => ?_)
    · have h := h.1 c23
      refine lv_iinc (v := (v5 + 1)) (lv' := [(5, .int (v5 + 1)), (6, .int t0), (0, .ref (gad g 39)), (2, .int v2), (3, .int v3), (4, .int v4)]) C.1 C.2.1 dX5_readBy_177 hl (k := 5) rfl rfl (by decide) rfl (fun ls hl => ?_)
      refine lv_goto (tgt := 20) C.1 C.2.1 dX5_readBy_180 (by decide) ?_
      exact hK20 v2 v3 v4 (v5 + 1) u22 _ _ _ h hW (lv_sub hl [2, 3, 4, 5, 0] rfl)
    · have h := h.2 c23
      refine lv_iload_n C.1 C.2.1 dX5_readBy_148 rfl (lv_at hl 2 rfl) ?_
      refine lv_aload_n C.1 C.2.1 dX5_readBy_149 rfl (lv_at hl 1 rfl) ?_
      refine fg_X5_60 C hW dX5_readBy_150 ?_
      refine lv_iload C.1 C.2.1 dX5_readBy_153 (lv_at hl 5 rfl) ?_
      obtain ⟨h24, h⟩ := h
      refine x_iald C hW g_55 h24 dX5_readBy_155 ?_
      refine x_Si (rest := []) C hW (c_X5_has l g h) km_X5_has qm_X5_125 ⟨rfl, rfl⟩ (by decide) rfl hl.1 rfl (Nat.le_of_ble_eq_true rfl) ⟨Nat.zero_le _, Nat.zero_le _⟩ dX5_readBy_156 (fun r25 u25 H locs h hW => ?_)
      refine lv_if_ne (tgt := 177) C.1 C.2.1 dX5_readBy_159 (by decide) (fun c26 => ?_) (fun c26 => ?_)
      · have h := h.1 c26
        refine lv_iinc (v := (v5 + 1)) (lv' := [(5, .int (v5 + 1)), (6, .int t0), (0, .ref (gad g 39)), (2, .int v2), (3, .int v3), (4, .int v4)]) C.1 C.2.1 dX5_readBy_177 hl (k := 5) rfl rfl (by decide) rfl (fun ls hl => ?_)
        refine lv_goto (tgt := 20) C.1 C.2.1 dX5_readBy_180 (by decide) ?_
        exact hK20 v2 v3 v4 (v5 + 1) u25 _ _ _ h hW (lv_sub hl [2, 3, 4, 5, 0] rfl)
      · have h := h.2 c26
        refine lv_iload_n C.1 C.2.1 dX5_readBy_162 rfl (lv_at hl 2 rfl) ?_
        refine lv_iconst (v := 1) C.1 C.2.1 dX5_readBy_163 (by decide) ?_
        refine lv_aload_n C.1 C.2.1 dX5_readBy_164 rfl (lv_at hl 1 rfl) ?_
        refine fg_X5_60 C hW dX5_readBy_165 ?_
        refine lv_iload C.1 C.2.1 dX5_readBy_168 (lv_at hl 5 rfl) ?_
        obtain ⟨h27, h⟩ := h
        refine x_iald C hW g_55 h27 dX5_readBy_170 ?_
        refine lv_ishl C.1 C.2.1 dX5_readBy_171 ?_
        refine lv_ior C.1 C.2.1 dX5_readBy_172 ?_
        refine lv_istore_n (lv' := [(2, .int (v2 ||| (1 <<< ((gi u25 55 (Int32.toNatClampNeg v5)) &&& 31)))), (6, .int t0), (0, .ref (gad g 39)), (3, .int v3), (4, .int v4), (5, .int v5)]) C.1 C.2.1 dX5_readBy_173 rfl hl (by decide) rfl (fun ls hl => ?_)
        refine lv_iconst (v := 1) C.1 C.2.1 dX5_readBy_174 (by decide) ?_
        refine lv_istore (lv' := [(4, .int 1), (2, .int (v2 ||| (1 <<< ((gi u25 55 (Int32.toNatClampNeg v5)) &&& 31)))), (6, .int t0), (0, .ref (gad g 39)), (3, .int v3), (5, .int v5)]) C.1 C.2.1 dX5_readBy_175 hl (by decide) rfl (fun ls hl => ?_)
        refine lv_iinc (v := (v5 + 1)) (lv' := [(5, .int (v5 + 1)), (4, .int 1), (2, .int (v2 ||| (1 <<< ((gi u25 55 (Int32.toNatClampNeg v5)) &&& 31)))), (6, .int t0), (0, .ref (gad g 39)), (3, .int v3)]) C.1 C.2.1 dX5_readBy_177 hl (k := 5) rfl rfl (by decide) rfl (fun ls hl => ?_)
        refine lv_goto (tgt := 20) C.1 C.2.1 dX5_readBy_180 (by decide) ?_
        exact hK20 (v2 ||| (1 <<< ((gi u25 55 (Int32.toNatClampNeg v5)) &&& 31))) v3 1 (v5 + 1) u25 _ _ _ h hW (lv_sub hl [4, 2, 5, 1, 0] rfl)
set_option maxRecDepth 100000 in
theorem k_X5_readBy_J126 {p : Program} {l : Launch} {e : Env} {s : State} {m : MethodId} {args : Array Value} {below : List Frame} {meth : Method} {c : Code} {g : GG} {A : Nat → Prop} {p1 : Int32} {Q : Int32 → St → Prop} (C : MC p s m args meth c cX5_readBy 7 RX5 (some .int) g A) {K9 : Int32 → Int32 → Int32 → St → Prop} (hK9 : ∀ (v2 : Int32) (v3 : Int32) (v4 : Int32) (u : St) (H : Heap) (locs : List Loc) (ls : Array Slot), K9 v2 v3 v4 u → WD g A s u H locs → lv_has ls 7 [(0, .ref (gad g 39)), (2, .int v2), (3, .int v3), (4, .int v4)] → W p l e rm_X5_readBy s m args below meth c H locs 0 0 (MQ below (va_Qi Q (WQ g) A) args s 0 0 A) (F0 m 9 ls [])) {K20 : Int32 → Int32 → Int32 → Int32 → St → Prop} (hK20 : ∀ (v2 : Int32) (v3 : Int32) (v4 : Int32) (v5 : Int32) (u : St) (H : Heap) (locs : List Loc) (ls : Array Slot), K20 v2 v3 v4 v5 u → WD g A s u H locs → lv_has ls 7 [(0, .ref (gad g 39)), (2, .int v2), (3, .int v3), (4, .int v4), (5, .int v5)] → W p l e rm_X5_readBy s m args below meth c H locs 0 0 (MQ below (va_Qi Q (WQ g) A) args s 0 0 A) (F0 m 20 ls [])) : ∀ (v2 : Int32) (v3 : Int32) (v4 : Int32) (v5 : Int32) (u : St) (H : Heap) (locs : List Loc) (ls : Array Slot), wp_X5_readBy_J126 p1 Q K9 K20 v2 v3 v4 v5 u → WD g A s u H locs → lv_has ls 7 [(0, .ref (gad g 39)), (2, .int v2), (3, .int v3), (4, .int v4), (5, .int v5)] → W p l e rm_X5_readBy s m args below meth c H locs 0 0 (MQ below (va_Qi Q (WQ g) A) args s 0 0 A) (F0 m 126 ls []) := by
  intro v2 v3 v4 v5 u H locs ls h hW hl
  refine lv_iconst (v := 0) C.1 C.2.1 dX5_readBy_126 (by decide) ?_
  exact k_X5_readBy_J127 C hK9 hK20 v2 v3 v4 v5 0 u _ _ _ h hW hl
set_option maxRecDepth 100000 in
theorem k_X5_readBy_J100 {p : Program} {l : Launch} {e : Env} {s : State} {m : MethodId} {args : Array Value} {below : List Frame} {meth : Method} {c : Code} {g : GG} {A : Nat → Prop} {p1 : Int32} {Q : Int32 → St → Prop} (C : MC p s m args meth c cX5_readBy 7 RX5 (some .int) g A) {K9 : Int32 → Int32 → Int32 → St → Prop} (hK9 : ∀ (v2 : Int32) (v3 : Int32) (v4 : Int32) (u : St) (H : Heap) (locs : List Loc) (ls : Array Slot), K9 v2 v3 v4 u → WD g A s u H locs → lv_has ls 7 [(0, .ref (gad g 39)), (2, .int v2), (3, .int v3), (4, .int v4)] → W p l e rm_X5_readBy s m args below meth c H locs 0 0 (MQ below (va_Qi Q (WQ g) A) args s 0 0 A) (F0 m 9 ls [])) {K20 : Int32 → Int32 → Int32 → Int32 → St → Prop} (hK20 : ∀ (v2 : Int32) (v3 : Int32) (v4 : Int32) (v5 : Int32) (u : St) (H : Heap) (locs : List Loc) (ls : Array Slot), K20 v2 v3 v4 v5 u → WD g A s u H locs → lv_has ls 7 [(0, .ref (gad g 39)), (2, .int v2), (3, .int v3), (4, .int v4), (5, .int v5)] → W p l e rm_X5_readBy s m args below meth c H locs 0 0 (MQ below (va_Qi Q (WQ g) A) args s 0 0 A) (F0 m 20 ls [])) : ∀ (v2 : Int32) (v3 : Int32) (v4 : Int32) (v5 : Int32) (u : St) (H : Heap) (locs : List Loc) (ls : Array Slot), wp_X5_readBy_J100 p1 Q K9 K20 v2 v3 v4 v5 u → WD g A s u H locs → lv_has ls 7 [(0, .ref (gad g 39)), (2, .int v2), (3, .int v3), (4, .int v4), (5, .int v5)] → W p l e rm_X5_readBy s m args below meth c H locs 0 0 (MQ below (va_Qi Q (WQ g) A) args s 0 0 A) (F0 m 100 ls []) := by
  intro v2 v3 v4 v5 u H locs ls h hW hl
  refine lv_aload_n C.1 C.2.1 dX5_readBy_100 rfl (lv_at hl 0 rfl) ?_
  refine fg_X5_57 C hW dX5_readBy_101 ?_
  refine lv_iload C.1 C.2.1 dX5_readBy_104 (lv_at hl 4 rfl) ?_
  obtain ⟨h16, h⟩ := h
  refine x_iald C hW g_54 h16 dX5_readBy_106 ?_
  refine lv_iconst (v := 1) C.1 C.2.1 dX5_readBy_107 (by decide) ?_
  refine lv_icmp_eq (tgt := 126) C.1 C.2.1 dX5_readBy_108 (by decide) (fun c17 => ?_) (fun c17 => ?_)
  · have h := h.1 c17
    exact k_X5_readBy_J126 C hK9 hK20 v2 v3 v4 v5 u _ _ _ h hW hl
  · have h := h.2 c17
    refine lv_aload_n C.1 C.2.1 dX5_readBy_111 rfl (lv_at hl 0 rfl) ?_
    refine fg_X5_57 C hW dX5_readBy_112 ?_
    refine lv_iload C.1 C.2.1 dX5_readBy_115 (lv_at hl 4 rfl) ?_
    obtain ⟨h18, h⟩ := h
    refine x_iald C hW g_54 h18 dX5_readBy_117 ?_
    refine lv_iconst (v := 4) C.1 C.2.1 dX5_readBy_118 (by decide) ?_
    refine lv_icmp_eq (tgt := 126) C.1 C.2.1 dX5_readBy_119 (by decide) (fun c19 => ?_) (fun c19 => ?_)
    · have h := h.1 c19
      exact k_X5_readBy_J126 C hK9 hK20 v2 v3 v4 v5 u _ _ _ h hW hl
    · have h := h.2 c19
      refine lv_iconst (v := 1) C.1 C.2.1 dX5_readBy_122 (by decide) ?_
      refine lv_goto (tgt := 127) C.1 C.2.1 dX5_readBy_123 (by decide) ?_
      exact k_X5_readBy_J127 C hK9 hK20 v2 v3 v4 v5 1 u _ _ _ h hW hl
set_option maxRecDepth 100000 in
theorem k_X5_readBy_B20 {p : Program} {l : Launch} {e : Env} {s : State} {m : MethodId} {args : Array Value} {below : List Frame} {meth : Method} {c : Code} {g : GG} {A : Nat → Prop} {p1 : Int32} {Q : Int32 → St → Prop} (C : MC p s m args meth c cX5_readBy 7 RX5 (some .int) g A) {K9 : Int32 → Int32 → Int32 → St → Prop} (hK9 : ∀ (v2 : Int32) (v3 : Int32) (v4 : Int32) (u : St) (H : Heap) (locs : List Loc) (ls : Array Slot), K9 v2 v3 v4 u → WD g A s u H locs → lv_has ls 7 [(0, .ref (gad g 39)), (2, .int v2), (3, .int v3), (4, .int v4)] → W p l e rm_X5_readBy s m args below meth c H locs 0 0 (MQ below (va_Qi Q (WQ g) A) args s 0 0 A) (F0 m 9 ls [])) {K20 : Int32 → Int32 → Int32 → Int32 → St → Prop} (hK20 : ∀ (v2 : Int32) (v3 : Int32) (v4 : Int32) (v5 : Int32) (u : St) (H : Heap) (locs : List Loc) (ls : Array Slot), K20 v2 v3 v4 v5 u → WD g A s u H locs → lv_has ls 7 [(0, .ref (gad g 39)), (2, .int v2), (3, .int v3), (4, .int v4), (5, .int v5)] → W p l e rm_X5_readBy s m args below meth c H locs 0 0 (MQ below (va_Qi Q (WQ g) A) args s 0 0 A) (F0 m 20 ls [])) : ∀ (v2 : Int32) (v3 : Int32) (v4 : Int32) (v5 : Int32) (u : St) (H : Heap) (locs : List Loc) (ls : Array Slot), wp_X5_readBy_B20 p1 Q K9 K20 v2 v3 v4 v5 u → WD g A s u H locs → lv_has ls 7 [(0, .ref (gad g 39)), (2, .int v2), (3, .int v3), (4, .int v4), (5, .int v5)] → W p l e rm_X5_readBy s m args below meth c H locs 0 0 (MQ below (va_Qi Q (WQ g) A) args s 0 0 A) (F0 m 20 ls []) := by
  intro v2 v3 v4 v5 u H locs ls h hW hl
  refine lv_iload C.1 C.2.1 dX5_readBy_20 (lv_at hl 4 rfl) ?_
  refine lv_aload_n C.1 C.2.1 dX5_readBy_22 rfl (lv_at hl 0 rfl) ?_
  refine fg_X5_116 C hW dX5_readBy_23 ?_
  refine lv_icmp_ge (tgt := 183) C.1 C.2.1 dX5_readBy_26 (by decide) (fun c2 => ?_) (fun c2 => ?_)
  · have h := h.1 c2
    refine lv_goto (tgt := 9) C.1 C.2.1 dX5_readBy_183 (by decide) ?_
    exact hK9 v2 v3 v4 u _ _ _ h hW (lv_sub hl [0, 1, 2, 3] rfl)
  · have h := h.2 c2
    refine lv_aload_n C.1 C.2.1 dX5_readBy_29 rfl (lv_at hl 0 rfl) ?_
    refine fg_X5_54 C hW dX5_readBy_30 ?_
    refine lv_iconst (v := 2) C.1 C.2.1 dX5_readBy_33 (by decide) ?_
    obtain ⟨h3, h⟩ := h
    refine x_iald C hW g_53 h3 dX5_readBy_34 ?_
    refine lv_aload_n C.1 C.2.1 dX5_readBy_35 rfl (lv_at hl 0 rfl) ?_
    refine fg_X5_60 C hW dX5_readBy_36 ?_
    refine lv_iload C.1 C.2.1 dX5_readBy_39 (lv_at hl 4 rfl) ?_
    obtain ⟨h4, h⟩ := h
    refine x_iald C hW g_55 h4 dX5_readBy_41 ?_
    refine x_Si (rest := []) C hW (c_X5_has l g h) km_X5_has qm_X5_125 ⟨rfl, rfl⟩ (by decide) rfl hl.1 rfl (Nat.le_of_ble_eq_true rfl) ⟨Nat.zero_le _, Nat.zero_le _⟩ dX5_readBy_42 (fun r5 u5 H locs h hW => ?_)
    refine lv_if_ne (tgt := 177) C.1 C.2.1 dX5_readBy_45 (by decide) (fun c6 => ?_) (fun c6 => ?_)
    · have h := h.1 c6
      refine lv_iinc (v := (v5 + 1)) (lv' := [(5, .int (v5 + 1)), (0, .ref (gad g 39)), (2, .int v2), (3, .int v3), (4, .int v4)]) C.1 C.2.1 dX5_readBy_177 hl (k := 4) rfl rfl (by decide) rfl (fun ls hl => ?_)
      refine lv_goto (tgt := 20) C.1 C.2.1 dX5_readBy_180 (by decide) ?_
      exact hK20 v2 v3 v4 (v5 + 1) u5 _ _ _ h hW (lv_sub hl [1, 2, 3, 4, 0] rfl)
    · have h := h.2 c6
      refine lv_aload_n C.1 C.2.1 dX5_readBy_48 rfl (lv_at hl 0 rfl) ?_
      refine lv_iload C.1 C.2.1 dX5_readBy_49 (lv_at hl 4 rfl) ?_
      refine x_Vi (rest := []) C hW (c_X5_conducts l g h) km_X5_conducts oModel rfl qm_X5_133 ⟨rfl, rfl⟩ (by decide) rfl hl.1 rfl (Nat.le_of_ble_eq_true rfl) ⟨Nat.zero_le _, Nat.zero_le _⟩ dX5_readBy_51 (fun r7 u7 H locs h hW => ?_)
      refine lv_if_eq (tgt := 177) C.1 C.2.1 dX5_readBy_54 (by decide) (fun c8 => ?_) (fun c8 => ?_)
      · have h := h.1 c8
        refine lv_iinc (v := (v5 + 1)) (lv' := [(5, .int (v5 + 1)), (0, .ref (gad g 39)), (2, .int v2), (3, .int v3), (4, .int v4)]) C.1 C.2.1 dX5_readBy_177 hl (k := 4) rfl rfl (by decide) rfl (fun ls hl => ?_)
        refine lv_goto (tgt := 20) C.1 C.2.1 dX5_readBy_180 (by decide) ?_
        exact hK20 v2 v3 v4 (v5 + 1) u7 _ _ _ h hW (lv_sub hl [1, 2, 3, 4, 0] rfl)
      · have h := h.2 c8
        refine lv_iload_n C.1 C.2.1 dX5_readBy_57 rfl (lv_at hl 1 rfl) ?_
        refine lv_aload_n C.1 C.2.1 dX5_readBy_58 rfl (lv_at hl 0 rfl) ?_
        refine fg_X5_60 C hW dX5_readBy_59 ?_
        refine lv_iload C.1 C.2.1 dX5_readBy_62 (lv_at hl 4 rfl) ?_
        obtain ⟨h9, h⟩ := h
        refine x_iald C hW g_55 h9 dX5_readBy_64 ?_
        refine x_Si (rest := []) C hW (c_X5_has l g h) km_X5_has qm_X5_125 ⟨rfl, rfl⟩ (by decide) rfl hl.1 rfl (Nat.le_of_ble_eq_true rfl) ⟨Nat.zero_le _, Nat.zero_le _⟩ dX5_readBy_65 (fun r10 u10 H locs h hW => ?_)
        refine lv_if_eq (tgt := 100) C.1 C.2.1 dX5_readBy_68 (by decide) (fun c11 => ?_) (fun c11 => ?_)
        · have h := h.1 c11
          exact k_X5_readBy_J100 C hK9 hK20 v2 v3 v4 v5 u10 _ _ _ h hW hl
        · have h := h.2 c11
          refine lv_iload_n C.1 C.2.1 dX5_readBy_71 rfl (lv_at hl 2 rfl) ?_
          refine lv_aload_n C.1 C.2.1 dX5_readBy_72 rfl (lv_at hl 0 rfl) ?_
          refine fg_X5_63 C hW dX5_readBy_73 ?_
          refine lv_iload C.1 C.2.1 dX5_readBy_76 (lv_at hl 4 rfl) ?_
          obtain ⟨h12, h⟩ := h
          refine x_iald C hW g_56 h12 dX5_readBy_78 ?_
          refine x_Si (rest := []) C hW (c_X5_has l g h) km_X5_has qm_X5_125 ⟨rfl, rfl⟩ (by decide) rfl hl.1 rfl (Nat.le_of_ble_eq_true rfl) ⟨Nat.zero_le _, Nat.zero_le _⟩ dX5_readBy_79 (fun r13 u13 H locs h hW => ?_)
          refine lv_if_ne (tgt := 100) C.1 C.2.1 dX5_readBy_82 (by decide) (fun c14 => ?_) (fun c14 => ?_)
          · have h := h.1 c14
            exact k_X5_readBy_J100 C hK9 hK20 v2 v3 v4 v5 u13 _ _ _ h hW hl
          · have h := h.2 c14
            refine lv_iload_n C.1 C.2.1 dX5_readBy_85 rfl (lv_at hl 2 rfl) ?_
            refine lv_iconst (v := 1) C.1 C.2.1 dX5_readBy_86 (by decide) ?_
            refine lv_aload_n C.1 C.2.1 dX5_readBy_87 rfl (lv_at hl 0 rfl) ?_
            refine fg_X5_63 C hW dX5_readBy_88 ?_
            refine lv_iload C.1 C.2.1 dX5_readBy_91 (lv_at hl 4 rfl) ?_
            obtain ⟨h15, h⟩ := h
            refine x_iald C hW g_56 h15 dX5_readBy_93 ?_
            refine lv_ishl C.1 C.2.1 dX5_readBy_94 ?_
            refine lv_ior C.1 C.2.1 dX5_readBy_95 ?_
            refine lv_istore_n (lv' := [(3, .int (v3 ||| (1 <<< ((gi u13 56 (Int32.toNatClampNeg v5)) &&& 31)))), (0, .ref (gad g 39)), (2, .int v2), (4, .int v4), (5, .int v5)]) C.1 C.2.1 dX5_readBy_96 rfl hl (by decide) rfl (fun ls hl => ?_)
            refine lv_iconst (v := 1) C.1 C.2.1 dX5_readBy_97 (by decide) ?_
            refine lv_istore (lv' := [(4, .int 1), (3, .int (v3 ||| (1 <<< ((gi u13 56 (Int32.toNatClampNeg v5)) &&& 31)))), (0, .ref (gad g 39)), (2, .int v2), (5, .int v5)]) C.1 C.2.1 dX5_readBy_98 hl (by decide) rfl (fun ls hl => ?_)
            exact k_X5_readBy_J100 C hK9 hK20 v2 (v3 ||| (1 <<< ((gi u13 56 (Int32.toNatClampNeg v5)) &&& 31))) 1 v5 u13 _ _ _ h hW (lv_sub hl [2, 3, 1, 0, 4] rfl)
theorem k_X5_readBy_L20 {p : Program} {l : Launch} {e : Env} {s : State} {m : MethodId} {args : Array Value} {below : List Frame} {meth : Method} {c : Code} {g : GG} {A : Nat → Prop} {p1 : Int32} {Q : Int32 → St → Prop} (C : MC p s m args meth c cX5_readBy 7 RX5 (some .int) g A) {K9 : Int32 → Int32 → Int32 → St → Prop} (hK9 : ∀ (v2 : Int32) (v3 : Int32) (v4 : Int32) (u : St) (H : Heap) (locs : List Loc) (ls : Array Slot), K9 v2 v3 v4 u → WD g A s u H locs → lv_has ls 7 [(0, .ref (gad g 39)), (2, .int v2), (3, .int v3), (4, .int v4)] → W p l e rm_X5_readBy s m args below meth c H locs 0 0 (MQ below (va_Qi Q (WQ g) A) args s 0 0 A) (F0 m 9 ls [])) : ∀ (n : Nat), ∀ (v2 : Int32) (v3 : Int32) (v4 : Int32) (v5 : Int32) (u : St) (H : Heap) (locs : List Loc) (ls : Array Slot), wp_X5_readBy_L20 p1 Q K9 n v2 v3 v4 v5 u → WD g A s u H locs → lv_has ls 7 [(0, .ref (gad g 39)), (2, .int v2), (3, .int v3), (4, .int v4), (5, .int v5)] → W p l e rm_X5_readBy s m args below meth c H locs 0 0 (MQ below (va_Qi Q (WQ g) A) args s 0 0 A) (F0 m 20 ls []) := by
  intro n
  induction n with
  | zero => intro v2 v3 v4 v5 u H locs ls h; exact False.elim h
  | succ n ih => exact k_X5_readBy_B20 (p1 := p1) C hK9 ih
set_option maxRecDepth 100000 in
theorem k_X5_readBy_B9 {p : Program} {l : Launch} {e : Env} {s : State} {m : MethodId} {args : Array Value} {below : List Frame} {meth : Method} {c : Code} {g : GG} {A : Nat → Prop} {p1 : Int32} {Q : Int32 → St → Prop} (C : MC p s m args meth c cX5_readBy 7 RX5 (some .int) g A) {K9 : Int32 → Int32 → Int32 → St → Prop} (hK9 : ∀ (v2 : Int32) (v3 : Int32) (v4 : Int32) (u : St) (H : Heap) (locs : List Loc) (ls : Array Slot), K9 v2 v3 v4 u → WD g A s u H locs → lv_has ls 7 [(0, .ref (gad g 39)), (2, .int v2), (3, .int v3), (4, .int v4)] → W p l e rm_X5_readBy s m args below meth c H locs 0 0 (MQ below (va_Qi Q (WQ g) A) args s 0 0 A) (F0 m 9 ls [])) : ∀ (v2 : Int32) (v3 : Int32) (v4 : Int32) (u : St) (H : Heap) (locs : List Loc) (ls : Array Slot), wp_X5_readBy_B9 p1 Q K9 v2 v3 v4 u → WD g A s u H locs → lv_has ls 7 [(0, .ref (gad g 39)), (2, .int v2), (3, .int v3), (4, .int v4)] → W p l e rm_X5_readBy s m args below meth c H locs 0 0 (MQ below (va_Qi Q (WQ g) A) args s 0 0 A) (F0 m 9 ls []) := by
  intro v2 v3 v4 u H locs ls h hW hl
  refine lv_iload C.1 C.2.1 dX5_readBy_9 (lv_at hl 3 rfl) ?_
  refine lv_if_eq (tgt := 186) C.1 C.2.1 dX5_readBy_11 (by decide) (fun c1 => ?_) (fun c1 => ?_)
  · have h := h.1 c1
    refine lv_iload_n C.1 C.2.1 dX5_readBy_186 rfl (lv_at hl 2 rfl) ?_
    exact x_iret C hW h dX5_readBy_187
  · have h := h.2 c1
    refine lv_iconst (v := 0) C.1 C.2.1 dX5_readBy_14 (by decide) ?_
    refine lv_istore (lv' := [(4, .int 0), (0, .ref (gad g 39)), (2, .int v2), (3, .int v3)]) C.1 C.2.1 dX5_readBy_15 hl (by decide) rfl (fun ls hl => ?_)
    refine lv_iconst (v := 0) C.1 C.2.1 dX5_readBy_17 (by decide) ?_
    refine lv_istore (lv' := [(5, .int 0), (4, .int 0), (0, .ref (gad g 39)), (2, .int v2), (3, .int v3)]) C.1 C.2.1 dX5_readBy_18 hl (by decide) rfl (fun ls hl => ?_)
    obtain ⟨n, h⟩ := h
    exact k_X5_readBy_L20 C hK9 n v2 v3 0 0 u _ _ _ h hW (lv_sub hl [2, 3, 4, 1, 0] rfl)
theorem k_X5_readBy_L9 {p : Program} {l : Launch} {e : Env} {s : State} {m : MethodId} {args : Array Value} {below : List Frame} {meth : Method} {c : Code} {g : GG} {A : Nat → Prop} {p1 : Int32} {Q : Int32 → St → Prop} (C : MC p s m args meth c cX5_readBy 7 RX5 (some .int) g A) : ∀ (n : Nat), ∀ (v2 : Int32) (v3 : Int32) (v4 : Int32) (u : St) (H : Heap) (locs : List Loc) (ls : Array Slot), wp_X5_readBy_L9 p1 Q n v2 v3 v4 u → WD g A s u H locs → lv_has ls 7 [(0, .ref (gad g 39)), (2, .int v2), (3, .int v3), (4, .int v4)] → W p l e rm_X5_readBy s m args below meth c H locs 0 0 (MQ below (va_Qi Q (WQ g) A) args s 0 0 A) (F0 m 9 ls []) := by
  intro n
  induction n with
  | zero => intro v2 v3 v4 u H locs ls h; exact False.elim h
  | succ n ih => exact k_X5_readBy_B9 (p1 := p1) C ih
set_option maxRecDepth 100000 in
theorem c_X5_readBy (l : Launch) (g : GG) {p1 : Int32} {u : St} {Q : Int32 → St → Prop} (h : wp_X5_readBy p1 u Q) : CI l yX5_readBy cX5_readBy 7 (some .int) rm_X5_readBy g [.ref (gad g 39), .int p1] u Q := by
  refine ent (own := RX5) (Qc := va_Qi Q (WQ g)) (by decide) rfl (Nat.le_of_ble_eq_true rfl) ?_
  intro p e s m below meth c A ls C hl hW
  have hl : lv_has ls 7 [(0, .ref (gad g 39)), (1, .int p1)] := hl
  unfold wp_X5_readBy at h
  refine lv_iconst (v := 1) C.1 C.2.1 dX5_readBy_0 (by decide) ?_
  refine lv_iload_n C.1 C.2.1 dX5_readBy_1 rfl (lv_at hl 1 rfl) ?_
  refine lv_ishl C.1 C.2.1 dX5_readBy_2 ?_
  refine lv_istore_n (lv' := [(2, .int (1 <<< (p1 &&& 31))), (0, .ref (gad g 39)), (1, .int p1)]) C.1 C.2.1 dX5_readBy_3 rfl hl (by decide) rfl (fun ls hl => ?_)
  refine lv_iconst (v := 0) C.1 C.2.1 dX5_readBy_4 (by decide) ?_
  refine lv_istore_n (lv' := [(3, .int 0), (2, .int (1 <<< (p1 &&& 31))), (0, .ref (gad g 39)), (1, .int p1)]) C.1 C.2.1 dX5_readBy_5 rfl hl (by decide) rfl (fun ls hl => ?_)
  refine lv_iconst (v := 1) C.1 C.2.1 dX5_readBy_6 (by decide) ?_
  refine lv_istore (lv' := [(4, .int 1), (3, .int 0), (2, .int (1 <<< (p1 &&& 31))), (0, .ref (gad g 39)), (1, .int p1)]) C.1 C.2.1 dX5_readBy_7 hl (by decide) rfl (fun ls hl => ?_)
  obtain ⟨n, h⟩ := h
  exact k_X5_readBy_L9 C n (1 <<< (p1 &&& 31)) 0 1 u _ _ _ h hW (lv_sub hl [3, 2, 1, 0] rfl)
set_option maxRecDepth 100000 in
theorem k_X5_toldBy_J67 {p : Program} {l : Launch} {e : Env} {s : State} {m : MethodId} {args : Array Value} {below : List Frame} {meth : Method} {c : Code} {g : GG} {A : Nat → Prop} {Q : Int32 → St → Prop} (C : MC p s m args meth c cX5_toldBy 3 RX5 (some .int) g A) {K28 : Int32 → Int32 → St → Prop} (hK28 : ∀ (v1 : Int32) (v2 : Int32) (u : St) (H : Heap) (locs : List Loc) (ls : Array Slot), K28 v1 v2 u → WD g A s u H locs → lv_has ls 3 [(0, .ref (gad g 39)), (1, .int v1), (2, .int v2)] → W p l e rm_X5_toldBy s m args below meth c H locs 0 0 (MQ below (va_Qi Q (WQ g) A) args s 0 0 A) (F0 m 28 ls [])) : ∀ (v2 : Int32) (t0 : Int32) (t1 : Int32) (u : St) (H : Heap) (locs : List Loc) (ls : Array Slot), wp_X5_toldBy_J67 Q K28 v2 t0 t1 u → WD g A s u H locs → lv_has ls 3 [(0, .ref (gad g 39)), (2, .int v2)] → W p l e rm_X5_toldBy s m args below meth c H locs 0 0 (MQ below (va_Qi Q (WQ g) A) args s 0 0 A) (F0 m 67 ls [.int t0, .int t1]) := by
  intro v2 t0 t1 u H locs ls h hW hl
  refine lv_ior C.1 C.2.1 dX5_toldBy_67 ?_
  refine lv_istore_n (lv' := [(1, .int (t1 ||| t0)), (0, .ref (gad g 39)), (2, .int v2)]) C.1 C.2.1 dX5_toldBy_68 rfl hl (by decide) rfl (fun ls hl => ?_)
  refine lv_iinc (v := (v2 + 1)) (lv' := [(2, .int (v2 + 1)), (1, .int (t1 ||| t0)), (0, .ref (gad g 39))]) C.1 C.2.1 dX5_toldBy_69 hl (k := 2) rfl rfl (by decide) rfl (fun ls hl => ?_)
  refine lv_goto (tgt := 28) C.1 C.2.1 dX5_toldBy_72 (by decide) ?_
  exact hK28 (t1 ||| t0) (v2 + 1) u _ _ _ h hW (lv_sub hl [2, 1, 0] rfl)
set_option maxRecDepth 100000 in
theorem k_X5_toldBy_B28 {p : Program} {l : Launch} {e : Env} {s : State} {m : MethodId} {args : Array Value} {below : List Frame} {meth : Method} {c : Code} {g : GG} {A : Nat → Prop} {Q : Int32 → St → Prop} (C : MC p s m args meth c cX5_toldBy 3 RX5 (some .int) g A) {K28 : Int32 → Int32 → St → Prop} (hK28 : ∀ (v1 : Int32) (v2 : Int32) (u : St) (H : Heap) (locs : List Loc) (ls : Array Slot), K28 v1 v2 u → WD g A s u H locs → lv_has ls 3 [(0, .ref (gad g 39)), (1, .int v1), (2, .int v2)] → W p l e rm_X5_toldBy s m args below meth c H locs 0 0 (MQ below (va_Qi Q (WQ g) A) args s 0 0 A) (F0 m 28 ls [])) : ∀ (v1 : Int32) (v2 : Int32) (u : St) (H : Heap) (locs : List Loc) (ls : Array Slot), wp_X5_toldBy_B28 Q K28 v1 v2 u → WD g A s u H locs → lv_has ls 3 [(0, .ref (gad g 39)), (1, .int v1), (2, .int v2)] → W p l e rm_X5_toldBy s m args below meth c H locs 0 0 (MQ below (va_Qi Q (WQ g) A) args s 0 0 A) (F0 m 28 ls []) := by
  intro v1 v2 u H locs ls h hW hl
  refine lv_iload_n C.1 C.2.1 dX5_toldBy_28 rfl (lv_at hl 2 rfl) ?_
  refine lv_aload_n C.1 C.2.1 dX5_toldBy_29 rfl (lv_at hl 0 rfl) ?_
  refine fg_X5_116 C hW dX5_toldBy_30 ?_
  refine lv_icmp_ge (tgt := 75) C.1 C.2.1 dX5_toldBy_33 (by decide) (fun c5 => ?_) (fun c5 => ?_)
  · have h := h.1 c5
    refine lv_iload_n C.1 C.2.1 dX5_toldBy_75 rfl (lv_at hl 1 rfl) ?_
    exact x_iret C hW h dX5_toldBy_76
  · have h := h.2 c5
    refine lv_iload_n C.1 C.2.1 dX5_toldBy_36 rfl (lv_at hl 1 rfl) ?_
    refine lv_aload_n C.1 C.2.1 dX5_toldBy_37 rfl (lv_at hl 0 rfl) ?_
    refine fg_X5_66 C hW dX5_toldBy_38 ?_
    refine lv_aload_n C.1 C.2.1 dX5_toldBy_41 rfl (lv_at hl 0 rfl) ?_
    refine fg_X5_60 C hW dX5_toldBy_42 ?_
    refine lv_iload_n C.1 C.2.1 dX5_toldBy_45 rfl (lv_at hl 2 rfl) ?_
    obtain ⟨h6, h⟩ := h
    refine x_iald C hW g_55 h6 dX5_toldBy_46 ?_
    obtain ⟨h7, h⟩ := h
    refine x_iald C hW g_57 h7 dX5_toldBy_47 ?_
    refine lv_aload_n C.1 C.2.1 dX5_toldBy_48 rfl (lv_at hl 0 rfl) ?_
    refine fg_X5_63 C hW dX5_toldBy_49 ?_
    refine lv_iload_n C.1 C.2.1 dX5_toldBy_52 rfl (lv_at hl 2 rfl) ?_
    obtain ⟨h8, h⟩ := h
    refine x_iald C hW g_56 h8 dX5_toldBy_53 ?_
    refine x_Si (rest := [.int v1]) C hW (c_X5_has l g h) km_X5_has qm_X5_125 ⟨rfl, rfl⟩ (by decide) rfl hl.1 rfl (Nat.le_of_ble_eq_true rfl) ⟨Nat.zero_le _, Nat.zero_le _⟩ dX5_toldBy_54 (fun r9 u9 H locs h hW => ?_)
    refine lv_if_eq (tgt := 66) C.1 C.2.1 dX5_toldBy_57 (by decide) (fun c10 => ?_) (fun c10 => ?_)
    · have h := h.1 c10
      refine lv_iconst (v := 0) C.1 C.2.1 dX5_toldBy_66 (by decide) ?_
      exact k_X5_toldBy_J67 C hK28 v2 0 v1 u9 _ _ _ h hW (lv_sub hl [0, 2] rfl)
    · have h := h.2 c10
      refine lv_iconst (v := 1) C.1 C.2.1 dX5_toldBy_60 (by decide) ?_
      refine lv_iload_n C.1 C.2.1 dX5_toldBy_61 rfl (lv_at hl 2 rfl) ?_
      refine lv_ishl C.1 C.2.1 dX5_toldBy_62 ?_
      refine lv_goto (tgt := 67) C.1 C.2.1 dX5_toldBy_63 (by decide) ?_
      exact k_X5_toldBy_J67 C hK28 v2 (1 <<< (v2 &&& 31)) v1 u9 _ _ _ h hW (lv_sub hl [0, 2] rfl)
theorem k_X5_toldBy_L28 {p : Program} {l : Launch} {e : Env} {s : State} {m : MethodId} {args : Array Value} {below : List Frame} {meth : Method} {c : Code} {g : GG} {A : Nat → Prop} {Q : Int32 → St → Prop} (C : MC p s m args meth c cX5_toldBy 3 RX5 (some .int) g A) : ∀ (n : Nat), ∀ (v1 : Int32) (v2 : Int32) (u : St) (H : Heap) (locs : List Loc) (ls : Array Slot), wp_X5_toldBy_L28 Q n v1 v2 u → WD g A s u H locs → lv_has ls 3 [(0, .ref (gad g 39)), (1, .int v1), (2, .int v2)] → W p l e rm_X5_toldBy s m args below meth c H locs 0 0 (MQ below (va_Qi Q (WQ g) A) args s 0 0 A) (F0 m 28 ls []) := by
  intro n
  induction n with
  | zero => intro v1 v2 u H locs ls h; exact False.elim h
  | succ n ih => exact k_X5_toldBy_B28 C ih
set_option maxRecDepth 100000 in
theorem k_X5_toldBy_B2 {p : Program} {l : Launch} {e : Env} {s : State} {m : MethodId} {args : Array Value} {below : List Frame} {meth : Method} {c : Code} {g : GG} {A : Nat → Prop} {Q : Int32 → St → Prop} (C : MC p s m args meth c cX5_toldBy 3 RX5 (some .int) g A) {K2 : Int32 → St → Prop} (hK2 : ∀ (v1 : Int32) (u : St) (H : Heap) (locs : List Loc) (ls : Array Slot), K2 v1 u → WD g A s u H locs → lv_has ls 3 [(0, .ref (gad g 39)), (1, .int v1)] → W p l e rm_X5_toldBy s m args below meth c H locs 0 0 (MQ below (va_Qi Q (WQ g) A) args s 0 0 A) (F0 m 2 ls [])) : ∀ (v1 : Int32) (u : St) (H : Heap) (locs : List Loc) (ls : Array Slot), wp_X5_toldBy_B2 Q K2 v1 u → WD g A s u H locs → lv_has ls 3 [(0, .ref (gad g 39)), (1, .int v1)] → W p l e rm_X5_toldBy s m args below meth c H locs 0 0 (MQ below (va_Qi Q (WQ g) A) args s 0 0 A) (F0 m 2 ls []) := by
  intro v1 u H locs ls h hW hl
  refine lv_iload_n C.1 C.2.1 dX5_toldBy_2 rfl (lv_at hl 1 rfl) ?_
  refine lv_iconst (v := 4) C.1 C.2.1 dX5_toldBy_3 (by decide) ?_
  refine lv_icmp_ge (tgt := 24) C.1 C.2.1 dX5_toldBy_4 (by decide) (fun c1 => ?_) (fun c1 => ?_)
  · have h := h.1 c1
    refine lv_iconst (v := 0) C.1 C.2.1 dX5_toldBy_24 (by decide) ?_
    refine lv_istore_n (lv' := [(1, .int 0), (0, .ref (gad g 39))]) C.1 C.2.1 dX5_toldBy_25 rfl hl (by decide) rfl (fun ls hl => ?_)
    refine lv_iconst (v := 0) C.1 C.2.1 dX5_toldBy_26 (by decide) ?_
    refine lv_istore_n (lv' := [(2, .int 0), (1, .int 0), (0, .ref (gad g 39))]) C.1 C.2.1 dX5_toldBy_27 rfl hl (by decide) rfl (fun ls hl => ?_)
    obtain ⟨n, h⟩ := h
    exact k_X5_toldBy_L28 C n 0 0 u _ _ _ h hW (lv_sub hl [2, 1, 0] rfl)
  · have h := h.2 c1
    refine lv_aload_n C.1 C.2.1 dX5_toldBy_7 rfl (lv_at hl 0 rfl) ?_
    refine fg_X5_66 C hW dX5_toldBy_8 ?_
    refine lv_iload_n C.1 C.2.1 dX5_toldBy_11 rfl (lv_at hl 1 rfl) ?_
    refine lv_aload_n C.1 C.2.1 dX5_toldBy_12 rfl (lv_at hl 0 rfl) ?_
    refine lv_iload_n C.1 C.2.1 dX5_toldBy_13 rfl (lv_at hl 1 rfl) ?_
    refine x_Vi (rest := [.int v1, .ref (gad g 57)]) C hW (c_X5_readBy l g h) km_X5_readBy oModel rfl qm_X5_136 ⟨rfl, rfl⟩ (by decide) rfl hl.1 rfl (Nat.le_of_ble_eq_true rfl) ⟨Nat.zero_le _, Nat.zero_le _⟩ dX5_toldBy_14 (fun r2 u2 H locs h hW => ?_)
    obtain ⟨h3, h⟩ := h
    refine x_iast C hW g_57 h3 dX5_toldBy_17 (fun u4 H locs e4 hW => ?_)
    have h := nxt_get h e4
    refine lv_iinc (v := (v1 + 1)) (lv' := [(1, .int (v1 + 1)), (0, .ref (gad g 39))]) C.1 C.2.1 dX5_toldBy_18 hl (k := 1) rfl rfl (by decide) rfl (fun ls hl => ?_)
    refine lv_goto (tgt := 2) C.1 C.2.1 dX5_toldBy_21 (by decide) ?_
    exact hK2 (v1 + 1) u4 _ _ _ h hW (lv_sub hl [1, 0] rfl)
theorem k_X5_toldBy_L2 {p : Program} {l : Launch} {e : Env} {s : State} {m : MethodId} {args : Array Value} {below : List Frame} {meth : Method} {c : Code} {g : GG} {A : Nat → Prop} {Q : Int32 → St → Prop} (C : MC p s m args meth c cX5_toldBy 3 RX5 (some .int) g A) : ∀ (n : Nat), ∀ (v1 : Int32) (u : St) (H : Heap) (locs : List Loc) (ls : Array Slot), wp_X5_toldBy_L2 Q n v1 u → WD g A s u H locs → lv_has ls 3 [(0, .ref (gad g 39)), (1, .int v1)] → W p l e rm_X5_toldBy s m args below meth c H locs 0 0 (MQ below (va_Qi Q (WQ g) A) args s 0 0 A) (F0 m 2 ls []) := by
  intro n
  induction n with
  | zero => intro v1 u H locs ls h; exact False.elim h
  | succ n ih => exact k_X5_toldBy_B2 C ih
set_option maxRecDepth 100000 in
theorem c_X5_toldBy (l : Launch) (g : GG) {u : St} {Q : Int32 → St → Prop} (h : wp_X5_toldBy u Q) : CI l yX5_toldBy cX5_toldBy 3 (some .int) rm_X5_toldBy g [.ref (gad g 39)] u Q := by
  refine ent (own := RX5) (Qc := va_Qi Q (WQ g)) (by decide) rfl (Nat.le_of_ble_eq_true rfl) ?_
  intro p e s m below meth c A ls C hl hW
  have hl : lv_has ls 3 [(0, .ref (gad g 39))] := hl
  unfold wp_X5_toldBy at h
  refine lv_iconst (v := 0) C.1 C.2.1 dX5_toldBy_0 (by decide) ?_
  refine lv_istore_n (lv' := [(1, .int 0), (0, .ref (gad g 39))]) C.1 C.2.1 dX5_toldBy_1 rfl hl (by decide) rfl (fun ls hl => ?_)
  obtain ⟨n, h⟩ := h
  exact k_X5_toldBy_L2 C n 0 u _ _ _ h hW (lv_sub hl [1, 0] rfl)
set_option maxRecDepth 100000 in
theorem c_X5_toldNow (l : Launch) (g : GG) {u : St} {Q : Int32 → St → Prop} (h : wp_X5_toldNow u Q) : CI l yX5_toldNow cX5_toldNow 1 (some .int) rm_X5_toldNow g [.ref (gad g 39)] u Q := by
  refine ent (own := RX5) (Qc := va_Qi Q (WQ g)) (by decide) rfl (Nat.le_of_ble_eq_true rfl) ?_
  intro p e s m below meth c A ls C hl hW
  have hl : lv_has ls 1 [(0, .ref (gad g 39))] := hl
  unfold wp_X5_toldNow at h
  refine lv_aload_n C.1 C.2.1 dX5_toldNow_0 rfl (lv_at hl 0 rfl) ?_
  refine x_Vv (rest := []) C hW (c_X5_take l g h) km_X5_take oModel rfl qm_X5_139 ⟨rfl, rfl⟩ (by decide) rfl hl.1 rfl (Nat.le_of_ble_eq_true rfl) ⟨Nat.zero_le _, Nat.zero_le _⟩ dX5_toldNow_1 (fun u1 H locs h hW => ?_)
  refine lv_aload_n C.1 C.2.1 dX5_toldNow_4 rfl (lv_at hl 0 rfl) ?_
  refine x_Vi (rest := []) C hW (c_X5_toldBy l g h) km_X5_toldBy oModel rfl qm_X5_142 ⟨rfl, rfl⟩ (by decide) rfl hl.1 rfl (Nat.le_of_ble_eq_true rfl) ⟨Nat.zero_le _, Nat.zero_le _⟩ dX5_toldNow_5 (fun r2 u2 H locs h hW => ?_)
  exact x_iret C hW h dX5_toldNow_8
set_option maxRecDepth 100000 in
theorem c_X5_toldOf (l : Launch) (g : GG) {p1 : Int32} {u : St} {Q : Int32 → St → Prop} (h : wp_X5_toldOf p1 u Q) : CI l yX5_toldOf cX5_toldOf 2 (some .int) rm_X5_toldOf g [.ref (gad g 39), .int p1] u Q := by
  refine ent (own := RX5) (Qc := va_Qi Q (WQ g)) (by decide) rfl (Nat.le_of_ble_eq_true rfl) ?_
  intro p e s m below meth c A ls C hl hW
  have hl : lv_has ls 2 [(0, .ref (gad g 39)), (1, .int p1)] := hl
  unfold wp_X5_toldOf at h
  refine lv_aload_n C.1 C.2.1 dX5_toldOf_0 rfl (lv_at hl 0 rfl) ?_
  refine fg_X5_54 C hW dX5_toldOf_1 ?_
  refine lv_iconst (v := 0) C.1 C.2.1 dX5_toldOf_4 (by decide) ?_
  refine lv_iload_n C.1 C.2.1 dX5_toldOf_5 rfl (lv_at hl 1 rfl) ?_
  obtain ⟨h1, h⟩ := h
  refine x_iast C hW g_53 h1 dX5_toldOf_6 (fun u2 H locs e2 hW => ?_)
  have h := nxt_get h e2
  refine lv_aload_n C.1 C.2.1 dX5_toldOf_7 rfl (lv_at hl 0 rfl) ?_
  refine x_Vi (rest := []) C hW (c_X5_toldBy l g h) km_X5_toldBy oModel rfl qm_X5_142 ⟨rfl, rfl⟩ (by decide) rfl hl.1 rfl (Nat.le_of_ble_eq_true rfl) ⟨Nat.zero_le _, Nat.zero_le _⟩ dX5_toldOf_8 (fun r3 u3 H locs h hW => ?_)
  exact x_iret C hW h dX5_toldOf_11
set_option maxRecDepth 100000 in
theorem k_X5_alike_B30 {p : Program} {l : Launch} {e : Env} {s : State} {m : MethodId} {args : Array Value} {below : List Frame} {meth : Method} {c : Code} {g : GG} {A : Nat → Prop} {Q : Int32 → St → Prop} (C : MC p s m args meth c cX5_alike 5 RX5 (some .int) g A) {K30 : Int32 → Int32 → Int32 → Int32 → St → Prop} (hK30 : ∀ (v1 : Int32) (v2 : Int32) (v3 : Int32) (v4 : Int32) (u : St) (H : Heap) (locs : List Loc) (ls : Array Slot), K30 v1 v2 v3 v4 u → WD g A s u H locs → lv_has ls 5 [(0, .ref (gad g 39)), (1, .int v1), (2, .int v2), (3, .int v3), (4, .int v4)] → W p l e rm_X5_alike s m args below meth c H locs 0 0 (MQ below (va_Qi Q (WQ g) A) args s 0 0 A) (F0 m 30 ls [])) : ∀ (v1 : Int32) (v2 : Int32) (v3 : Int32) (v4 : Int32) (u : St) (H : Heap) (locs : List Loc) (ls : Array Slot), wp_X5_alike_B30 Q K30 v1 v2 v3 v4 u → WD g A s u H locs → lv_has ls 5 [(0, .ref (gad g 39)), (1, .int v1), (2, .int v2), (3, .int v3), (4, .int v4)] → W p l e rm_X5_alike s m args below meth c H locs 0 0 (MQ below (va_Qi Q (WQ g) A) args s 0 0 A) (F0 m 30 ls []) := by
  intro v1 v2 v3 v4 u H locs ls h hW hl
  refine lv_iload C.1 C.2.1 dX5_alike_30 (lv_at hl 4 rfl) ?_
  refine lv_if_lt (tgt := 57) C.1 C.2.1 dX5_alike_32 (by decide) (fun c3 => ?_) (fun c3 => ?_)
  · have h := h.1 c3
    refine lv_aload_n C.1 C.2.1 dX5_alike_57 rfl (lv_at hl 0 rfl) ?_
    refine lv_iload_n C.1 C.2.1 dX5_alike_58 rfl (lv_at hl 3 rfl) ?_
    refine x_Vi (rest := []) C hW (c_X5_tellAsked l g h) km_X5_tellAsked oModel rfl qm_X5_100 ⟨rfl, rfl⟩ (by decide) rfl hl.1 rfl (Nat.le_of_ble_eq_true rfl) ⟨Nat.zero_le _, Nat.zero_le _⟩ dX5_alike_59 (fun r4 u4 H locs h hW => ?_)
    refine lv_pop C.1 C.2.1 dX5_alike_62 rfl ?_
    refine lv_iload_n C.1 C.2.1 dX5_alike_63 rfl (lv_at hl 2 rfl) ?_
    exact x_iret C hW h dX5_alike_64
  · have h := h.2 c3
    refine lv_aload_n C.1 C.2.1 dX5_alike_35 rfl (lv_at hl 0 rfl) ?_
    refine lv_iload C.1 C.2.1 dX5_alike_36 (lv_at hl 4 rfl) ?_
    refine x_Vi (rest := []) C hW (c_X5_toldOf l g h) km_X5_toldOf oModel rfl qm_X5_179 ⟨rfl, rfl⟩ (by decide) rfl hl.1 rfl (Nat.le_of_ble_eq_true rfl) ⟨Nat.zero_le _, Nat.zero_le _⟩ dX5_alike_38 (fun r5 u5 H locs h hW => ?_)
    refine lv_iload_n C.1 C.2.1 dX5_alike_41 rfl (lv_at hl 1 rfl) ?_
    refine lv_icmp_ne (tgt := 51) C.1 C.2.1 dX5_alike_42 (by decide) (fun c6 => ?_) (fun c6 => ?_)
    · have h := h.1 c6
      refine lv_iinc (v := (v4 + (-1))) (lv' := [(4, .int (v4 + (-1))), (0, .ref (gad g 39)), (1, .int v1), (2, .int v2), (3, .int v3)]) C.1 C.2.1 dX5_alike_51 hl (k := 4) rfl rfl (by decide) rfl (fun ls hl => ?_)
      refine lv_goto (tgt := 30) C.1 C.2.1 dX5_alike_54 (by decide) ?_
      exact hK30 v1 v2 v3 (v4 + (-1)) u5 _ _ _ h hW (lv_sub hl [1, 2, 3, 4, 0] rfl)
    · have h := h.2 c6
      refine lv_iload C.1 C.2.1 dX5_alike_45 (lv_at hl 4 rfl) ?_
      refine lv_istore_n (lv' := [(3, .int v4), (0, .ref (gad g 39)), (1, .int v1), (2, .int v2), (4, .int v4)]) C.1 C.2.1 dX5_alike_47 rfl hl (by decide) rfl (fun ls hl => ?_)
      refine lv_iinc (v := (v2 + 1)) (lv' := [(2, .int (v2 + 1)), (3, .int v4), (0, .ref (gad g 39)), (1, .int v1), (4, .int v4)]) C.1 C.2.1 dX5_alike_48 hl (k := 3) rfl rfl (by decide) rfl (fun ls hl => ?_)
      refine lv_iinc (v := (v4 + (-1))) (lv' := [(4, .int (v4 + (-1))), (2, .int (v2 + 1)), (3, .int v4), (0, .ref (gad g 39)), (1, .int v1)]) C.1 C.2.1 dX5_alike_51 hl (k := 4) rfl rfl (by decide) rfl (fun ls hl => ?_)
      refine lv_goto (tgt := 30) C.1 C.2.1 dX5_alike_54 (by decide) ?_
      exact hK30 v1 (v2 + 1) v4 (v4 + (-1)) u5 _ _ _ h hW (lv_sub hl [3, 4, 1, 2, 0] rfl)
theorem k_X5_alike_L30 {p : Program} {l : Launch} {e : Env} {s : State} {m : MethodId} {args : Array Value} {below : List Frame} {meth : Method} {c : Code} {g : GG} {A : Nat → Prop} {Q : Int32 → St → Prop} (C : MC p s m args meth c cX5_alike 5 RX5 (some .int) g A) : ∀ (n : Nat), ∀ (v1 : Int32) (v2 : Int32) (v3 : Int32) (v4 : Int32) (u : St) (H : Heap) (locs : List Loc) (ls : Array Slot), wp_X5_alike_L30 Q n v1 v2 v3 v4 u → WD g A s u H locs → lv_has ls 5 [(0, .ref (gad g 39)), (1, .int v1), (2, .int v2), (3, .int v3), (4, .int v4)] → W p l e rm_X5_alike s m args below meth c H locs 0 0 (MQ below (va_Qi Q (WQ g) A) args s 0 0 A) (F0 m 30 ls []) := by
  intro n
  induction n with
  | zero => intro v1 v2 v3 v4 u H locs ls h; exact False.elim h
  | succ n ih => exact k_X5_alike_B30 C ih
set_option maxRecDepth 100000 in
theorem c_X5_alike (l : Launch) (g : GG) {u : St} {Q : Int32 → St → Prop} (h : wp_X5_alike u Q) : CI l yX5_alike cX5_alike 5 (some .int) rm_X5_alike g [.ref (gad g 39)] u Q := by
  refine ent (own := RX5) (Qc := va_Qi Q (WQ g)) (by decide) rfl (Nat.le_of_ble_eq_true rfl) ?_
  intro p e s m below meth c A ls C hl hW
  have hl : lv_has ls 5 [(0, .ref (gad g 39))] := hl
  unfold wp_X5_alike at h
  refine lv_aload_n C.1 C.2.1 dX5_alike_0 rfl (lv_at hl 0 rfl) ?_
  refine fg_X5_116 C hW dX5_alike_1 ?_
  refine lv_if_ne (tgt := 10) C.1 C.2.1 dX5_alike_4 (by decide) (fun c1 => ?_) (fun c1 => ?_)
  · have h := h.1 c1
    refine lv_aload_n C.1 C.2.1 dX5_alike_10 rfl (lv_at hl 0 rfl) ?_
    refine x_Vi (rest := []) C hW (c_X5_toldNow l g h) km_X5_toldNow oModel rfl qm_X5_146 ⟨rfl, rfl⟩ (by decide) rfl hl.1 rfl (Nat.le_of_ble_eq_true rfl) ⟨Nat.zero_le _, Nat.zero_le _⟩ dX5_alike_11 (fun r2 u2 H locs h hW => ?_)
    refine lv_istore_n (lv' := [(1, .int r2), (0, .ref (gad g 39))]) C.1 C.2.1 dX5_alike_14 rfl hl (by decide) rfl (fun ls hl => ?_)
    refine lv_iconst (v := 0) C.1 C.2.1 dX5_alike_15 (by decide) ?_
    refine lv_istore_n (lv' := [(2, .int 0), (1, .int r2), (0, .ref (gad g 39))]) C.1 C.2.1 dX5_alike_16 rfl hl (by decide) rfl (fun ls hl => ?_)
    refine lv_bipush (v := (-9)) C.1 C.2.1 dX5_alike_17 (by decide) ?_
    refine lv_istore_n (lv' := [(3, .int (-9)), (2, .int 0), (1, .int r2), (0, .ref (gad g 39))]) C.1 C.2.1 dX5_alike_19 rfl hl (by decide) rfl (fun ls hl => ?_)
    refine lv_iconst (v := 1) C.1 C.2.1 dX5_alike_20 (by decide) ?_
    refine lv_aload_n C.1 C.2.1 dX5_alike_21 rfl (lv_at hl 3 rfl) ?_
    refine fg_X5_116 C hW dX5_alike_22 ?_
    refine lv_ishl C.1 C.2.1 dX5_alike_25 ?_
    refine lv_iconst (v := 1) C.1 C.2.1 dX5_alike_26 (by decide) ?_
    refine lv_isub C.1 C.2.1 dX5_alike_27 ?_
    refine lv_istore (lv' := [(4, .int ((1 <<< ((gi u2 39 10) &&& 31)) - 1)), (3, .int (-9)), (2, .int 0), (1, .int r2), (0, .ref (gad g 39))]) C.1 C.2.1 dX5_alike_28 hl (by decide) rfl (fun ls hl => ?_)
    obtain ⟨n, h⟩ := h
    exact k_X5_alike_L30 C n r2 0 (-9) ((1 <<< ((gi u2 39 10) &&& 31)) - 1) u2 _ _ _ h hW (lv_sub hl [4, 3, 2, 1, 0] rfl)
  · have h := h.2 c1
    refine lv_bipush (v := (-4)) C.1 C.2.1 dX5_alike_7 (by decide) ?_
    exact x_iret C hW h dX5_alike_9
set_option maxRecDepth 100000 in
theorem k_X5_allWays_B4 {p : Program} {l : Launch} {e : Env} {s : State} {m : MethodId} {args : Array Value} {below : List Frame} {meth : Method} {c : Code} {g : GG} {A : Nat → Prop} {Q : Int64 → St → Prop} (C : MC p s m args meth c cX5_allWays 4 RX5 (some .long) g A) {K4 : Int64 → Int32 → St → Prop} (hK4 : ∀ (v1 : Int64) (v3 : Int32) (u : St) (H : Heap) (locs : List Loc) (ls : Array Slot), K4 v1 v3 u → WD g A s u H locs → lv_has ls 4 [(0, .ref (gad g 39)), (1, .long v1), (3, .int v3)] → W p l e rm_X5_allWays s m args below meth c H locs 0 0 (MQ below (va_Ql Q (WQ g) A) args s 0 0 A) (F0 m 4 ls [])) : ∀ (v1 : Int64) (v3 : Int32) (u : St) (H : Heap) (locs : List Loc) (ls : Array Slot), wp_X5_allWays_B4 Q K4 v1 v3 u → WD g A s u H locs → lv_has ls 4 [(0, .ref (gad g 39)), (1, .long v1), (3, .int v3)] → W p l e rm_X5_allWays s m args below meth c H locs 0 0 (MQ below (va_Ql Q (WQ g) A) args s 0 0 A) (F0 m 4 ls []) := by
  intro v1 v3 u H locs ls h hW hl
  refine lv_iload_n C.1 C.2.1 dX5_allWays_4 rfl (lv_at hl 2 rfl) ?_
  refine lv_aload_n C.1 C.2.1 dX5_allWays_5 rfl (lv_at hl 0 rfl) ?_
  refine fg_X5_116 C hW dX5_allWays_6 ?_
  refine lv_icmp_ge (tgt := 24) C.1 C.2.1 dX5_allWays_9 (by decide) (fun c1 => ?_) (fun c1 => ?_)
  · have h := h.1 c1
    refine lv_lload_n C.1 C.2.1 dX5_allWays_24 rfl (lv_at hl 1 rfl) ?_
    exact x_lret C hW h dX5_allWays_25
  · have h := h.2 c1
    refine lv_lload_n C.1 C.2.1 dX5_allWays_12 rfl (lv_at hl 1 rfl) ?_
    refine lv_ldc2 (v := 12) C.1 C.2.1 C.2.2.2.1 (C.2.2.2.2.1 _ qk_X5_197) dX5_allWays_13 ?_
    refine lv_lmul C.1 C.2.1 dX5_allWays_16 ?_
    refine lv_lstore_n (lv' := [(1, .long (v1 * 12)), (0, .ref (gad g 39)), (3, .int v3)]) C.1 C.2.1 dX5_allWays_17 rfl hl (by decide) rfl (fun ls hl => ?_)
    refine lv_iinc (v := (v3 + 1)) (lv' := [(3, .int (v3 + 1)), (1, .long (v1 * 12)), (0, .ref (gad g 39))]) C.1 C.2.1 dX5_allWays_18 hl (k := 2) rfl rfl (by decide) rfl (fun ls hl => ?_)
    refine lv_goto (tgt := 4) C.1 C.2.1 dX5_allWays_21 (by decide) ?_
    exact hK4 (v1 * 12) (v3 + 1) u _ _ _ h hW (lv_sub hl [2, 1, 0] rfl)
theorem k_X5_allWays_L4 {p : Program} {l : Launch} {e : Env} {s : State} {m : MethodId} {args : Array Value} {below : List Frame} {meth : Method} {c : Code} {g : GG} {A : Nat → Prop} {Q : Int64 → St → Prop} (C : MC p s m args meth c cX5_allWays 4 RX5 (some .long) g A) : ∀ (n : Nat), ∀ (v1 : Int64) (v3 : Int32) (u : St) (H : Heap) (locs : List Loc) (ls : Array Slot), wp_X5_allWays_L4 Q n v1 v3 u → WD g A s u H locs → lv_has ls 4 [(0, .ref (gad g 39)), (1, .long v1), (3, .int v3)] → W p l e rm_X5_allWays s m args below meth c H locs 0 0 (MQ below (va_Ql Q (WQ g) A) args s 0 0 A) (F0 m 4 ls []) := by
  intro n
  induction n with
  | zero => intro v1 v3 u H locs ls h; exact False.elim h
  | succ n ih => exact k_X5_allWays_B4 C ih
set_option maxRecDepth 100000 in
theorem c_X5_allWays (l : Launch) (g : GG) {u : St} {Q : Int64 → St → Prop} (h : wp_X5_allWays u Q) : CL l yX5_allWays cX5_allWays 4 (some .long) rm_X5_allWays g [.ref (gad g 39)] u Q := by
  refine ent (own := RX5) (Qc := va_Ql Q (WQ g)) (by decide) rfl (Nat.le_of_ble_eq_true rfl) ?_
  intro p e s m below meth c A ls C hl hW
  have hl : lv_has ls 4 [(0, .ref (gad g 39))] := hl
  unfold wp_X5_allWays at h
  refine lv_lconst (v := 1) C.1 C.2.1 dX5_allWays_0 (by decide) ?_
  refine lv_lstore_n (lv' := [(1, .long 1), (0, .ref (gad g 39))]) C.1 C.2.1 dX5_allWays_1 rfl hl (by decide) rfl (fun ls hl => ?_)
  refine lv_iconst (v := 0) C.1 C.2.1 dX5_allWays_2 (by decide) ?_
  refine lv_istore_n (lv' := [(3, .int 0), (1, .long 1), (0, .ref (gad g 39))]) C.1 C.2.1 dX5_allWays_3 rfl hl (by decide) rfl (fun ls hl => ?_)
  obtain ⟨n, h⟩ := h
  exact k_X5_allWays_L4 C n 1 0 u _ _ _ h hW (lv_sub hl [2, 1, 0] rfl)
set_option maxRecDepth 100000 in
theorem c_X5_asked (l : Launch) (g : GG) {u : St} {Q : Int32 → St → Prop} (h : wp_X5_asked u Q) : CI l yX5_asked cX5_asked 1 (some .int) rm_X5_asked g [.ref (gad g 39)] u Q := by
  refine ent (own := RX5) (Qc := va_Qi Q (WQ g)) (by decide) rfl (Nat.le_of_ble_eq_true rfl) ?_
  intro p e s m below meth c A ls C hl hW
  have hl : lv_has ls 1 [(0, .ref (gad g 39))] := hl
  unfold wp_X5_asked at h
  refine lv_aload_n C.1 C.2.1 dX5_asked_0 rfl (lv_at hl 0 rfl) ?_
  refine fg_X5_82 C hW dX5_asked_1 ?_
  exact x_iret C hW h dX5_asked_4
set_option maxRecDepth 100000 in
theorem c_X5_find (l : Launch) (g : GG) {p1 : Int32} {u : St} {Q : Int32 → St → Prop} (h : wp_X5_find p1 u Q) : CI l yX5_find cX5_find 2 (some .int) rm_X5_find g [.ref (gad g 39), .int p1] u Q := by
  refine ent (own := RX5) (Qc := va_Qi Q (WQ g)) (by decide) rfl (Nat.le_of_ble_eq_true rfl) ?_
  intro p e s m below meth c A ls C hl hW
  have hl : lv_has ls 2 [(0, .ref (gad g 39)), (1, .int p1)] := hl
  unfold wp_X5_find at h
  refine lv_aload_n C.1 C.2.1 dX5_find_0 rfl (lv_at hl 0 rfl) ?_
  refine lv_iload_n C.1 C.2.1 dX5_find_1 rfl (lv_at hl 1 rfl) ?_
  refine fp_X5_78 C hW dX5_find_2 (fun u1 H locs e1 hW => ?_)
  have h := nxt_get h e1
  refine lv_aload_n C.1 C.2.1 dX5_find_5 rfl (lv_at hl 0 rfl) ?_
  refine fg_X5_7 C hW dX5_find_6 ?_
  refine lv_iload_n C.1 C.2.1 dX5_find_9 rfl (lv_at hl 1 rfl) ?_
  refine lv_dup2_11 C.1 C.2.1 dX5_find_10 rfl rfl ?_
  obtain ⟨h2, h⟩ := h
  refine x_iald C hW g_40 h2 dX5_find_11 ?_
  refine lv_iconst (v := 1) C.1 C.2.1 dX5_find_12 (by decide) ?_
  refine lv_iadd C.1 C.2.1 dX5_find_13 ?_
  obtain ⟨h3, h⟩ := h
  refine x_iast C hW g_40 h3 dX5_find_14 (fun u4 H locs e4 hW => ?_)
  have h := nxt_get h e4
  refine lv_bipush (v := (-3)) C.1 C.2.1 dX5_find_15 (by decide) ?_
  exact x_iret C hW h dX5_find_17
set_option maxRecDepth 100000 in
theorem c_X5_in (l : Launch) (g : GG) {p0 : Int32} {p1 : Int32} {p2 : Int32} {u : St} {Q : Int32 → St → Prop} (h : wp_X5_in p0 p1 p2 u Q) : CI l yX5_in cX5_in 3 (some .boolean) rm_X5_in g [.int p0, .int p1, .int p2] u Q := by
  refine ent (own := RX5) (Qc := va_Qi Q (WQ g)) (by decide) rfl (Nat.le_of_ble_eq_true rfl) ?_
  intro p e s m below meth c A ls C hl hW
  have hl : lv_has ls 3 [(0, .int p0), (1, .int p1), (2, .int p2)] := hl
  unfold wp_X5_in at h
  refine lv_iload_n C.1 C.2.1 dX5_in_0 rfl (lv_at hl 0 rfl) ?_
  refine lv_iload_n C.1 C.2.1 dX5_in_1 rfl (lv_at hl 1 rfl) ?_
  refine lv_icmp_lt (tgt := 14) C.1 C.2.1 dX5_in_2 (by decide) (fun c1 => ?_) (fun c1 => ?_)
  · have h := h.1 c1
    refine lv_iconst (v := 0) C.1 C.2.1 dX5_in_14 (by decide) ?_
    exact x_zret C hW rfl h dX5_in_15
  · have h := h.2 c1
    refine lv_iload_n C.1 C.2.1 dX5_in_5 rfl (lv_at hl 0 rfl) ?_
    refine lv_iload_n C.1 C.2.1 dX5_in_6 rfl (lv_at hl 2 rfl) ?_
    refine lv_icmp_gt (tgt := 14) C.1 C.2.1 dX5_in_7 (by decide) (fun c2 => ?_) (fun c2 => ?_)
    · have h := h.1 c2
      refine lv_iconst (v := 0) C.1 C.2.1 dX5_in_14 (by decide) ?_
      exact x_zret C hW rfl h dX5_in_15
    · have h := h.2 c2
      refine lv_iconst (v := 1) C.1 C.2.1 dX5_in_10 (by decide) ?_
      refine lv_goto (tgt := 15) C.1 C.2.1 dX5_in_11 (by decide) ?_
      exact x_zret C hW rfl h dX5_in_15
set_option maxRecDepth 100000 in
theorem c_X5_isRow (l : Launch) (g : GG) {p0 : Int32} {u : St} {Q : Int32 → St → Prop} (h : wp_X5_isRow p0 u Q) : CI l yX5_isRow cX5_isRow 1 (some .boolean) rm_X5_isRow g [.int p0] u Q := by
  refine ent (own := RX5) (Qc := va_Qi Q (WQ g)) (by decide) rfl (Nat.le_of_ble_eq_true rfl) ?_
  intro p e s m below meth c A ls C hl hW
  have hl : lv_has ls 1 [(0, .int p0)] := hl
  unfold wp_X5_isRow at h
  refine lv_iload_n C.1 C.2.1 dX5_isRow_0 rfl (lv_at hl 0 rfl) ?_
  refine lv_iconst (v := 0) C.1 C.2.1 dX5_isRow_1 (by decide) ?_
  refine lv_iconst (v := 5) C.1 C.2.1 dX5_isRow_2 (by decide) ?_
  refine x_Si (rest := []) C hW (c_X5_in l g h) km_X5_in qm_X5_88 ⟨rfl, rfl⟩ (by decide) rfl hl.1 rfl (Nat.le_of_ble_eq_true rfl) ⟨Nat.zero_le _, Nat.zero_le _⟩ dX5_isRow_3 (fun r1 u1 H locs h hW => ?_)
  exact x_zret C hW h.1 h.2 dX5_isRow_6
set_option maxRecDepth 100000 in
theorem c_X5_at (l : Launch) (g : GG) {p1 : Int32} {p2 : Int32} {u : St} {Q : Int32 → St → Prop} (h : wp_X5_at p1 p2 u Q) : CI l yX5_at cX5_at 3 (some .int) rm_X5_at g [.ref (gad g 39), .int p1, .int p2] u Q := by
  refine ent (own := RX5) (Qc := va_Qi Q (WQ g)) (by decide) rfl (Nat.le_of_ble_eq_true rfl) ?_
  intro p e s m below meth c A ls C hl hW
  have hl : lv_has ls 3 [(0, .ref (gad g 39)), (1, .int p1), (2, .int p2)] := hl
  unfold wp_X5_at at h
  refine lv_iload_n C.1 C.2.1 dX5_at_0 rfl (lv_at hl 1 rfl) ?_
  refine x_Si (rest := []) C hW (c_X5_isRow l g h) km_X5_isRow qm_X5_92 ⟨rfl, rfl⟩ (by decide) rfl hl.1 rfl (Nat.le_of_ble_eq_true rfl) ⟨Nat.zero_le _, Nat.zero_le _⟩ dX5_at_1 (fun r1 u1 H locs h hW => ?_)
  refine lv_if_ne (tgt := 9) C.1 C.2.1 dX5_at_4 (by decide) (fun c2 => ?_) (fun c2 => ?_)
  · have h := h.1 c2
    refine lv_aload_n C.1 C.2.1 dX5_at_9 rfl (lv_at hl 0 rfl) ?_
    refine fg_X5_17 C hW dX5_at_10 ?_
    refine lv_iload_n C.1 C.2.1 dX5_at_13 rfl (lv_at hl 1 rfl) ?_
    obtain ⟨h3, h⟩ := h
    refine x_iald C hW g_41 h3 dX5_at_14 ?_
    refine lv_if_ge (tgt := 24) C.1 C.2.1 dX5_at_15 (by decide) (fun c4 => ?_) (fun c4 => ?_)
    · have h := h.1 c4
      refine lv_iload_n C.1 C.2.1 dX5_at_24 rfl (lv_at hl 2 rfl) ?_
      refine lv_iconst (v := 0) C.1 C.2.1 dX5_at_25 (by decide) ?_
      refine lv_aload_n C.1 C.2.1 dX5_at_26 rfl (lv_at hl 0 rfl) ?_
      refine fg_X5_17 C hW dX5_at_27 ?_
      refine lv_iload_n C.1 C.2.1 dX5_at_30 rfl (lv_at hl 1 rfl) ?_
      obtain ⟨h5, h⟩ := h
      refine x_iald C hW g_41 h5 dX5_at_31 ?_
      refine lv_iconst (v := 1) C.1 C.2.1 dX5_at_32 (by decide) ?_
      refine lv_isub C.1 C.2.1 dX5_at_33 ?_
      refine x_Si (rest := []) C hW (c_X5_in l g h) km_X5_in qm_X5_88 ⟨rfl, rfl⟩ (by decide) rfl hl.1 rfl (Nat.le_of_ble_eq_true rfl) ⟨Nat.zero_le _, Nat.zero_le _⟩ dX5_at_34 (fun r6 u6 H locs h hW => ?_)
      refine lv_if_eq (tgt := 58) C.1 C.2.1 dX5_at_37 (by decide) (fun c7 => ?_) (fun c7 => ?_)
      · have h := h.1 c7
        refine lv_aload_n C.1 C.2.1 dX5_at_58 rfl (lv_at hl 0 rfl) ?_
        refine lv_iconst (v := 2) C.1 C.2.1 dX5_at_59 (by decide) ?_
        refine x_Vi (rest := []) C hW (c_X5_find l g h) km_X5_find oModel rfl qm_X5_96 ⟨rfl, rfl⟩ (by decide) rfl hl.1 rfl (Nat.le_of_ble_eq_true rfl) ⟨Nat.zero_le _, Nat.zero_le _⟩ dX5_at_60 (fun r8 u8 H locs h hW => ?_)
        exact x_iret C hW h dX5_at_63
      · have h := h.2 c7
        refine lv_aload_n C.1 C.2.1 dX5_at_40 rfl (lv_at hl 0 rfl) ?_
        refine lv_aload_n C.1 C.2.1 dX5_at_41 rfl (lv_at hl 0 rfl) ?_
        refine fg_X5_20 C hW dX5_at_42 ?_
        refine lv_bipush (v := 40) C.1 C.2.1 dX5_at_45 (by decide) ?_
        refine lv_iload_n C.1 C.2.1 dX5_at_47 rfl (lv_at hl 1 rfl) ?_
        refine lv_imul C.1 C.2.1 dX5_at_48 ?_
        refine lv_iload_n C.1 C.2.1 dX5_at_49 rfl (lv_at hl 2 rfl) ?_
        refine lv_iadd C.1 C.2.1 dX5_at_50 ?_
        obtain ⟨h9, h⟩ := h
        refine x_iald C hW g_42 h9 dX5_at_51 ?_
        refine x_Vi (rest := []) C hW (c_X5_tellAsked l g h) km_X5_tellAsked oModel rfl qm_X5_100 ⟨rfl, rfl⟩ (by decide) rfl hl.1 rfl (Nat.le_of_ble_eq_true rfl) ⟨Nat.zero_le _, Nat.zero_le _⟩ dX5_at_52 (fun r10 u10 H locs h hW => ?_)
        refine lv_goto (tgt := 63) C.1 C.2.1 dX5_at_55 (by decide) ?_
        exact x_iret C hW h dX5_at_63
    · have h := h.2 c4
      refine lv_aload_n C.1 C.2.1 dX5_at_18 rfl (lv_at hl 0 rfl) ?_
      refine lv_iconst (v := 1) C.1 C.2.1 dX5_at_19 (by decide) ?_
      refine x_Vi (rest := []) C hW (c_X5_find l g h) km_X5_find oModel rfl qm_X5_96 ⟨rfl, rfl⟩ (by decide) rfl hl.1 rfl (Nat.le_of_ble_eq_true rfl) ⟨Nat.zero_le _, Nat.zero_le _⟩ dX5_at_20 (fun r11 u11 H locs h hW => ?_)
      exact x_iret C hW h dX5_at_23
  · have h := h.2 c2
    refine lv_iconst (v := (-1)) C.1 C.2.1 dX5_at_7 (by decide) ?_
    exact x_iret C hW h dX5_at_8
set_option maxRecDepth 100000 in
theorem k_X5_begin_B2 {p : Program} {l : Launch} {e : Env} {s : State} {m : MethodId} {args : Array Value} {below : List Frame} {meth : Method} {c : Code} {g : GG} {A : Nat → Prop} {Q : St → Prop} (C : MC p s m args meth c cX5_begin 2 RX5 none g A) {K2 : Int32 → St → Prop} (hK2 : ∀ (v1 : Int32) (u : St) (H : Heap) (locs : List Loc) (ls : Array Slot), K2 v1 u → WD g A s u H locs → lv_has ls 2 [(0, .ref (gad g 39)), (1, .int v1)] → W p l e rm_X5_begin s m args below meth c H locs 0 0 (MQ below (va_Qv Q (WQ g) A) args s 0 0 A) (F0 m 2 ls [])) : ∀ (v1 : Int32) (u : St) (H : Heap) (locs : List Loc) (ls : Array Slot), wp_X5_begin_B2 Q K2 v1 u → WD g A s u H locs → lv_has ls 2 [(0, .ref (gad g 39)), (1, .int v1)] → W p l e rm_X5_begin s m args below meth c H locs 0 0 (MQ below (va_Qv Q (WQ g) A) args s 0 0 A) (F0 m 2 ls []) := by
  intro v1 u H locs ls h hW hl
  refine lv_iload_n C.1 C.2.1 dX5_begin_2 rfl (lv_at hl 1 rfl) ?_
  refine lv_bipush (v := 10) C.1 C.2.1 dX5_begin_3 (by decide) ?_
  refine lv_icmp_ge (tgt := 44) C.1 C.2.1 dX5_begin_5 (by decide) (fun c1 => ?_) (fun c1 => ?_)
  · have h := h.1 c1
    refine lv_aload_n C.1 C.2.1 dX5_begin_44 rfl (lv_at hl 0 rfl) ?_
    refine lv_dup C.1 C.2.1 dX5_begin_45 rfl ?_
    refine fg_X5_119 C hW dX5_begin_46 ?_
    refine lv_iconst (v := 1) C.1 C.2.1 dX5_begin_49 (by decide) ?_
    refine lv_iadd C.1 C.2.1 dX5_begin_50 ?_
    refine fp_X5_119 C hW dX5_begin_51 (fun u2 H locs e2 hW => ?_)
    have h := nxt_get h e2
    exact x_vret C hW h dX5_begin_54
  · have h := h.2 c1
    refine lv_aload_n C.1 C.2.1 dX5_begin_8 rfl (lv_at hl 0 rfl) ?_
    refine fg_X5_45 C hW dX5_begin_9 ?_
    refine lv_bipush (v := 10) C.1 C.2.1 dX5_begin_12 (by decide) ?_
    refine lv_aload_n C.1 C.2.1 dX5_begin_14 rfl (lv_at hl 0 rfl) ?_
    refine fg_X5_119 C hW dX5_begin_15 ?_
    refine lv_iconst (v := 1) C.1 C.2.1 dX5_begin_18 (by decide) ?_
    refine lv_iadd C.1 C.2.1 dX5_begin_19 ?_
    refine lv_imul C.1 C.2.1 dX5_begin_20 ?_
    refine lv_iload_n C.1 C.2.1 dX5_begin_21 rfl (lv_at hl 1 rfl) ?_
    refine lv_iadd C.1 C.2.1 dX5_begin_22 ?_
    refine lv_aload_n C.1 C.2.1 dX5_begin_23 rfl (lv_at hl 0 rfl) ?_
    refine fg_X5_45 C hW dX5_begin_24 ?_
    refine lv_bipush (v := 10) C.1 C.2.1 dX5_begin_27 (by decide) ?_
    refine lv_aload_n C.1 C.2.1 dX5_begin_29 rfl (lv_at hl 0 rfl) ?_
    refine fg_X5_119 C hW dX5_begin_30 ?_
    refine lv_imul C.1 C.2.1 dX5_begin_33 ?_
    refine lv_iload_n C.1 C.2.1 dX5_begin_34 rfl (lv_at hl 1 rfl) ?_
    refine lv_iadd C.1 C.2.1 dX5_begin_35 ?_
    obtain ⟨h3, h⟩ := h
    refine x_iald C hW g_50 h3 dX5_begin_36 ?_
    obtain ⟨h4, h⟩ := h
    refine x_iast C hW g_50 h4 dX5_begin_37 (fun u5 H locs e5 hW => ?_)
    have h := nxt_get h e5
    refine lv_iinc (v := (v1 + 1)) (lv' := [(1, .int (v1 + 1)), (0, .ref (gad g 39))]) C.1 C.2.1 dX5_begin_38 hl (k := 1) rfl rfl (by decide) rfl (fun ls hl => ?_)
    refine lv_goto (tgt := 2) C.1 C.2.1 dX5_begin_41 (by decide) ?_
    exact hK2 (v1 + 1) u5 _ _ _ h hW (lv_sub hl [1, 0] rfl)
theorem k_X5_begin_L2 {p : Program} {l : Launch} {e : Env} {s : State} {m : MethodId} {args : Array Value} {below : List Frame} {meth : Method} {c : Code} {g : GG} {A : Nat → Prop} {Q : St → Prop} (C : MC p s m args meth c cX5_begin 2 RX5 none g A) : ∀ (n : Nat), ∀ (v1 : Int32) (u : St) (H : Heap) (locs : List Loc) (ls : Array Slot), wp_X5_begin_L2 Q n v1 u → WD g A s u H locs → lv_has ls 2 [(0, .ref (gad g 39)), (1, .int v1)] → W p l e rm_X5_begin s m args below meth c H locs 0 0 (MQ below (va_Qv Q (WQ g) A) args s 0 0 A) (F0 m 2 ls []) := by
  intro n
  induction n with
  | zero => intro v1 u H locs ls h; exact False.elim h
  | succ n ih => exact k_X5_begin_B2 C ih
set_option maxRecDepth 100000 in
theorem c_X5_begin (l : Launch) (g : GG) {u : St} {Q : St → Prop} (h : wp_X5_begin u Q) : CV l yX5_begin cX5_begin 2 none rm_X5_begin g [.ref (gad g 39)] u Q := by
  refine ent (own := RX5) (Qc := va_Qv Q (WQ g)) (by decide) rfl (Nat.le_of_ble_eq_true rfl) ?_
  intro p e s m below meth c A ls C hl hW
  have hl : lv_has ls 2 [(0, .ref (gad g 39))] := hl
  unfold wp_X5_begin at h
  refine lv_iconst (v := 0) C.1 C.2.1 dX5_begin_0 (by decide) ?_
  refine lv_istore_n (lv' := [(1, .int 0), (0, .ref (gad g 39))]) C.1 C.2.1 dX5_begin_1 rfl hl (by decide) rfl (fun ls hl => ?_)
  obtain ⟨n, h⟩ := h
  exact k_X5_begin_L2 C n 0 u _ _ _ h hW (lv_sub hl [1, 0] rfl)
set_option maxRecDepth 100000 in
theorem k_X5_rightSets_J29 {p : Program} {l : Launch} {e : Env} {s : State} {m : MethodId} {args : Array Value} {below : List Frame} {meth : Method} {c : Code} {g : GG} {A : Nat → Prop} {Q : Int32 → St → Prop} (C : MC p s m args meth c cX5_rightSets 3 RX5 (some .int) g A) {K4 : Int32 → Int32 → St → Prop} (hK4 : ∀ (v1 : Int32) (v2 : Int32) (u : St) (H : Heap) (locs : List Loc) (ls : Array Slot), K4 v1 v2 u → WD g A s u H locs → lv_has ls 3 [(0, .ref (gad g 39)), (1, .int v1), (2, .int v2)] → W p l e rm_X5_rightSets s m args below meth c H locs 0 0 (MQ below (va_Qi Q (WQ g) A) args s 0 0 A) (F0 m 4 ls [])) : ∀ (v2 : Int32) (t0 : Int32) (t1 : Int32) (u : St) (H : Heap) (locs : List Loc) (ls : Array Slot), wp_X5_rightSets_J29 Q K4 v2 t0 t1 u → WD g A s u H locs → lv_has ls 3 [(0, .ref (gad g 39)), (2, .int v2)] → W p l e rm_X5_rightSets s m args below meth c H locs 0 0 (MQ below (va_Qi Q (WQ g) A) args s 0 0 A) (F0 m 29 ls [.int t0, .int t1]) := by
  intro v2 t0 t1 u H locs ls h hW hl
  refine lv_iadd C.1 C.2.1 dX5_rightSets_29 ?_
  refine lv_istore_n (lv' := [(1, .int (t1 + t0)), (0, .ref (gad g 39)), (2, .int v2)]) C.1 C.2.1 dX5_rightSets_30 rfl hl (by decide) rfl (fun ls hl => ?_)
  refine lv_iinc (v := (v2 + 1)) (lv' := [(2, .int (v2 + 1)), (1, .int (t1 + t0)), (0, .ref (gad g 39))]) C.1 C.2.1 dX5_rightSets_31 hl (k := 2) rfl rfl (by decide) rfl (fun ls hl => ?_)
  refine lv_goto (tgt := 4) C.1 C.2.1 dX5_rightSets_34 (by decide) ?_
  exact hK4 (t1 + t0) (v2 + 1) u _ _ _ h hW (lv_sub hl [2, 1, 0] rfl)
set_option maxRecDepth 100000 in
theorem k_X5_rightSets_B4 {p : Program} {l : Launch} {e : Env} {s : State} {m : MethodId} {args : Array Value} {below : List Frame} {meth : Method} {c : Code} {g : GG} {A : Nat → Prop} {Q : Int32 → St → Prop} (C : MC p s m args meth c cX5_rightSets 3 RX5 (some .int) g A) {K4 : Int32 → Int32 → St → Prop} (hK4 : ∀ (v1 : Int32) (v2 : Int32) (u : St) (H : Heap) (locs : List Loc) (ls : Array Slot), K4 v1 v2 u → WD g A s u H locs → lv_has ls 3 [(0, .ref (gad g 39)), (1, .int v1), (2, .int v2)] → W p l e rm_X5_rightSets s m args below meth c H locs 0 0 (MQ below (va_Qi Q (WQ g) A) args s 0 0 A) (F0 m 4 ls [])) : ∀ (v1 : Int32) (v2 : Int32) (u : St) (H : Heap) (locs : List Loc) (ls : Array Slot), wp_X5_rightSets_B4 Q K4 v1 v2 u → WD g A s u H locs → lv_has ls 3 [(0, .ref (gad g 39)), (1, .int v1), (2, .int v2)] → W p l e rm_X5_rightSets s m args below meth c H locs 0 0 (MQ below (va_Qi Q (WQ g) A) args s 0 0 A) (F0 m 4 ls []) := by
  intro v1 v2 u H locs ls h hW hl
  refine lv_iload_n C.1 C.2.1 dX5_rightSets_4 rfl (lv_at hl 2 rfl) ?_
  refine lv_iconst (v := 1) C.1 C.2.1 dX5_rightSets_5 (by decide) ?_
  refine lv_aload_n C.1 C.2.1 dX5_rightSets_6 rfl (lv_at hl 0 rfl) ?_
  refine fg_X5_116 C hW dX5_rightSets_7 ?_
  refine lv_ishl C.1 C.2.1 dX5_rightSets_10 ?_
  refine lv_icmp_ge (tgt := 37) C.1 C.2.1 dX5_rightSets_11 (by decide) (fun c1 => ?_) (fun c1 => ?_)
  · have h := h.1 c1
    refine lv_iload_n C.1 C.2.1 dX5_rightSets_37 rfl (lv_at hl 1 rfl) ?_
    exact x_iret C hW h dX5_rightSets_38
  · have h := h.2 c1
    refine lv_iload_n C.1 C.2.1 dX5_rightSets_14 rfl (lv_at hl 1 rfl) ?_
    refine lv_aload_n C.1 C.2.1 dX5_rightSets_15 rfl (lv_at hl 0 rfl) ?_
    refine lv_iload_n C.1 C.2.1 dX5_rightSets_16 rfl (lv_at hl 2 rfl) ?_
    refine x_Vi (rest := [.int v1]) C hW (c_X5_toldOf l g h) km_X5_toldOf oModel rfl qm_X5_179 ⟨rfl, rfl⟩ (by decide) rfl hl.1 rfl (Nat.le_of_ble_eq_true rfl) ⟨Nat.zero_le _, Nat.zero_le _⟩ dX5_rightSets_17 (fun r2 u2 H locs h hW => ?_)
    refine lv_iload_n C.1 C.2.1 dX5_rightSets_20 rfl (lv_at hl 2 rfl) ?_
    refine lv_icmp_ne (tgt := 28) C.1 C.2.1 dX5_rightSets_21 (by decide) (fun c3 => ?_) (fun c3 => ?_)
    · have h := h.1 c3
      refine lv_iconst (v := 0) C.1 C.2.1 dX5_rightSets_28 (by decide) ?_
      exact k_X5_rightSets_J29 C hK4 v2 0 v1 u2 _ _ _ h hW (lv_sub hl [0, 2] rfl)
    · have h := h.2 c3
      refine lv_iconst (v := 1) C.1 C.2.1 dX5_rightSets_24 (by decide) ?_
      refine lv_goto (tgt := 29) C.1 C.2.1 dX5_rightSets_25 (by decide) ?_
      exact k_X5_rightSets_J29 C hK4 v2 1 v1 u2 _ _ _ h hW (lv_sub hl [0, 2] rfl)
theorem k_X5_rightSets_L4 {p : Program} {l : Launch} {e : Env} {s : State} {m : MethodId} {args : Array Value} {below : List Frame} {meth : Method} {c : Code} {g : GG} {A : Nat → Prop} {Q : Int32 → St → Prop} (C : MC p s m args meth c cX5_rightSets 3 RX5 (some .int) g A) : ∀ (n : Nat), ∀ (v1 : Int32) (v2 : Int32) (u : St) (H : Heap) (locs : List Loc) (ls : Array Slot), wp_X5_rightSets_L4 Q n v1 v2 u → WD g A s u H locs → lv_has ls 3 [(0, .ref (gad g 39)), (1, .int v1), (2, .int v2)] → W p l e rm_X5_rightSets s m args below meth c H locs 0 0 (MQ below (va_Qi Q (WQ g) A) args s 0 0 A) (F0 m 4 ls []) := by
  intro n
  induction n with
  | zero => intro v1 v2 u H locs ls h; exact False.elim h
  | succ n ih => exact k_X5_rightSets_B4 C ih
set_option maxRecDepth 100000 in
theorem c_X5_rightSets (l : Launch) (g : GG) {u : St} {Q : Int32 → St → Prop} (h : wp_X5_rightSets u Q) : CI l yX5_rightSets cX5_rightSets 3 (some .int) rm_X5_rightSets g [.ref (gad g 39)] u Q := by
  refine ent (own := RX5) (Qc := va_Qi Q (WQ g)) (by decide) rfl (Nat.le_of_ble_eq_true rfl) ?_
  intro p e s m below meth c A ls C hl hW
  have hl : lv_has ls 3 [(0, .ref (gad g 39))] := hl
  unfold wp_X5_rightSets at h
  refine lv_iconst (v := 0) C.1 C.2.1 dX5_rightSets_0 (by decide) ?_
  refine lv_istore_n (lv' := [(1, .int 0), (0, .ref (gad g 39))]) C.1 C.2.1 dX5_rightSets_1 rfl hl (by decide) rfl (fun ls hl => ?_)
  refine lv_iconst (v := 0) C.1 C.2.1 dX5_rightSets_2 (by decide) ?_
  refine lv_istore_n (lv' := [(2, .int 0), (1, .int 0), (0, .ref (gad g 39))]) C.1 C.2.1 dX5_rightSets_3 rfl hl (by decide) rfl (fun ls hl => ?_)
  obtain ⟨n, h⟩ := h
  exact k_X5_rightSets_L4 C n 0 0 u _ _ _ h hW (lv_sub hl [2, 1, 0] rfl)
set_option maxRecDepth 100000 in
theorem k_X5_best_B24 {p : Program} {l : Launch} {e : Env} {s : State} {m : MethodId} {args : Array Value} {below : List Frame} {meth : Method} {c : Code} {g : GG} {A : Nat → Prop} {Q : Int32 → St → Prop} (C : MC p s m args meth c cX5_best 5 RX5 (some .int) g A) {K24 : Int32 → Int32 → Int32 → St → Prop} (hK24 : ∀ (v1 : Int32) (v2 : Int32) (v3 : Int32) (u : St) (H : Heap) (locs : List Loc) (ls : Array Slot), K24 v1 v2 v3 u → WD g A s u H locs → lv_has ls 5 [(0, .ref (gad g 39)), (1, .int v1), (2, .int v2), (3, .int v3)] → W p l e rm_X5_best s m args below meth c H locs 0 0 (MQ below (va_Qi Q (WQ g) A) args s 0 0 A) (F0 m 24 ls [])) : ∀ (v1 : Int32) (v2 : Int32) (v3 : Int32) (u : St) (H : Heap) (locs : List Loc) (ls : Array Slot), wp_X5_best_B24 Q K24 v1 v2 v3 u → WD g A s u H locs → lv_has ls 5 [(0, .ref (gad g 39)), (1, .int v1), (2, .int v2), (3, .int v3)] → W p l e rm_X5_best s m args below meth c H locs 0 0 (MQ below (va_Qi Q (WQ g) A) args s 0 0 A) (F0 m 24 ls []) := by
  intro v1 v2 v3 u H locs ls h hW hl
  refine lv_iload_n C.1 C.2.1 dX5_best_24 rfl (lv_at hl 3 rfl) ?_
  refine lv_aload_n C.1 C.2.1 dX5_best_25 rfl (lv_at hl 0 rfl) ?_
  refine fg_X5_116 C hW dX5_best_26 ?_
  refine lv_icmp_ge (tgt := 66) C.1 C.2.1 dX5_best_29 (by decide) (fun c4 => ?_) (fun c4 => ?_)
  · have h := h.1 c4
    refine lv_iload_n C.1 C.2.1 dX5_best_66 rfl (lv_at hl 2 rfl) ?_
    refine lv_bipush (v := (-9)) C.1 C.2.1 dX5_best_67 (by decide) ?_
    refine lv_icmp_eq (tgt := 78) C.1 C.2.1 dX5_best_69 (by decide) (fun c5 => ?_) (fun c5 => ?_)
    · have h := h.1 c5
      refine lv_iload_n C.1 C.2.1 dX5_best_78 rfl (lv_at hl 2 rfl) ?_
      exact x_iret C hW h dX5_best_79
    · have h := h.2 c5
      refine lv_aload_n C.1 C.2.1 dX5_best_72 rfl (lv_at hl 0 rfl) ?_
      refine lv_iload_n C.1 C.2.1 dX5_best_73 rfl (lv_at hl 1 rfl) ?_
      refine x_Vi (rest := []) C hW (c_X5_tellAsked l g h) km_X5_tellAsked oModel rfl qm_X5_100 ⟨rfl, rfl⟩ (by decide) rfl hl.1 rfl (Nat.le_of_ble_eq_true rfl) ⟨Nat.zero_le _, Nat.zero_le _⟩ dX5_best_74 (fun r6 u6 H locs h hW => ?_)
      refine lv_pop C.1 C.2.1 dX5_best_77 rfl ?_
      refine lv_iload_n C.1 C.2.1 dX5_best_78 rfl (lv_at hl 2 rfl) ?_
      exact x_iret C hW h dX5_best_79
  · have h := h.2 c4
    refine lv_aload_n C.1 C.2.1 dX5_best_32 rfl (lv_at hl 0 rfl) ?_
    refine x_Vv (rest := []) C hW (c_X5_take l g h) km_X5_take oModel rfl qm_X5_139 ⟨rfl, rfl⟩ (by decide) rfl hl.1 rfl (Nat.le_of_ble_eq_true rfl) ⟨Nat.zero_le _, Nat.zero_le _⟩ dX5_best_33 (fun u7 H locs h hW => ?_)
    refine lv_aload_n C.1 C.2.1 dX5_best_36 rfl (lv_at hl 0 rfl) ?_
    refine fg_X5_57 C hW dX5_best_37 ?_
    refine lv_iload_n C.1 C.2.1 dX5_best_40 rfl (lv_at hl 3 rfl) ?_
    refine lv_iconst (v := 1) C.1 C.2.1 dX5_best_41 (by decide) ?_
    obtain ⟨h8, h⟩ := h
    refine x_iast C hW g_54 h8 dX5_best_42 (fun u9 H locs e9 hW => ?_)
    have h := nxt_get h e9
    refine lv_aload_n C.1 C.2.1 dX5_best_43 rfl (lv_at hl 0 rfl) ?_
    refine x_Vi (rest := []) C hW (c_X5_rightSets l g h) km_X5_rightSets oModel rfl qm_X5_182 ⟨rfl, rfl⟩ (by decide) rfl hl.1 rfl (Nat.le_of_ble_eq_true rfl) ⟨Nat.zero_le _, Nat.zero_le _⟩ dX5_best_44 (fun r10 u10 H locs h hW => ?_)
    refine lv_istore (lv' := [(4, .int r10), (0, .ref (gad g 39)), (1, .int v1), (2, .int v2), (3, .int v3)]) C.1 C.2.1 dX5_best_47 hl (by decide) rfl (fun ls hl => ?_)
    refine lv_iload C.1 C.2.1 dX5_best_49 (lv_at hl 0 rfl) ?_
    refine lv_iload_n C.1 C.2.1 dX5_best_51 rfl (lv_at hl 2 rfl) ?_
    refine lv_icmp_le (tgt := 60) C.1 C.2.1 dX5_best_52 (by decide) (fun c11 => ?_) (fun c11 => ?_)
    · have h := h.1 c11
      refine lv_iinc (v := (v3 + 1)) (lv' := [(3, .int (v3 + 1)), (4, .int r10), (0, .ref (gad g 39)), (1, .int v1), (2, .int v2)]) C.1 C.2.1 dX5_best_60 hl (k := 4) rfl rfl (by decide) rfl (fun ls hl => ?_)
      refine lv_goto (tgt := 24) C.1 C.2.1 dX5_best_63 (by decide) ?_
      exact hK24 v1 v2 (v3 + 1) u10 _ _ _ h hW (lv_sub hl [2, 3, 4, 0] rfl)
    · have h := h.2 c11
      refine lv_iload_n C.1 C.2.1 dX5_best_55 rfl (lv_at hl 4 rfl) ?_
      refine lv_istore_n (lv' := [(2, .int v3), (4, .int r10), (0, .ref (gad g 39)), (1, .int v1), (3, .int v3)]) C.1 C.2.1 dX5_best_56 rfl hl (by decide) rfl (fun ls hl => ?_)
      refine lv_iload C.1 C.2.1 dX5_best_57 (lv_at hl 1 rfl) ?_
      refine lv_istore_n (lv' := [(1, .int r10), (2, .int v3), (4, .int r10), (0, .ref (gad g 39)), (3, .int v3)]) C.1 C.2.1 dX5_best_59 rfl hl (by decide) rfl (fun ls hl => ?_)
      refine lv_iinc (v := (v3 + 1)) (lv' := [(3, .int (v3 + 1)), (1, .int r10), (2, .int v3), (4, .int r10), (0, .ref (gad g 39))]) C.1 C.2.1 dX5_best_60 hl (k := 4) rfl rfl (by decide) rfl (fun ls hl => ?_)
      refine lv_goto (tgt := 24) C.1 C.2.1 dX5_best_63 (by decide) ?_
      exact hK24 r10 v3 (v3 + 1) u10 _ _ _ h hW (lv_sub hl [4, 1, 2, 0] rfl)
theorem k_X5_best_L24 {p : Program} {l : Launch} {e : Env} {s : State} {m : MethodId} {args : Array Value} {below : List Frame} {meth : Method} {c : Code} {g : GG} {A : Nat → Prop} {Q : Int32 → St → Prop} (C : MC p s m args meth c cX5_best 5 RX5 (some .int) g A) : ∀ (n : Nat), ∀ (v1 : Int32) (v2 : Int32) (v3 : Int32) (u : St) (H : Heap) (locs : List Loc) (ls : Array Slot), wp_X5_best_L24 Q n v1 v2 v3 u → WD g A s u H locs → lv_has ls 5 [(0, .ref (gad g 39)), (1, .int v1), (2, .int v2), (3, .int v3)] → W p l e rm_X5_best s m args below meth c H locs 0 0 (MQ below (va_Qi Q (WQ g) A) args s 0 0 A) (F0 m 24 ls []) := by
  intro n
  induction n with
  | zero => intro v1 v2 v3 u H locs ls h; exact False.elim h
  | succ n ih => exact k_X5_best_B24 C ih
set_option maxRecDepth 100000 in
theorem c_X5_best (l : Launch) (g : GG) {u : St} {Q : Int32 → St → Prop} (h : wp_X5_best u Q) : CI l yX5_best cX5_best 5 (some .int) rm_X5_best g [.ref (gad g 39)] u Q := by
  refine ent (own := RX5) (Qc := va_Qi Q (WQ g)) (by decide) rfl (Nat.le_of_ble_eq_true rfl) ?_
  intro p e s m below meth c A ls C hl hW
  have hl : lv_has ls 5 [(0, .ref (gad g 39))] := hl
  unfold wp_X5_best at h
  refine lv_aload_n C.1 C.2.1 dX5_best_0 rfl (lv_at hl 0 rfl) ?_
  refine fg_X5_116 C hW dX5_best_1 ?_
  refine lv_if_ne (tgt := 10) C.1 C.2.1 dX5_best_4 (by decide) (fun c1 => ?_) (fun c1 => ?_)
  · have h := h.1 c1
    refine lv_aload_n C.1 C.2.1 dX5_best_10 rfl (lv_at hl 0 rfl) ?_
    refine x_Vv (rest := []) C hW (c_X5_take l g h) km_X5_take oModel rfl qm_X5_139 ⟨rfl, rfl⟩ (by decide) rfl hl.1 rfl (Nat.le_of_ble_eq_true rfl) ⟨Nat.zero_le _, Nat.zero_le _⟩ dX5_best_11 (fun u2 H locs h hW => ?_)
    refine lv_aload_n C.1 C.2.1 dX5_best_14 rfl (lv_at hl 0 rfl) ?_
    refine x_Vi (rest := []) C hW (c_X5_rightSets l g h) km_X5_rightSets oModel rfl qm_X5_182 ⟨rfl, rfl⟩ (by decide) rfl hl.1 rfl (Nat.le_of_ble_eq_true rfl) ⟨Nat.zero_le _, Nat.zero_le _⟩ dX5_best_15 (fun r3 u3 H locs h hW => ?_)
    refine lv_istore_n (lv' := [(1, .int r3), (0, .ref (gad g 39))]) C.1 C.2.1 dX5_best_18 rfl hl (by decide) rfl (fun ls hl => ?_)
    refine lv_bipush (v := (-9)) C.1 C.2.1 dX5_best_19 (by decide) ?_
    refine lv_istore_n (lv' := [(2, .int (-9)), (1, .int r3), (0, .ref (gad g 39))]) C.1 C.2.1 dX5_best_21 rfl hl (by decide) rfl (fun ls hl => ?_)
    refine lv_iconst (v := 0) C.1 C.2.1 dX5_best_22 (by decide) ?_
    refine lv_istore_n (lv' := [(3, .int 0), (2, .int (-9)), (1, .int r3), (0, .ref (gad g 39))]) C.1 C.2.1 dX5_best_23 rfl hl (by decide) rfl (fun ls hl => ?_)
    obtain ⟨n, h⟩ := h
    exact k_X5_best_L24 C n r3 (-9) 0 u3 _ _ _ h hW (lv_sub hl [3, 2, 1, 0] rfl)
  · have h := h.2 c1
    refine lv_bipush (v := (-4)) C.1 C.2.1 dX5_best_7 (by decide) ?_
    exact x_iret C hW h dX5_best_9
set_option maxRecDepth 100000 in
theorem k_X5_bitsOf_B4 {p : Program} {l : Launch} {e : Env} {s : State} {m : MethodId} {args : Array Value} {below : List Frame} {meth : Method} {c : Code} {g : GG} {A : Nat → Prop} {p0 : Int32} {Q : Int32 → St → Prop} (C : MC p s m args meth c cX5_bitsOf 3 RX5 (some .int) g A) {K4 : Int32 → Int32 → St → Prop} (hK4 : ∀ (v1 : Int32) (v2 : Int32) (u : St) (H : Heap) (locs : List Loc) (ls : Array Slot), K4 v1 v2 u → WD g A s u H locs → lv_has ls 3 [(0, .int p0), (1, .int v1), (2, .int v2)] → W p l e rm_X5_bitsOf s m args below meth c H locs 0 0 (MQ below (va_Qi Q (WQ g) A) args s 0 0 A) (F0 m 4 ls [])) : ∀ (v1 : Int32) (v2 : Int32) (u : St) (H : Heap) (locs : List Loc) (ls : Array Slot), wp_X5_bitsOf_B4 p0 Q K4 v1 v2 u → WD g A s u H locs → lv_has ls 3 [(0, .int p0), (1, .int v1), (2, .int v2)] → W p l e rm_X5_bitsOf s m args below meth c H locs 0 0 (MQ below (va_Qi Q (WQ g) A) args s 0 0 A) (F0 m 4 ls []) := by
  intro v1 v2 u H locs ls h hW hl
  refine lv_iload_n C.1 C.2.1 dX5_bitsOf_4 rfl (lv_at hl 2 rfl) ?_
  refine lv_bipush (v := 8) C.1 C.2.1 dX5_bitsOf_5 (by decide) ?_
  refine lv_icmp_ge (tgt := 24) C.1 C.2.1 dX5_bitsOf_7 (by decide) (fun c1 => ?_) (fun c1 => ?_)
  · have h := h.1 c1
    refine lv_iload_n C.1 C.2.1 dX5_bitsOf_24 rfl (lv_at hl 1 rfl) ?_
    exact x_iret C hW h dX5_bitsOf_25
  · have h := h.2 c1
    refine lv_iload_n C.1 C.2.1 dX5_bitsOf_10 rfl (lv_at hl 1 rfl) ?_
    refine lv_iload_n C.1 C.2.1 dX5_bitsOf_11 rfl (lv_at hl 0 rfl) ?_
    refine lv_iload_n C.1 C.2.1 dX5_bitsOf_12 rfl (lv_at hl 2 rfl) ?_
    refine lv_ishr C.1 C.2.1 dX5_bitsOf_13 ?_
    refine lv_iconst (v := 1) C.1 C.2.1 dX5_bitsOf_14 (by decide) ?_
    refine lv_iand C.1 C.2.1 dX5_bitsOf_15 ?_
    refine lv_iadd C.1 C.2.1 dX5_bitsOf_16 ?_
    refine lv_istore_n (lv' := [(1, .int (v1 + ((p0 >>> (v2 &&& 31)) &&& 1))), (0, .int p0), (2, .int v2)]) C.1 C.2.1 dX5_bitsOf_17 rfl hl (by decide) rfl (fun ls hl => ?_)
    refine lv_iinc (v := (v2 + 1)) (lv' := [(2, .int (v2 + 1)), (1, .int (v1 + ((p0 >>> (v2 &&& 31)) &&& 1))), (0, .int p0)]) C.1 C.2.1 dX5_bitsOf_18 hl (k := 2) rfl rfl (by decide) rfl (fun ls hl => ?_)
    refine lv_goto (tgt := 4) C.1 C.2.1 dX5_bitsOf_21 (by decide) ?_
    exact hK4 (v1 + ((p0 >>> (v2 &&& 31)) &&& 1)) (v2 + 1) u _ _ _ h hW (lv_sub hl [2, 1, 0] rfl)
theorem k_X5_bitsOf_L4 {p : Program} {l : Launch} {e : Env} {s : State} {m : MethodId} {args : Array Value} {below : List Frame} {meth : Method} {c : Code} {g : GG} {A : Nat → Prop} {p0 : Int32} {Q : Int32 → St → Prop} (C : MC p s m args meth c cX5_bitsOf 3 RX5 (some .int) g A) : ∀ (n : Nat), ∀ (v1 : Int32) (v2 : Int32) (u : St) (H : Heap) (locs : List Loc) (ls : Array Slot), wp_X5_bitsOf_L4 p0 Q n v1 v2 u → WD g A s u H locs → lv_has ls 3 [(0, .int p0), (1, .int v1), (2, .int v2)] → W p l e rm_X5_bitsOf s m args below meth c H locs 0 0 (MQ below (va_Qi Q (WQ g) A) args s 0 0 A) (F0 m 4 ls []) := by
  intro n
  induction n with
  | zero => intro v1 v2 u H locs ls h; exact False.elim h
  | succ n ih => exact k_X5_bitsOf_B4 (p0 := p0) C ih
set_option maxRecDepth 100000 in
theorem c_X5_bitsOf (l : Launch) (g : GG) {p0 : Int32} {u : St} {Q : Int32 → St → Prop} (h : wp_X5_bitsOf p0 u Q) : CI l yX5_bitsOf cX5_bitsOf 3 (some .int) rm_X5_bitsOf g [.int p0] u Q := by
  refine ent (own := RX5) (Qc := va_Qi Q (WQ g)) (by decide) rfl (Nat.le_of_ble_eq_true rfl) ?_
  intro p e s m below meth c A ls C hl hW
  have hl : lv_has ls 3 [(0, .int p0)] := hl
  unfold wp_X5_bitsOf at h
  refine lv_iconst (v := 0) C.1 C.2.1 dX5_bitsOf_0 (by decide) ?_
  refine lv_istore_n (lv' := [(1, .int 0), (0, .int p0)]) C.1 C.2.1 dX5_bitsOf_1 rfl hl (by decide) rfl (fun ls hl => ?_)
  refine lv_iconst (v := 0) C.1 C.2.1 dX5_bitsOf_2 (by decide) ?_
  refine lv_istore_n (lv' := [(2, .int 0), (1, .int 0), (0, .int p0)]) C.1 C.2.1 dX5_bitsOf_3 rfl hl (by decide) rfl (fun ls hl => ?_)
  obtain ⟨n, h⟩ := h
  exact k_X5_bitsOf_L4 C n 0 0 u _ _ _ h hW (lv_sub hl [2, 1, 0] rfl)
set_option maxRecDepth 100000 in
theorem c_X5_isText (l : Launch) (g : GG) {p0 : Int32} {u : St} {Q : Int32 → St → Prop} (h : wp_X5_isText p0 u Q) : CI l yX5_isText cX5_isText 1 (some .boolean) rm_X5_isText g [.int p0] u Q := by
  refine ent (own := RX5) (Qc := va_Qi Q (WQ g)) (by decide) rfl (Nat.le_of_ble_eq_true rfl) ?_
  intro p e s m below meth c A ls C hl hW
  have hl : lv_has ls 1 [(0, .int p0)] := hl
  unfold wp_X5_isText at h
  refine lv_iload_n C.1 C.2.1 dX5_isText_0 rfl (lv_at hl 0 rfl) ?_
  refine lv_iconst (v := 0) C.1 C.2.1 dX5_isText_1 (by decide) ?_
  refine lv_iconst (v := 3) C.1 C.2.1 dX5_isText_2 (by decide) ?_
  refine x_Si (rest := []) C hW (c_X5_in l g h) km_X5_in qm_X5_88 ⟨rfl, rfl⟩ (by decide) rfl hl.1 rfl (Nat.le_of_ble_eq_true rfl) ⟨Nat.zero_le _, Nat.zero_le _⟩ dX5_isText_3 (fun r1 u1 H locs h hW => ?_)
  exact x_zret C hW h.1 h.2 dX5_isText_6
set_option maxRecDepth 100000 in
theorem k_X5_figure_J29 {p : Program} {l : Launch} {e : Env} {s : State} {m : MethodId} {args : Array Value} {below : List Frame} {meth : Method} {c : Code} {g : GG} {A : Nat → Prop} {p1 : Int32} {p2 : Int32} {p3 : Int32} {Q : Int32 → St → Prop} (C : MC p s m args meth c cX5_figure 5 RX5 (some .int) g A) : ∀ (t0 : Int32) (u : St) (H : Heap) (locs : List Loc) (ls : Array Slot), wp_X5_figure_J29 p1 p2 p3 Q t0 u → WD g A s u H locs → lv_has ls 5 [(3, .int p3)] → W p l e rm_X5_figure s m args below meth c H locs 0 0 (MQ below (va_Qi Q (WQ g) A) args s 0 0 A) (F0 m 29 ls [.int t0]) := by
  intro t0 u H locs ls h hW hl
  refine lv_istore (lv' := [(4, .int t0), (3, .int p3)]) C.1 C.2.1 dX5_figure_29 hl (by decide) rfl (fun ls hl => ?_)
  refine lv_iload C.1 C.2.1 dX5_figure_31 (lv_at hl 0 rfl) ?_
  refine lv_iconst (v := 0) C.1 C.2.1 dX5_figure_33 (by decide) ?_
  refine lv_iload_n C.1 C.2.1 dX5_figure_34 rfl (lv_at hl 1 rfl) ?_
  refine x_Si (rest := []) C hW (c_X5_in l g h) km_X5_in qm_X5_88 ⟨rfl, rfl⟩ (by decide) rfl hl.1 rfl (Nat.le_of_ble_eq_true rfl) ⟨Nat.zero_le _, Nat.zero_le _⟩ dX5_figure_35 (fun r4 u4 H locs h hW => ?_)
  refine lv_if_eq (tgt := 46) C.1 C.2.1 dX5_figure_38 (by decide) (fun c5 => ?_) (fun c5 => ?_)
  · have h := h.1 c5
    refine lv_bipush (v := (-9)) C.1 C.2.1 dX5_figure_46 (by decide) ?_
    exact x_iret C hW h dX5_figure_48
  · have h := h.2 c5
    refine lv_iload C.1 C.2.1 dX5_figure_41 (lv_at hl 0 rfl) ?_
    refine lv_goto (tgt := 48) C.1 C.2.1 dX5_figure_43 (by decide) ?_
    exact x_iret C hW h dX5_figure_48
set_option maxRecDepth 100000 in
theorem c_X5_figure (l : Launch) (g : GG) {p1 : Int32} {p2 : Int32} {p3 : Int32} {u : St} {Q : Int32 → St → Prop} (h : wp_X5_figure p1 p2 p3 u Q) : CI l yX5_figure cX5_figure 5 (some .int) rm_X5_figure g [.ref (gad g 39), .int p1, .int p2, .int p3] u Q := by
  refine ent (own := RX5) (Qc := va_Qi Q (WQ g)) (by decide) rfl (Nat.le_of_ble_eq_true rfl) ?_
  intro p e s m below meth c A ls C hl hW
  have hl : lv_has ls 5 [(0, .ref (gad g 39)), (1, .int p1), (2, .int p2), (3, .int p3)] := hl
  unfold wp_X5_figure at h
  refine lv_iload_n C.1 C.2.1 dX5_figure_0 rfl (lv_at hl 2 rfl) ?_
  refine lv_aload_n C.1 C.2.1 dX5_figure_1 rfl (lv_at hl 0 rfl) ?_
  refine fg_X5_23 C hW dX5_figure_2 ?_
  refine lv_iload_n C.1 C.2.1 dX5_figure_5 rfl (lv_at hl 1 rfl) ?_
  obtain ⟨h1, h⟩ := h
  refine x_iald C hW g_43 h1 dX5_figure_6 ?_
  refine lv_icmp_ge (tgt := 27) C.1 C.2.1 dX5_figure_7 (by decide) (fun c2 => ?_) (fun c2 => ?_)
  · have h := h.1 c2
    refine lv_bipush (v := (-9)) C.1 C.2.1 dX5_figure_27 (by decide) ?_
    exact k_X5_figure_J29 C (-9) u _ _ _ h hW (lv_sub hl [3] rfl)
  · have h := h.2 c2
    refine lv_aload_n C.1 C.2.1 dX5_figure_10 rfl (lv_at hl 0 rfl) ?_
    refine fg_X5_26 C hW dX5_figure_11 ?_
    refine lv_bipush (v := 60) C.1 C.2.1 dX5_figure_14 (by decide) ?_
    refine lv_iload_n C.1 C.2.1 dX5_figure_16 rfl (lv_at hl 1 rfl) ?_
    refine lv_imul C.1 C.2.1 dX5_figure_17 ?_
    refine lv_iload_n C.1 C.2.1 dX5_figure_18 rfl (lv_at hl 2 rfl) ?_
    refine lv_iadd C.1 C.2.1 dX5_figure_19 ?_
    obtain ⟨h3, h⟩ := h
    refine x_bald C hW g_44 h3 dX5_figure_20 ?_
    refine lv_bipush (v := 48) C.1 C.2.1 dX5_figure_21 (by decide) ?_
    refine lv_isub C.1 C.2.1 dX5_figure_23 ?_
    refine lv_goto (tgt := 29) C.1 C.2.1 dX5_figure_24 (by decide) ?_
    exact k_X5_figure_J29 C ((gi u 44 (Int32.toNatClampNeg ((60 * p1) + p2))) - 48) u _ _ _ h hW (lv_sub hl [3] rfl)
set_option maxRecDepth 100000 in
theorem c_X5_kindOf (l : Launch) (g : GG) {p0 : Int32} {u : St} {Q : Int32 → St → Prop} (h : wp_X5_kindOf p0 u Q) : CI l yX5_kindOf cX5_kindOf 1 (some .int) rm_X5_kindOf g [.int p0] u Q := by
  refine ent (own := RX5) (Qc := va_Qi Q (WQ g)) (by decide) rfl (Nat.le_of_ble_eq_true rfl) ?_
  intro p e s m below meth c A ls C hl hW
  have hl : lv_has ls 1 [(0, .int p0)] := hl
  unfold wp_X5_kindOf at h
  refine lv_iload_n C.1 C.2.1 dX5_kindOf_0 rfl (lv_at hl 0 rfl) ?_
  refine lv_bipush (v := 107) C.1 C.2.1 dX5_kindOf_1 (by decide) ?_
  refine lv_icmp_ne (tgt := 10) C.1 C.2.1 dX5_kindOf_3 (by decide) (fun c1 => ?_) (fun c1 => ?_)
  · have h := h.1 c1
    refine lv_iload_n C.1 C.2.1 dX5_kindOf_10 rfl (lv_at hl 0 rfl) ?_
    refine lv_bipush (v := 118) C.1 C.2.1 dX5_kindOf_11 (by decide) ?_
    refine lv_icmp_ne (tgt := 20) C.1 C.2.1 dX5_kindOf_13 (by decide) (fun c2 => ?_) (fun c2 => ?_)
    · have h := h.1 c2
      refine lv_iload_n C.1 C.2.1 dX5_kindOf_20 rfl (lv_at hl 0 rfl) ?_
      refine lv_bipush (v := 115) C.1 C.2.1 dX5_kindOf_21 (by decide) ?_
      refine lv_icmp_ne (tgt := 30) C.1 C.2.1 dX5_kindOf_23 (by decide) (fun c3 => ?_) (fun c3 => ?_)
      · have h := h.1 c3
        refine lv_iload_n C.1 C.2.1 dX5_kindOf_30 rfl (lv_at hl 0 rfl) ?_
        refine lv_bipush (v := 117) C.1 C.2.1 dX5_kindOf_31 (by decide) ?_
        refine lv_icmp_ne (tgt := 40) C.1 C.2.1 dX5_kindOf_33 (by decide) (fun c4 => ?_) (fun c4 => ?_)
        · have h := h.1 c4
          refine lv_iload_n C.1 C.2.1 dX5_kindOf_40 rfl (lv_at hl 0 rfl) ?_
          refine lv_bipush (v := 116) C.1 C.2.1 dX5_kindOf_41 (by decide) ?_
          refine lv_icmp_ne (tgt := 50) C.1 C.2.1 dX5_kindOf_43 (by decide) (fun c5 => ?_) (fun c5 => ?_)
          · have h := h.1 c5
            refine lv_iload_n C.1 C.2.1 dX5_kindOf_50 rfl (lv_at hl 0 rfl) ?_
            refine lv_bipush (v := 119) C.1 C.2.1 dX5_kindOf_51 (by decide) ?_
            refine lv_icmp_ne (tgt := 60) C.1 C.2.1 dX5_kindOf_53 (by decide) (fun c6 => ?_) (fun c6 => ?_)
            · have h := h.1 c6
              refine lv_bipush (v := (-9)) C.1 C.2.1 dX5_kindOf_60 (by decide) ?_
              exact x_iret C hW h dX5_kindOf_62
            · have h := h.2 c6
              refine lv_iconst (v := 5) C.1 C.2.1 dX5_kindOf_56 (by decide) ?_
              refine lv_goto (tgt := 62) C.1 C.2.1 dX5_kindOf_57 (by decide) ?_
              exact x_iret C hW h dX5_kindOf_62
          · have h := h.2 c5
            refine lv_iconst (v := 4) C.1 C.2.1 dX5_kindOf_46 (by decide) ?_
            refine lv_goto (tgt := 62) C.1 C.2.1 dX5_kindOf_47 (by decide) ?_
            exact x_iret C hW h dX5_kindOf_62
        · have h := h.2 c4
          refine lv_iconst (v := 3) C.1 C.2.1 dX5_kindOf_36 (by decide) ?_
          refine lv_goto (tgt := 62) C.1 C.2.1 dX5_kindOf_37 (by decide) ?_
          exact x_iret C hW h dX5_kindOf_62
      · have h := h.2 c3
        refine lv_iconst (v := 2) C.1 C.2.1 dX5_kindOf_26 (by decide) ?_
        refine lv_goto (tgt := 62) C.1 C.2.1 dX5_kindOf_27 (by decide) ?_
        exact x_iret C hW h dX5_kindOf_62
    · have h := h.2 c2
      refine lv_iconst (v := 1) C.1 C.2.1 dX5_kindOf_16 (by decide) ?_
      refine lv_goto (tgt := 62) C.1 C.2.1 dX5_kindOf_17 (by decide) ?_
      exact x_iret C hW h dX5_kindOf_62
  · have h := h.2 c1
    refine lv_iconst (v := 0) C.1 C.2.1 dX5_kindOf_6 (by decide) ?_
    refine lv_goto (tgt := 62) C.1 C.2.1 dX5_kindOf_7 (by decide) ?_
    exact x_iret C hW h dX5_kindOf_62
set_option maxRecDepth 100000 in
theorem k_X5_read_J192 {p : Program} {l : Launch} {e : Env} {s : State} {m : MethodId} {args : Array Value} {below : List Frame} {meth : Method} {c : Code} {g : GG} {A : Nat → Prop} {p1 : Int32} {Q : Int32 → St → Prop} (C : MC p s m args meth c cX5_read 9 RX5 (some .int) g A) {K4 : Int32 → Int32 → St → Prop} (hK4 : ∀ (v2 : Int32) (v3 : Int32) (u : St) (H : Heap) (locs : List Loc) (ls : Array Slot), K4 v2 v3 u → WD g A s u H locs → lv_has ls 9 [(0, .ref (gad g 39)), (1, .int p1), (2, .int v2), (3, .int v3)] → W p l e rm_X5_read s m args below meth c H locs 0 0 (MQ below (va_Qi Q (WQ g) A) args s 0 0 A) (F0 m 4 ls [])) {K147 : Int32 → Int32 → Int32 → Int32 → Int32 → Int32 → Int32 → St → Prop} (hK147 : ∀ (v2 : Int32) (v3 : Int32) (v4 : Int32) (v5 : Int32) (v6 : Int32) (v7 : Int32) (v8 : Int32) (u : St) (H : Heap) (locs : List Loc) (ls : Array Slot), K147 v2 v3 v4 v5 v6 v7 v8 u → WD g A s u H locs → lv_has ls 9 [(0, .ref (gad g 39)), (1, .int p1), (2, .int v2), (3, .int v3), (4, .int v4), (5, .int v5), (6, .int v6), (7, .int v7), (8, .int v8)] → W p l e rm_X5_read s m args below meth c H locs 0 0 (MQ below (va_Qi Q (WQ g) A) args s 0 0 A) (F0 m 147 ls [])) : ∀ (v2 : Int32) (v3 : Int32) (v4 : Int32) (v5 : Int32) (v6 : Int32) (v8 : Int32) (u : St) (H : Heap) (locs : List Loc) (ls : Array Slot), wp_X5_read_J192 p1 Q K4 K147 v2 v3 v4 v5 v6 v8 u → WD g A s u H locs → lv_has ls 9 [(0, .ref (gad g 39)), (1, .int p1), (2, .int v2), (3, .int v3), (4, .int v4), (5, .int v5), (6, .int v6), (8, .int v8)] → W p l e rm_X5_read s m args below meth c H locs 0 0 (MQ below (va_Qi Q (WQ g) A) args s 0 0 A) (F0 m 192 ls []) := by
  intro v2 v3 v4 v5 v6 v8 u H locs ls h hW hl
  refine lv_iconst (v := 0) C.1 C.2.1 dX5_read_192 (by decide) ?_
  refine lv_istore (lv' := [(7, .int 0), (0, .ref (gad g 39)), (1, .int p1), (2, .int v2), (3, .int v3), (4, .int v4), (5, .int v5), (6, .int v6), (8, .int v8)]) C.1 C.2.1 dX5_read_193 hl (by decide) rfl (fun ls hl => ?_)
  refine lv_iinc (v := (v8 + 1)) (lv' := [(8, .int (v8 + 1)), (7, .int 0), (0, .ref (gad g 39)), (1, .int p1), (2, .int v2), (3, .int v3), (4, .int v4), (5, .int v5), (6, .int v6)]) C.1 C.2.1 dX5_read_195 hl (k := 8) rfl rfl (by decide) rfl (fun ls hl => ?_)
  refine lv_goto (tgt := 147) C.1 C.2.1 dX5_read_198 (by decide) ?_
  exact hK147 v2 v3 v4 v5 v6 0 (v8 + 1) u _ _ _ h hW (lv_sub hl [2, 3, 4, 5, 6, 7, 8, 1, 0] rfl)
set_option maxRecDepth 100000 in
theorem k_X5_read_J188 {p : Program} {l : Launch} {e : Env} {s : State} {m : MethodId} {args : Array Value} {below : List Frame} {meth : Method} {c : Code} {g : GG} {A : Nat → Prop} {p1 : Int32} {Q : Int32 → St → Prop} (C : MC p s m args meth c cX5_read 9 RX5 (some .int) g A) {K4 : Int32 → Int32 → St → Prop} (hK4 : ∀ (v2 : Int32) (v3 : Int32) (u : St) (H : Heap) (locs : List Loc) (ls : Array Slot), K4 v2 v3 u → WD g A s u H locs → lv_has ls 9 [(0, .ref (gad g 39)), (1, .int p1), (2, .int v2), (3, .int v3)] → W p l e rm_X5_read s m args below meth c H locs 0 0 (MQ below (va_Qi Q (WQ g) A) args s 0 0 A) (F0 m 4 ls [])) {K147 : Int32 → Int32 → Int32 → Int32 → Int32 → Int32 → Int32 → St → Prop} (hK147 : ∀ (v2 : Int32) (v3 : Int32) (v4 : Int32) (v5 : Int32) (v6 : Int32) (v7 : Int32) (v8 : Int32) (u : St) (H : Heap) (locs : List Loc) (ls : Array Slot), K147 v2 v3 v4 v5 v6 v7 v8 u → WD g A s u H locs → lv_has ls 9 [(0, .ref (gad g 39)), (1, .int p1), (2, .int v2), (3, .int v3), (4, .int v4), (5, .int v5), (6, .int v6), (7, .int v7), (8, .int v8)] → W p l e rm_X5_read s m args below meth c H locs 0 0 (MQ below (va_Qi Q (WQ g) A) args s 0 0 A) (F0 m 147 ls [])) : ∀ (v2 : Int32) (v3 : Int32) (v4 : Int32) (v5 : Int32) (v6 : Int32) (v8 : Int32) (u : St) (H : Heap) (locs : List Loc) (ls : Array Slot), wp_X5_read_J188 p1 Q K4 K147 v2 v3 v4 v5 v6 v8 u → WD g A s u H locs → lv_has ls 9 [(0, .ref (gad g 39)), (1, .int p1), (2, .int v2), (3, .int v3), (4, .int v4), (5, .int v5), (6, .int v6), (8, .int v8)] → W p l e rm_X5_read s m args below meth c H locs 0 0 (MQ below (va_Qi Q (WQ g) A) args s 0 0 A) (F0 m 188 ls []) := by
  intro v2 v3 v4 v5 v6 v8 u H locs ls h hW hl
  refine lv_iconst (v := 1) C.1 C.2.1 dX5_read_188 (by decide) ?_
  refine lv_goto (tgt := 193) C.1 C.2.1 dX5_read_189 (by decide) ?_
  refine lv_istore (lv' := [(7, .int 1), (0, .ref (gad g 39)), (1, .int p1), (2, .int v2), (3, .int v3), (4, .int v4), (5, .int v5), (6, .int v6), (8, .int v8)]) C.1 C.2.1 dX5_read_193 hl (by decide) rfl (fun ls hl => ?_)
  refine lv_iinc (v := (v8 + 1)) (lv' := [(8, .int (v8 + 1)), (7, .int 1), (0, .ref (gad g 39)), (1, .int p1), (2, .int v2), (3, .int v3), (4, .int v4), (5, .int v5), (6, .int v6)]) C.1 C.2.1 dX5_read_195 hl (k := 8) rfl rfl (by decide) rfl (fun ls hl => ?_)
  refine lv_goto (tgt := 147) C.1 C.2.1 dX5_read_198 (by decide) ?_
  exact hK147 v2 v3 v4 v5 v6 1 (v8 + 1) u _ _ _ h hW (lv_sub hl [2, 3, 4, 5, 6, 7, 8, 1, 0] rfl)
set_option maxRecDepth 100000 in
theorem k_X5_read_B147 {p : Program} {l : Launch} {e : Env} {s : State} {m : MethodId} {args : Array Value} {below : List Frame} {meth : Method} {c : Code} {g : GG} {A : Nat → Prop} {p1 : Int32} {Q : Int32 → St → Prop} (C : MC p s m args meth c cX5_read 9 RX5 (some .int) g A) {K4 : Int32 → Int32 → St → Prop} (hK4 : ∀ (v2 : Int32) (v3 : Int32) (u : St) (H : Heap) (locs : List Loc) (ls : Array Slot), K4 v2 v3 u → WD g A s u H locs → lv_has ls 9 [(0, .ref (gad g 39)), (1, .int p1), (2, .int v2), (3, .int v3)] → W p l e rm_X5_read s m args below meth c H locs 0 0 (MQ below (va_Qi Q (WQ g) A) args s 0 0 A) (F0 m 4 ls [])) {K147 : Int32 → Int32 → Int32 → Int32 → Int32 → Int32 → Int32 → St → Prop} (hK147 : ∀ (v2 : Int32) (v3 : Int32) (v4 : Int32) (v5 : Int32) (v6 : Int32) (v7 : Int32) (v8 : Int32) (u : St) (H : Heap) (locs : List Loc) (ls : Array Slot), K147 v2 v3 v4 v5 v6 v7 v8 u → WD g A s u H locs → lv_has ls 9 [(0, .ref (gad g 39)), (1, .int p1), (2, .int v2), (3, .int v3), (4, .int v4), (5, .int v5), (6, .int v6), (7, .int v7), (8, .int v8)] → W p l e rm_X5_read s m args below meth c H locs 0 0 (MQ below (va_Qi Q (WQ g) A) args s 0 0 A) (F0 m 147 ls [])) : ∀ (v2 : Int32) (v3 : Int32) (v4 : Int32) (v5 : Int32) (v6 : Int32) (v7 : Int32) (v8 : Int32) (u : St) (H : Heap) (locs : List Loc) (ls : Array Slot), wp_X5_read_B147 p1 Q K4 K147 v2 v3 v4 v5 v6 v7 v8 u → WD g A s u H locs → lv_has ls 9 [(0, .ref (gad g 39)), (1, .int p1), (2, .int v2), (3, .int v3), (4, .int v4), (5, .int v5), (6, .int v6), (7, .int v7), (8, .int v8)] → W p l e rm_X5_read s m args below meth c H locs 0 0 (MQ below (va_Qi Q (WQ g) A) args s 0 0 A) (F0 m 147 ls []) := by
  intro v2 v3 v4 v5 v6 v7 v8 u H locs ls h hW hl
  refine lv_iload C.1 C.2.1 dX5_read_147 (lv_at hl 8 rfl) ?_
  refine lv_iload_n C.1 C.2.1 dX5_read_149 rfl (lv_at hl 2 rfl) ?_
  refine lv_icmp_ge (tgt := 201) C.1 C.2.1 dX5_read_150 (by decide) (fun c16 => ?_) (fun c16 => ?_)
  · have h := h.1 c16
    refine lv_iload C.1 C.2.1 dX5_read_201 (lv_at hl 7 rfl) ?_
    refine lv_if_ne (tgt := 213) C.1 C.2.1 dX5_read_203 (by decide) (fun c17 => ?_) (fun c17 => ?_)
    · have h := h.1 c17
      refine lv_aload_n C.1 C.2.1 dX5_read_213 rfl (lv_at hl 0 rfl) ?_
      refine lv_iload_n C.1 C.2.1 dX5_read_214 rfl (lv_at hl 1 rfl) ?_
      refine lv_iload_n C.1 C.2.1 dX5_read_215 rfl (lv_at hl 3 rfl) ?_
      refine lv_iconst (v := 3) C.1 C.2.1 dX5_read_216 (by decide) ?_
      refine lv_iadd C.1 C.2.1 dX5_read_217 ?_
      refine lv_bipush (v := 9) C.1 C.2.1 dX5_read_218 (by decide) ?_
      refine x_Vi (rest := []) C hW (c_X5_figure l g h) km_X5_figure oModel rfl qm_X5_109 ⟨rfl, rfl⟩ (by decide) rfl hl.1 rfl (Nat.le_of_ble_eq_true rfl) ⟨Nat.zero_le _, Nat.zero_le _⟩ dX5_read_220 (fun r18 u18 H locs h hW => ?_)
      refine lv_istore (lv' := [(8, .int r18), (0, .ref (gad g 39)), (1, .int p1), (2, .int v2), (3, .int v3), (4, .int v4), (5, .int v5), (6, .int v6), (7, .int v7)]) C.1 C.2.1 dX5_read_223 hl (by decide) rfl (fun ls hl => ?_)
      refine lv_iload C.1 C.2.1 dX5_read_225 (lv_at hl 0 rfl) ?_
      refine lv_bipush (v := (-9)) C.1 C.2.1 dX5_read_227 (by decide) ?_
      refine lv_icmp_ne (tgt := 239) C.1 C.2.1 dX5_read_229 (by decide) (fun c19 => ?_) (fun c19 => ?_)
      · have h := h.1 c19
        refine lv_aload_n C.1 C.2.1 dX5_read_239 rfl (lv_at hl 1 rfl) ?_
        refine fg_X5_33 C hW dX5_read_240 ?_
        refine lv_bipush (v := 7) C.1 C.2.1 dX5_read_243 (by decide) ?_
        refine lv_iload_n C.1 C.2.1 dX5_read_245 rfl (lv_at hl 3 rfl) ?_
        refine lv_iadd C.1 C.2.1 dX5_read_246 ?_
        refine lv_iload C.1 C.2.1 dX5_read_247 (lv_at hl 5 rfl) ?_
        obtain ⟨h20, h⟩ := h
        refine x_iast C hW g_46 h20 dX5_read_249 (fun u21 H locs e21 hW => ?_)
        have h := nxt_get h e21
        refine lv_aload_n C.1 C.2.1 dX5_read_250 rfl (lv_at hl 1 rfl) ?_
        refine fg_X5_36 C hW dX5_read_251 ?_
        refine lv_bipush (v := 7) C.1 C.2.1 dX5_read_254 (by decide) ?_
        refine lv_iload_n C.1 C.2.1 dX5_read_256 rfl (lv_at hl 3 rfl) ?_
        refine lv_iadd C.1 C.2.1 dX5_read_257 ?_
        refine lv_iload C.1 C.2.1 dX5_read_258 (lv_at hl 6 rfl) ?_
        obtain ⟨h22, h⟩ := h
        refine x_iast C hW g_47 h22 dX5_read_260 (fun u23 H locs e23 hW => ?_)
        have h := nxt_get h e23
        refine lv_aload_n C.1 C.2.1 dX5_read_261 rfl (lv_at hl 1 rfl) ?_
        refine fg_X5_39 C hW dX5_read_262 ?_
        refine lv_bipush (v := 7) C.1 C.2.1 dX5_read_265 (by decide) ?_
        refine lv_iload_n C.1 C.2.1 dX5_read_267 rfl (lv_at hl 3 rfl) ?_
        refine lv_iadd C.1 C.2.1 dX5_read_268 ?_
        refine lv_iload C.1 C.2.1 dX5_read_269 (lv_at hl 7 rfl) ?_
        obtain ⟨h24, h⟩ := h
        refine x_iast C hW g_48 h24 dX5_read_271 (fun u25 H locs e25 hW => ?_)
        have h := nxt_get h e25
        refine lv_aload_n C.1 C.2.1 dX5_read_272 rfl (lv_at hl 1 rfl) ?_
        refine fg_X5_42 C hW dX5_read_273 ?_
        refine lv_bipush (v := 7) C.1 C.2.1 dX5_read_276 (by decide) ?_
        refine lv_iload_n C.1 C.2.1 dX5_read_278 rfl (lv_at hl 3 rfl) ?_
        refine lv_iadd C.1 C.2.1 dX5_read_279 ?_
        refine lv_iload C.1 C.2.1 dX5_read_280 (lv_at hl 0 rfl) ?_
        obtain ⟨h26, h⟩ := h
        refine x_iast C hW g_49 h26 dX5_read_282 (fun u27 H locs e27 hW => ?_)
        have h := nxt_get h e27
        refine lv_iinc (v := (v2 + 1)) (lv' := [(2, .int (v2 + 1)), (8, .int r18), (0, .ref (gad g 39)), (1, .int p1), (3, .int v3), (4, .int v4), (5, .int v5), (6, .int v6), (7, .int v7)]) C.1 C.2.1 dX5_read_283 hl (k := 3) rfl rfl (by decide) rfl (fun ls hl => ?_)
        refine lv_iinc (v := (v3 + 4)) (lv' := [(3, .int (v3 + 4)), (2, .int (v2 + 1)), (8, .int r18), (0, .ref (gad g 39)), (1, .int p1), (4, .int v4), (5, .int v5), (6, .int v6), (7, .int v7)]) C.1 C.2.1 dX5_read_286 hl (k := 4) rfl rfl (by decide) rfl (fun ls hl => ?_)
        refine lv_goto (tgt := 4) C.1 C.2.1 dX5_read_289 (by decide) ?_
        exact hK4 (v2 + 1) (v3 + 4) u27 _ _ _ h hW (lv_sub hl [3, 4, 1, 0] rfl)
      · have h := h.2 c19
        refine lv_bipush (v := 100) C.1 C.2.1 dX5_read_232 (by decide) ?_
        refine lv_iload_n C.1 C.2.1 dX5_read_234 rfl (lv_at hl 4 rfl) ?_
        refine lv_iadd C.1 C.2.1 dX5_read_235 ?_
        refine lv_iconst (v := 3) C.1 C.2.1 dX5_read_236 (by decide) ?_
        refine lv_iadd C.1 C.2.1 dX5_read_237 ?_
        exact x_iret C hW h dX5_read_238
    · have h := h.2 c17
      refine lv_bipush (v := 100) C.1 C.2.1 dX5_read_206 (by decide) ?_
      refine lv_iload_n C.1 C.2.1 dX5_read_208 rfl (lv_at hl 3 rfl) ?_
      refine lv_iadd C.1 C.2.1 dX5_read_209 ?_
      refine lv_iconst (v := 2) C.1 C.2.1 dX5_read_210 (by decide) ?_
      refine lv_iadd C.1 C.2.1 dX5_read_211 ?_
      exact x_iret C hW h dX5_read_212
  · have h := h.2 c16
    refine lv_iload C.1 C.2.1 dX5_read_153 (lv_at hl 7 rfl) ?_
    refine lv_if_eq (tgt := 192) C.1 C.2.1 dX5_read_155 (by decide) (fun c28 => ?_) (fun c28 => ?_)
    · have h := h.1 c28
      exact k_X5_read_J192 C hK4 hK147 v2 v3 v4 v5 v6 v8 u _ _ _ h hW (lv_sub hl [0, 1, 2, 3, 4, 5, 6, 8] rfl)
    · have h := h.2 c28
      refine lv_aload_n C.1 C.2.1 dX5_read_158 rfl (lv_at hl 0 rfl) ?_
      refine fg_X5_36 C hW dX5_read_159 ?_
      refine lv_bipush (v := 7) C.1 C.2.1 dX5_read_162 (by decide) ?_
      refine lv_iload C.1 C.2.1 dX5_read_164 (lv_at hl 8 rfl) ?_
      refine lv_iadd C.1 C.2.1 dX5_read_166 ?_
      obtain ⟨h29, h⟩ := h
      refine x_iald C hW g_47 h29 dX5_read_167 ?_
      refine lv_iload C.1 C.2.1 dX5_read_168 (lv_at hl 5 rfl) ?_
      refine lv_icmp_ne (tgt := 188) C.1 C.2.1 dX5_read_170 (by decide) (fun c30 => ?_) (fun c30 => ?_)
      · have h := h.1 c30
        exact k_X5_read_J188 C hK4 hK147 v2 v3 v4 v5 v6 v8 u _ _ _ h hW (lv_sub hl [0, 1, 2, 3, 4, 5, 6, 8] rfl)
      · have h := h.2 c30
        refine lv_aload_n C.1 C.2.1 dX5_read_173 rfl (lv_at hl 0 rfl) ?_
        refine fg_X5_39 C hW dX5_read_174 ?_
        refine lv_bipush (v := 7) C.1 C.2.1 dX5_read_177 (by decide) ?_
        refine lv_iload C.1 C.2.1 dX5_read_179 (lv_at hl 8 rfl) ?_
        refine lv_iadd C.1 C.2.1 dX5_read_181 ?_
        obtain ⟨h31, h⟩ := h
        refine x_iald C hW g_48 h31 dX5_read_182 ?_
        refine lv_iload C.1 C.2.1 dX5_read_183 (lv_at hl 6 rfl) ?_
        refine lv_icmp_eq (tgt := 192) C.1 C.2.1 dX5_read_185 (by decide) (fun c32 => ?_) (fun c32 => ?_)
        · have h := h.1 c32
          exact k_X5_read_J192 C hK4 hK147 v2 v3 v4 v5 v6 v8 u _ _ _ h hW (lv_sub hl [0, 1, 2, 3, 4, 5, 6, 8] rfl)
        · have h := h.2 c32
          exact k_X5_read_J188 C hK4 hK147 v2 v3 v4 v5 v6 v8 u _ _ _ h hW (lv_sub hl [0, 1, 2, 3, 4, 5, 6, 8] rfl)
theorem k_X5_read_L147 {p : Program} {l : Launch} {e : Env} {s : State} {m : MethodId} {args : Array Value} {below : List Frame} {meth : Method} {c : Code} {g : GG} {A : Nat → Prop} {p1 : Int32} {Q : Int32 → St → Prop} (C : MC p s m args meth c cX5_read 9 RX5 (some .int) g A) {K4 : Int32 → Int32 → St → Prop} (hK4 : ∀ (v2 : Int32) (v3 : Int32) (u : St) (H : Heap) (locs : List Loc) (ls : Array Slot), K4 v2 v3 u → WD g A s u H locs → lv_has ls 9 [(0, .ref (gad g 39)), (1, .int p1), (2, .int v2), (3, .int v3)] → W p l e rm_X5_read s m args below meth c H locs 0 0 (MQ below (va_Qi Q (WQ g) A) args s 0 0 A) (F0 m 4 ls [])) : ∀ (n : Nat), ∀ (v2 : Int32) (v3 : Int32) (v4 : Int32) (v5 : Int32) (v6 : Int32) (v7 : Int32) (v8 : Int32) (u : St) (H : Heap) (locs : List Loc) (ls : Array Slot), wp_X5_read_L147 p1 Q K4 n v2 v3 v4 v5 v6 v7 v8 u → WD g A s u H locs → lv_has ls 9 [(0, .ref (gad g 39)), (1, .int p1), (2, .int v2), (3, .int v3), (4, .int v4), (5, .int v5), (6, .int v6), (7, .int v7), (8, .int v8)] → W p l e rm_X5_read s m args below meth c H locs 0 0 (MQ below (va_Qi Q (WQ g) A) args s 0 0 A) (F0 m 147 ls []) := by
  intro n
  induction n with
  | zero => intro v2 v3 v4 v5 v6 v7 v8 u H locs ls h; exact False.elim h
  | succ n ih => exact k_X5_read_B147 (p1 := p1) C hK4 ih
set_option maxRecDepth 100000 in
theorem k_X5_read_J142 {p : Program} {l : Launch} {e : Env} {s : State} {m : MethodId} {args : Array Value} {below : List Frame} {meth : Method} {c : Code} {g : GG} {A : Nat → Prop} {p1 : Int32} {Q : Int32 → St → Prop} (C : MC p s m args meth c cX5_read 9 RX5 (some .int) g A) {K4 : Int32 → Int32 → St → Prop} (hK4 : ∀ (v2 : Int32) (v3 : Int32) (u : St) (H : Heap) (locs : List Loc) (ls : Array Slot), K4 v2 v3 u → WD g A s u H locs → lv_has ls 9 [(0, .ref (gad g 39)), (1, .int p1), (2, .int v2), (3, .int v3)] → W p l e rm_X5_read s m args below meth c H locs 0 0 (MQ below (va_Qi Q (WQ g) A) args s 0 0 A) (F0 m 4 ls [])) : ∀ (v2 : Int32) (v3 : Int32) (v4 : Int32) (v5 : Int32) (v6 : Int32) (t0 : Int32) (u : St) (H : Heap) (locs : List Loc) (ls : Array Slot), wp_X5_read_J142 p1 Q K4 v2 v3 v4 v5 v6 t0 u → WD g A s u H locs → lv_has ls 9 [(0, .ref (gad g 39)), (1, .int p1), (2, .int v2), (3, .int v3), (4, .int v4), (5, .int v5), (6, .int v6)] → W p l e rm_X5_read s m args below meth c H locs 0 0 (MQ below (va_Qi Q (WQ g) A) args s 0 0 A) (F0 m 142 ls [.int t0]) := by
  intro v2 v3 v4 v5 v6 t0 u H locs ls h hW hl
  refine lv_istore (lv' := [(7, .int t0), (0, .ref (gad g 39)), (1, .int p1), (2, .int v2), (3, .int v3), (4, .int v4), (5, .int v5), (6, .int v6)]) C.1 C.2.1 dX5_read_142 hl (by decide) rfl (fun ls hl => ?_)
  refine lv_iconst (v := 0) C.1 C.2.1 dX5_read_144 (by decide) ?_
  refine lv_istore (lv' := [(8, .int 0), (7, .int t0), (0, .ref (gad g 39)), (1, .int p1), (2, .int v2), (3, .int v3), (4, .int v4), (5, .int v5), (6, .int v6)]) C.1 C.2.1 dX5_read_145 hl (by decide) rfl (fun ls hl => ?_)
  obtain ⟨n, h⟩ := h
  exact k_X5_read_L147 C hK4 n v2 v3 v4 v5 v6 t0 0 u _ _ _ h hW (lv_sub hl [2, 3, 4, 5, 6, 7, 8, 1, 0] rfl)
set_option maxRecDepth 100000 in
theorem k_X5_read_J36 {p : Program} {l : Launch} {e : Env} {s : State} {m : MethodId} {args : Array Value} {below : List Frame} {meth : Method} {c : Code} {g : GG} {A : Nat → Prop} {p1 : Int32} {Q : Int32 → St → Prop} (C : MC p s m args meth c cX5_read 9 RX5 (some .int) g A) {K4 : Int32 → Int32 → St → Prop} (hK4 : ∀ (v2 : Int32) (v3 : Int32) (u : St) (H : Heap) (locs : List Loc) (ls : Array Slot), K4 v2 v3 u → WD g A s u H locs → lv_has ls 9 [(0, .ref (gad g 39)), (1, .int p1), (2, .int v2), (3, .int v3)] → W p l e rm_X5_read s m args below meth c H locs 0 0 (MQ below (va_Qi Q (WQ g) A) args s 0 0 A) (F0 m 4 ls [])) : ∀ (v2 : Int32) (v3 : Int32) (u : St) (H : Heap) (locs : List Loc) (ls : Array Slot), wp_X5_read_J36 p1 Q K4 v2 v3 u → WD g A s u H locs → lv_has ls 9 [(0, .ref (gad g 39)), (1, .int p1), (2, .int v2), (3, .int v3)] → W p l e rm_X5_read s m args below meth c H locs 0 0 (MQ below (va_Qi Q (WQ g) A) args s 0 0 A) (F0 m 36 ls []) := by
  intro v2 v3 u H locs ls h hW hl
  refine lv_iload_n C.1 C.2.1 dX5_read_36 rfl (lv_at hl 3 rfl) ?_
  refine lv_aload_n C.1 C.2.1 dX5_read_37 rfl (lv_at hl 0 rfl) ?_
  refine fg_X5_23 C hW dX5_read_38 ?_
  refine lv_iload_n C.1 C.2.1 dX5_read_41 rfl (lv_at hl 1 rfl) ?_
  obtain ⟨h5, h⟩ := h
  refine x_iald C hW g_43 h5 dX5_read_42 ?_
  refine lv_icmp_ne (tgt := 60) C.1 C.2.1 dX5_read_43 (by decide) (fun c6 => ?_) (fun c6 => ?_)
  · have h := h.1 c6
    refine lv_aload_n C.1 C.2.1 dX5_read_60 rfl (lv_at hl 0 rfl) ?_
    refine fg_X5_26 C hW dX5_read_61 ?_
    refine lv_bipush (v := 60) C.1 C.2.1 dX5_read_64 (by decide) ?_
    refine lv_iload_n C.1 C.2.1 dX5_read_66 rfl (lv_at hl 1 rfl) ?_
    refine lv_imul C.1 C.2.1 dX5_read_67 ?_
    refine lv_iload_n C.1 C.2.1 dX5_read_68 rfl (lv_at hl 3 rfl) ?_
    refine lv_iadd C.1 C.2.1 dX5_read_69 ?_
    obtain ⟨h7, h⟩ := h
    refine x_bald C hW g_44 h7 dX5_read_70 ?_
    refine x_Si (rest := []) C hW (c_X5_kindOf l g h) km_X5_kindOf qm_X5_106 ⟨rfl, rfl⟩ (by decide) rfl hl.1 rfl (Nat.le_of_ble_eq_true rfl) ⟨Nat.zero_le _, Nat.zero_le _⟩ dX5_read_71 (fun r8 u8 H locs h hW => ?_)
    refine lv_istore (lv' := [(4, .int r8), (0, .ref (gad g 39)), (1, .int p1), (2, .int v2), (3, .int v3)]) C.1 C.2.1 dX5_read_74 hl (by decide) rfl (fun ls hl => ?_)
    refine lv_iload C.1 C.2.1 dX5_read_76 (lv_at hl 0 rfl) ?_
    refine lv_bipush (v := (-9)) C.1 C.2.1 dX5_read_78 (by decide) ?_
    refine lv_icmp_eq (tgt := 89) C.1 C.2.1 dX5_read_80 (by decide) (fun c9 => ?_) (fun c9 => ?_)
    · have h := h.1 c9
      refine lv_bipush (v := 100) C.1 C.2.1 dX5_read_89 (by decide) ?_
      refine lv_iload_n C.1 C.2.1 dX5_read_91 rfl (lv_at hl 4 rfl) ?_
      refine lv_iadd C.1 C.2.1 dX5_read_92 ?_
      exact x_iret C hW h dX5_read_93
    · have h := h.2 c9
      refine lv_iload_n C.1 C.2.1 dX5_read_83 rfl (lv_at hl 3 rfl) ?_
      refine lv_bipush (v := 7) C.1 C.2.1 dX5_read_84 (by decide) ?_
      refine lv_icmp_ne (tgt := 94) C.1 C.2.1 dX5_read_86 (by decide) (fun c10 => ?_) (fun c10 => ?_)
      · have h := h.1 c10
        refine lv_aload_n C.1 C.2.1 dX5_read_94 rfl (lv_at hl 1 rfl) ?_
        refine lv_iload_n C.1 C.2.1 dX5_read_95 rfl (lv_at hl 2 rfl) ?_
        refine lv_iload_n C.1 C.2.1 dX5_read_96 rfl (lv_at hl 4 rfl) ?_
        refine lv_iconst (v := 1) C.1 C.2.1 dX5_read_97 (by decide) ?_
        refine lv_iadd C.1 C.2.1 dX5_read_98 ?_
        refine lv_iconst (v := 3) C.1 C.2.1 dX5_read_99 (by decide) ?_
        refine x_Vi (rest := []) C hW (c_X5_figure l g h) km_X5_figure oModel rfl qm_X5_109 ⟨rfl, rfl⟩ (by decide) rfl hl.1 rfl (Nat.le_of_ble_eq_true rfl) ⟨Nat.zero_le _, Nat.zero_le _⟩ dX5_read_100 (fun r11 u11 H locs h hW => ?_)
        refine lv_istore (lv' := [(5, .int r11), (4, .int r8), (0, .ref (gad g 39)), (1, .int p1), (2, .int v2), (3, .int v3)]) C.1 C.2.1 dX5_read_103 hl (by decide) rfl (fun ls hl => ?_)
        refine lv_iload C.1 C.2.1 dX5_read_105 (lv_at hl 0 rfl) ?_
        refine lv_bipush (v := (-9)) C.1 C.2.1 dX5_read_107 (by decide) ?_
        refine lv_icmp_ne (tgt := 119) C.1 C.2.1 dX5_read_109 (by decide) (fun c12 => ?_) (fun c12 => ?_)
        · have h := h.1 c12
          refine lv_aload_n C.1 C.2.1 dX5_read_119 rfl (lv_at hl 2 rfl) ?_
          refine lv_iload_n C.1 C.2.1 dX5_read_120 rfl (lv_at hl 3 rfl) ?_
          refine lv_iload_n C.1 C.2.1 dX5_read_121 rfl (lv_at hl 5 rfl) ?_
          refine lv_iconst (v := 2) C.1 C.2.1 dX5_read_122 (by decide) ?_
          refine lv_iadd C.1 C.2.1 dX5_read_123 ?_
          refine lv_iconst (v := 5) C.1 C.2.1 dX5_read_124 (by decide) ?_
          refine x_Vi (rest := []) C hW (c_X5_figure l g h) km_X5_figure oModel rfl qm_X5_109 ⟨rfl, rfl⟩ (by decide) rfl hl.1 rfl (Nat.le_of_ble_eq_true rfl) ⟨Nat.zero_le _, Nat.zero_le _⟩ dX5_read_125 (fun r13 u13 H locs h hW => ?_)
          refine lv_istore (lv' := [(6, .int r13), (5, .int r11), (4, .int r8), (0, .ref (gad g 39)), (1, .int p1), (2, .int v2), (3, .int v3)]) C.1 C.2.1 dX5_read_128 hl (by decide) rfl (fun ls hl => ?_)
          refine lv_iload C.1 C.2.1 dX5_read_130 (lv_at hl 0 rfl) ?_
          refine lv_bipush (v := (-9)) C.1 C.2.1 dX5_read_132 (by decide) ?_
          refine lv_icmp_eq (tgt := 141) C.1 C.2.1 dX5_read_134 (by decide) (fun c14 => ?_) (fun c14 => ?_)
          · have h := h.1 c14
            refine lv_iconst (v := 0) C.1 C.2.1 dX5_read_141 (by decide) ?_
            exact k_X5_read_J142 C hK4 v2 v3 r8 r11 r13 0 u13 _ _ _ h hW (lv_sub hl [3, 4, 5, 6, 2, 1, 0] rfl)
          · have h := h.2 c14
            refine lv_iconst (v := 1) C.1 C.2.1 dX5_read_137 (by decide) ?_
            refine lv_goto (tgt := 142) C.1 C.2.1 dX5_read_138 (by decide) ?_
            exact k_X5_read_J142 C hK4 v2 v3 r8 r11 r13 1 u13 _ _ _ h hW (lv_sub hl [3, 4, 5, 6, 2, 1, 0] rfl)
        · have h := h.2 c12
          refine lv_bipush (v := 100) C.1 C.2.1 dX5_read_112 (by decide) ?_
          refine lv_iload_n C.1 C.2.1 dX5_read_114 rfl (lv_at hl 5 rfl) ?_
          refine lv_iadd C.1 C.2.1 dX5_read_115 ?_
          refine lv_iconst (v := 1) C.1 C.2.1 dX5_read_116 (by decide) ?_
          refine lv_iadd C.1 C.2.1 dX5_read_117 ?_
          exact x_iret C hW h dX5_read_118
      · have h := h.2 c10
        refine lv_bipush (v := 100) C.1 C.2.1 dX5_read_89 (by decide) ?_
        refine lv_iload_n C.1 C.2.1 dX5_read_91 rfl (lv_at hl 4 rfl) ?_
        refine lv_iadd C.1 C.2.1 dX5_read_92 ?_
        exact x_iret C hW h dX5_read_93
  · have h := h.2 c6
    refine lv_iload_n C.1 C.2.1 dX5_read_46 rfl (lv_at hl 2 rfl) ?_
    refine lv_iconst (v := 2) C.1 C.2.1 dX5_read_47 (by decide) ?_
    refine lv_icmp_ge (tgt := 58) C.1 C.2.1 dX5_read_48 (by decide) (fun c15 => ?_) (fun c15 => ?_)
    · have h := h.1 c15
      refine lv_iload_n C.1 C.2.1 dX5_read_58 rfl (lv_at hl 2 rfl) ?_
      exact x_iret C hW h dX5_read_59
    · have h := h.2 c15
      refine lv_bipush (v := 100) C.1 C.2.1 dX5_read_51 (by decide) ?_
      refine lv_iload_n C.1 C.2.1 dX5_read_53 rfl (lv_at hl 3 rfl) ?_
      refine lv_iadd C.1 C.2.1 dX5_read_54 ?_
      refine lv_goto (tgt := 59) C.1 C.2.1 dX5_read_55 (by decide) ?_
      exact x_iret C hW h dX5_read_59
set_option maxRecDepth 100000 in
theorem k_X5_read_B4 {p : Program} {l : Launch} {e : Env} {s : State} {m : MethodId} {args : Array Value} {below : List Frame} {meth : Method} {c : Code} {g : GG} {A : Nat → Prop} {p1 : Int32} {Q : Int32 → St → Prop} (C : MC p s m args meth c cX5_read 9 RX5 (some .int) g A) {K4 : Int32 → Int32 → St → Prop} (hK4 : ∀ (v2 : Int32) (v3 : Int32) (u : St) (H : Heap) (locs : List Loc) (ls : Array Slot), K4 v2 v3 u → WD g A s u H locs → lv_has ls 9 [(0, .ref (gad g 39)), (1, .int p1), (2, .int v2), (3, .int v3)] → W p l e rm_X5_read s m args below meth c H locs 0 0 (MQ below (va_Qi Q (WQ g) A) args s 0 0 A) (F0 m 4 ls [])) : ∀ (v2 : Int32) (v3 : Int32) (u : St) (H : Heap) (locs : List Loc) (ls : Array Slot), wp_X5_read_B4 p1 Q K4 v2 v3 u → WD g A s u H locs → lv_has ls 9 [(0, .ref (gad g 39)), (1, .int p1), (2, .int v2), (3, .int v3)] → W p l e rm_X5_read s m args below meth c H locs 0 0 (MQ below (va_Qi Q (WQ g) A) args s 0 0 A) (F0 m 4 ls []) := by
  intro v2 v3 u H locs ls h hW hl
  refine lv_iload_n C.1 C.2.1 dX5_read_4 rfl (lv_at hl 3 rfl) ?_
  refine lv_aload_n C.1 C.2.1 dX5_read_5 rfl (lv_at hl 0 rfl) ?_
  refine fg_X5_23 C hW dX5_read_6 ?_
  refine lv_iload_n C.1 C.2.1 dX5_read_9 rfl (lv_at hl 1 rfl) ?_
  obtain ⟨h1, h⟩ := h
  refine x_iald C hW g_43 h1 dX5_read_10 ?_
  refine lv_icmp_ge (tgt := 36) C.1 C.2.1 dX5_read_11 (by decide) (fun c2 => ?_) (fun c2 => ?_)
  · have h := h.1 c2
    exact k_X5_read_J36 C hK4 v2 v3 u _ _ _ h hW hl
  · have h := h.2 c2
    refine lv_aload_n C.1 C.2.1 dX5_read_14 rfl (lv_at hl 0 rfl) ?_
    refine fg_X5_26 C hW dX5_read_15 ?_
    refine lv_bipush (v := 60) C.1 C.2.1 dX5_read_18 (by decide) ?_
    refine lv_iload_n C.1 C.2.1 dX5_read_20 rfl (lv_at hl 1 rfl) ?_
    refine lv_imul C.1 C.2.1 dX5_read_21 ?_
    refine lv_iload_n C.1 C.2.1 dX5_read_22 rfl (lv_at hl 3 rfl) ?_
    refine lv_iadd C.1 C.2.1 dX5_read_23 ?_
    obtain ⟨h3, h⟩ := h
    refine x_bald C hW g_44 h3 dX5_read_24 ?_
    refine lv_bipush (v := 32) C.1 C.2.1 dX5_read_25 (by decide) ?_
    refine lv_icmp_ne (tgt := 36) C.1 C.2.1 dX5_read_27 (by decide) (fun c4 => ?_) (fun c4 => ?_)
    · have h := h.1 c4
      exact k_X5_read_J36 C hK4 v2 v3 u _ _ _ h hW hl
    · have h := h.2 c4
      refine lv_iinc (v := (v3 + 1)) (lv' := [(3, .int (v3 + 1)), (0, .ref (gad g 39)), (1, .int p1), (2, .int v2)]) C.1 C.2.1 dX5_read_30 hl (k := 3) rfl rfl (by decide) rfl (fun ls hl => ?_)
      refine lv_goto (tgt := 4) C.1 C.2.1 dX5_read_33 (by decide) ?_
      exact hK4 v2 (v3 + 1) u _ _ _ h hW (lv_sub hl [1, 2, 3, 0] rfl)
theorem k_X5_read_L4 {p : Program} {l : Launch} {e : Env} {s : State} {m : MethodId} {args : Array Value} {below : List Frame} {meth : Method} {c : Code} {g : GG} {A : Nat → Prop} {p1 : Int32} {Q : Int32 → St → Prop} (C : MC p s m args meth c cX5_read 9 RX5 (some .int) g A) : ∀ (n : Nat), ∀ (v2 : Int32) (v3 : Int32) (u : St) (H : Heap) (locs : List Loc) (ls : Array Slot), wp_X5_read_L4 p1 Q n v2 v3 u → WD g A s u H locs → lv_has ls 9 [(0, .ref (gad g 39)), (1, .int p1), (2, .int v2), (3, .int v3)] → W p l e rm_X5_read s m args below meth c H locs 0 0 (MQ below (va_Qi Q (WQ g) A) args s 0 0 A) (F0 m 4 ls []) := by
  intro n
  induction n with
  | zero => intro v2 v3 u H locs ls h; exact False.elim h
  | succ n ih => exact k_X5_read_B4 (p1 := p1) C ih
set_option maxRecDepth 100000 in
theorem c_X5_read (l : Launch) (g : GG) {p1 : Int32} {u : St} {Q : Int32 → St → Prop} (h : wp_X5_read p1 u Q) : CI l yX5_read cX5_read 9 (some .int) rm_X5_read g [.ref (gad g 39), .int p1] u Q := by
  refine ent (own := RX5) (Qc := va_Qi Q (WQ g)) (by decide) rfl (Nat.le_of_ble_eq_true rfl) ?_
  intro p e s m below meth c A ls C hl hW
  have hl : lv_has ls 9 [(0, .ref (gad g 39)), (1, .int p1)] := hl
  unfold wp_X5_read at h
  refine lv_iconst (v := 0) C.1 C.2.1 dX5_read_0 (by decide) ?_
  refine lv_istore_n (lv' := [(2, .int 0), (0, .ref (gad g 39)), (1, .int p1)]) C.1 C.2.1 dX5_read_1 rfl hl (by decide) rfl (fun ls hl => ?_)
  refine lv_iconst (v := 0) C.1 C.2.1 dX5_read_2 (by decide) ?_
  refine lv_istore_n (lv' := [(3, .int 0), (2, .int 0), (0, .ref (gad g 39)), (1, .int p1)]) C.1 C.2.1 dX5_read_3 rfl hl (by decide) rfl (fun ls hl => ?_)
  obtain ⟨n, h⟩ := h
  exact k_X5_read_L4 C n 0 0 u _ _ _ h hW (lv_sub hl [2, 3, 1, 0] rfl)
set_option maxRecDepth 100000 in
theorem k_X5_board_B148 {p : Program} {l : Launch} {e : Env} {s : State} {m : MethodId} {args : Array Value} {below : List Frame} {meth : Method} {c : Code} {g : GG} {A : Nat → Prop} {p1 : Int32} {Q : Int32 → St → Prop} (C : MC p s m args meth c cX5_board 4 RX5 (some .int) g A) {K148 : Int32 → St → Prop} (hK148 : ∀ (v3 : Int32) (u : St) (H : Heap) (locs : List Loc) (ls : Array Slot), K148 v3 u → WD g A s u H locs → lv_has ls 4 [(0, .ref (gad g 39)), (3, .int v3)] → W p l e rm_X5_board s m args below meth c H locs 0 0 (MQ below (va_Qi Q (WQ g) A) args s 0 0 A) (F0 m 148 ls [])) : ∀ (v3 : Int32) (u : St) (H : Heap) (locs : List Loc) (ls : Array Slot), wp_X5_board_B148 p1 Q K148 v3 u → WD g A s u H locs → lv_has ls 4 [(0, .ref (gad g 39)), (3, .int v3)] → W p l e rm_X5_board s m args below meth c H locs 0 0 (MQ below (va_Qi Q (WQ g) A) args s 0 0 A) (F0 m 148 ls []) := by
  intro v3 u H locs ls h hW hl
  refine lv_iload_n C.1 C.2.1 dX5_board_148 rfl (lv_at hl 1 rfl) ?_
  refine lv_iconst (v := 3) C.1 C.2.1 dX5_board_149 (by decide) ?_
  refine lv_icmp_ge (tgt := 166) C.1 C.2.1 dX5_board_150 (by decide) (fun c26 => ?_) (fun c26 => ?_)
  · have h := h.1 c26
    refine lv_aload_n C.1 C.2.1 dX5_board_166 rfl (lv_at hl 0 rfl) ?_
    refine fg_X5_116 C hW dX5_board_167 ?_
    exact x_iret C hW h dX5_board_170
  · have h := h.2 c26
    refine lv_aload_n C.1 C.2.1 dX5_board_153 rfl (lv_at hl 0 rfl) ?_
    refine fg_X5_51 C hW dX5_board_154 ?_
    refine lv_iload_n C.1 C.2.1 dX5_board_157 rfl (lv_at hl 1 rfl) ?_
    refine lv_iconst (v := (-1)) C.1 C.2.1 dX5_board_158 (by decide) ?_
    obtain ⟨h27, h⟩ := h
    refine x_iast C hW g_52 h27 dX5_board_159 (fun u28 H locs e28 hW => ?_)
    have h := nxt_get h e28
    refine lv_iinc (v := (v3 + 1)) (lv' := [(3, .int (v3 + 1)), (0, .ref (gad g 39))]) C.1 C.2.1 dX5_board_160 hl (k := 1) rfl rfl (by decide) rfl (fun ls hl => ?_)
    refine lv_goto (tgt := 148) C.1 C.2.1 dX5_board_163 (by decide) ?_
    exact hK148 (v3 + 1) u28 _ _ _ h hW (lv_sub hl [1, 0] rfl)
theorem k_X5_board_L148 {p : Program} {l : Launch} {e : Env} {s : State} {m : MethodId} {args : Array Value} {below : List Frame} {meth : Method} {c : Code} {g : GG} {A : Nat → Prop} {p1 : Int32} {Q : Int32 → St → Prop} (C : MC p s m args meth c cX5_board 4 RX5 (some .int) g A) : ∀ (n : Nat), ∀ (v3 : Int32) (u : St) (H : Heap) (locs : List Loc) (ls : Array Slot), wp_X5_board_L148 p1 Q n v3 u → WD g A s u H locs → lv_has ls 4 [(0, .ref (gad g 39)), (3, .int v3)] → W p l e rm_X5_board s m args below meth c H locs 0 0 (MQ below (va_Qi Q (WQ g) A) args s 0 0 A) (F0 m 148 ls []) := by
  intro n
  induction n with
  | zero => intro v3 u H locs ls h; exact False.elim h
  | succ n ih => exact k_X5_board_B148 (p1 := p1) C ih
set_option maxRecDepth 100000 in
theorem k_X5_board_B127 {p : Program} {l : Launch} {e : Env} {s : State} {m : MethodId} {args : Array Value} {below : List Frame} {meth : Method} {c : Code} {g : GG} {A : Nat → Prop} {p1 : Int32} {Q : Int32 → St → Prop} (C : MC p s m args meth c cX5_board 4 RX5 (some .int) g A) {K127 : Int32 → St → Prop} (hK127 : ∀ (v3 : Int32) (u : St) (H : Heap) (locs : List Loc) (ls : Array Slot), K127 v3 u → WD g A s u H locs → lv_has ls 4 [(0, .ref (gad g 39)), (3, .int v3)] → W p l e rm_X5_board s m args below meth c H locs 0 0 (MQ below (va_Qi Q (WQ g) A) args s 0 0 A) (F0 m 127 ls [])) : ∀ (v3 : Int32) (u : St) (H : Heap) (locs : List Loc) (ls : Array Slot), wp_X5_board_B127 p1 Q K127 v3 u → WD g A s u H locs → lv_has ls 4 [(0, .ref (gad g 39)), (3, .int v3)] → W p l e rm_X5_board s m args below meth c H locs 0 0 (MQ below (va_Qi Q (WQ g) A) args s 0 0 A) (F0 m 127 ls []) := by
  intro v3 u H locs ls h hW hl
  refine lv_iload_n C.1 C.2.1 dX5_board_127 rfl (lv_at hl 1 rfl) ?_
  refine lv_bipush (v := 10) C.1 C.2.1 dX5_board_128 (by decide) ?_
  refine lv_icmp_ge (tgt := 146) C.1 C.2.1 dX5_board_130 (by decide) (fun c23 => ?_) (fun c23 => ?_)
  · have h := h.1 c23
    refine lv_iconst (v := 0) C.1 C.2.1 dX5_board_146 (by decide) ?_
    refine lv_istore_n (lv' := [(3, .int 0), (0, .ref (gad g 39))]) C.1 C.2.1 dX5_board_147 rfl hl (by decide) rfl (fun ls hl => ?_)
    obtain ⟨n, h⟩ := h
    exact k_X5_board_L148 C n 0 u _ _ _ h hW (lv_sub hl [1, 0] rfl)
  · have h := h.2 c23
    refine lv_aload_n C.1 C.2.1 dX5_board_133 rfl (lv_at hl 0 rfl) ?_
    refine fg_X5_45 C hW dX5_board_134 ?_
    refine lv_iload_n C.1 C.2.1 dX5_board_137 rfl (lv_at hl 1 rfl) ?_
    refine lv_iconst (v := 0) C.1 C.2.1 dX5_board_138 (by decide) ?_
    obtain ⟨h24, h⟩ := h
    refine x_iast C hW g_50 h24 dX5_board_139 (fun u25 H locs e25 hW => ?_)
    have h := nxt_get h e25
    refine lv_iinc (v := (v3 + 1)) (lv' := [(3, .int (v3 + 1)), (0, .ref (gad g 39))]) C.1 C.2.1 dX5_board_140 hl (k := 1) rfl rfl (by decide) rfl (fun ls hl => ?_)
    refine lv_goto (tgt := 127) C.1 C.2.1 dX5_board_143 (by decide) ?_
    exact hK127 (v3 + 1) u25 _ _ _ h hW (lv_sub hl [1, 0] rfl)
theorem k_X5_board_L127 {p : Program} {l : Launch} {e : Env} {s : State} {m : MethodId} {args : Array Value} {below : List Frame} {meth : Method} {c : Code} {g : GG} {A : Nat → Prop} {p1 : Int32} {Q : Int32 → St → Prop} (C : MC p s m args meth c cX5_board 4 RX5 (some .int) g A) : ∀ (n : Nat), ∀ (v3 : Int32) (u : St) (H : Heap) (locs : List Loc) (ls : Array Slot), wp_X5_board_L127 p1 Q n v3 u → WD g A s u H locs → lv_has ls 4 [(0, .ref (gad g 39)), (3, .int v3)] → W p l e rm_X5_board s m args below meth c H locs 0 0 (MQ below (va_Qi Q (WQ g) A) args s 0 0 A) (F0 m 127 ls []) := by
  intro n
  induction n with
  | zero => intro v3 u H locs ls h; exact False.elim h
  | succ n ih => exact k_X5_board_B127 (p1 := p1) C ih
set_option maxRecDepth 100000 in
theorem k_X5_board_B46 {p : Program} {l : Launch} {e : Env} {s : State} {m : MethodId} {args : Array Value} {below : List Frame} {meth : Method} {c : Code} {g : GG} {A : Nat → Prop} {p1 : Int32} {Q : Int32 → St → Prop} (C : MC p s m args meth c cX5_board 4 RX5 (some .int) g A) {K46 : Int32 → St → Prop} (hK46 : ∀ (v3 : Int32) (u : St) (H : Heap) (locs : List Loc) (ls : Array Slot), K46 v3 u → WD g A s u H locs → lv_has ls 4 [(0, .ref (gad g 39)), (3, .int v3)] → W p l e rm_X5_board s m args below meth c H locs 0 0 (MQ below (va_Qi Q (WQ g) A) args s 0 0 A) (F0 m 46 ls [])) : ∀ (v3 : Int32) (u : St) (H : Heap) (locs : List Loc) (ls : Array Slot), wp_X5_board_B46 p1 Q K46 v3 u → WD g A s u H locs → lv_has ls 4 [(0, .ref (gad g 39)), (3, .int v3)] → W p l e rm_X5_board s m args below meth c H locs 0 0 (MQ below (va_Qi Q (WQ g) A) args s 0 0 A) (F0 m 46 ls []) := by
  intro v3 u H locs ls h hW hl
  refine lv_iload_n C.1 C.2.1 dX5_board_46 rfl (lv_at hl 1 rfl) ?_
  refine lv_aload_n C.1 C.2.1 dX5_board_47 rfl (lv_at hl 0 rfl) ?_
  refine fg_X5_116 C hW dX5_board_48 ?_
  refine lv_icmp_ge (tgt := 120) C.1 C.2.1 dX5_board_51 (by decide) (fun c9 => ?_) (fun c9 => ?_)
  · have h := h.1 c9
    refine lv_aload_n C.1 C.2.1 dX5_board_120 rfl (lv_at hl 0 rfl) ?_
    refine lv_iconst (v := 0) C.1 C.2.1 dX5_board_121 (by decide) ?_
    refine fp_X5_119 C hW dX5_board_122 (fun u10 H locs e10 hW => ?_)
    have h := nxt_get h e10
    refine lv_iconst (v := 0) C.1 C.2.1 dX5_board_125 (by decide) ?_
    refine lv_istore_n (lv' := [(3, .int 0), (0, .ref (gad g 39))]) C.1 C.2.1 dX5_board_126 rfl hl (by decide) rfl (fun ls hl => ?_)
    obtain ⟨n, h⟩ := h
    exact k_X5_board_L127 C n 0 u10 _ _ _ h hW (lv_sub hl [1, 0] rfl)
  · have h := h.2 c9
    refine lv_aload_n C.1 C.2.1 dX5_board_54 rfl (lv_at hl 0 rfl) ?_
    refine fg_X5_33 C hW dX5_board_55 ?_
    refine lv_iload_n C.1 C.2.1 dX5_board_58 rfl (lv_at hl 1 rfl) ?_
    refine lv_aload_n C.1 C.2.1 dX5_board_59 rfl (lv_at hl 0 rfl) ?_
    refine fg_X5_33 C hW dX5_board_60 ?_
    refine lv_bipush (v := 7) C.1 C.2.1 dX5_board_63 (by decide) ?_
    refine lv_iload_n C.1 C.2.1 dX5_board_65 rfl (lv_at hl 1 rfl) ?_
    refine lv_iadd C.1 C.2.1 dX5_board_66 ?_
    obtain ⟨h11, h⟩ := h
    refine x_iald C hW g_46 h11 dX5_board_67 ?_
    obtain ⟨h12, h⟩ := h
    refine x_iast C hW g_46 h12 dX5_board_68 (fun u13 H locs e13 hW => ?_)
    have h := nxt_get h e13
    refine lv_aload_n C.1 C.2.1 dX5_board_69 rfl (lv_at hl 0 rfl) ?_
    refine fg_X5_36 C hW dX5_board_70 ?_
    refine lv_iload_n C.1 C.2.1 dX5_board_73 rfl (lv_at hl 1 rfl) ?_
    refine lv_aload_n C.1 C.2.1 dX5_board_74 rfl (lv_at hl 0 rfl) ?_
    refine fg_X5_36 C hW dX5_board_75 ?_
    refine lv_bipush (v := 7) C.1 C.2.1 dX5_board_78 (by decide) ?_
    refine lv_iload_n C.1 C.2.1 dX5_board_80 rfl (lv_at hl 1 rfl) ?_
    refine lv_iadd C.1 C.2.1 dX5_board_81 ?_
    obtain ⟨h14, h⟩ := h
    refine x_iald C hW g_47 h14 dX5_board_82 ?_
    obtain ⟨h15, h⟩ := h
    refine x_iast C hW g_47 h15 dX5_board_83 (fun u16 H locs e16 hW => ?_)
    have h := nxt_get h e16
    refine lv_aload_n C.1 C.2.1 dX5_board_84 rfl (lv_at hl 0 rfl) ?_
    refine fg_X5_39 C hW dX5_board_85 ?_
    refine lv_iload_n C.1 C.2.1 dX5_board_88 rfl (lv_at hl 1 rfl) ?_
    refine lv_aload_n C.1 C.2.1 dX5_board_89 rfl (lv_at hl 0 rfl) ?_
    refine fg_X5_39 C hW dX5_board_90 ?_
    refine lv_bipush (v := 7) C.1 C.2.1 dX5_board_93 (by decide) ?_
    refine lv_iload_n C.1 C.2.1 dX5_board_95 rfl (lv_at hl 1 rfl) ?_
    refine lv_iadd C.1 C.2.1 dX5_board_96 ?_
    obtain ⟨h17, h⟩ := h
    refine x_iald C hW g_48 h17 dX5_board_97 ?_
    obtain ⟨h18, h⟩ := h
    refine x_iast C hW g_48 h18 dX5_board_98 (fun u19 H locs e19 hW => ?_)
    have h := nxt_get h e19
    refine lv_aload_n C.1 C.2.1 dX5_board_99 rfl (lv_at hl 0 rfl) ?_
    refine fg_X5_42 C hW dX5_board_100 ?_
    refine lv_iload_n C.1 C.2.1 dX5_board_103 rfl (lv_at hl 1 rfl) ?_
    refine lv_aload_n C.1 C.2.1 dX5_board_104 rfl (lv_at hl 0 rfl) ?_
    refine fg_X5_42 C hW dX5_board_105 ?_
    refine lv_bipush (v := 7) C.1 C.2.1 dX5_board_108 (by decide) ?_
    refine lv_iload_n C.1 C.2.1 dX5_board_110 rfl (lv_at hl 1 rfl) ?_
    refine lv_iadd C.1 C.2.1 dX5_board_111 ?_
    obtain ⟨h20, h⟩ := h
    refine x_iald C hW g_49 h20 dX5_board_112 ?_
    obtain ⟨h21, h⟩ := h
    refine x_iast C hW g_49 h21 dX5_board_113 (fun u22 H locs e22 hW => ?_)
    have h := nxt_get h e22
    refine lv_iinc (v := (v3 + 1)) (lv' := [(3, .int (v3 + 1)), (0, .ref (gad g 39))]) C.1 C.2.1 dX5_board_114 hl (k := 1) rfl rfl (by decide) rfl (fun ls hl => ?_)
    refine lv_goto (tgt := 46) C.1 C.2.1 dX5_board_117 (by decide) ?_
    exact hK46 (v3 + 1) u22 _ _ _ h hW (lv_sub hl [1, 0] rfl)
theorem k_X5_board_L46 {p : Program} {l : Launch} {e : Env} {s : State} {m : MethodId} {args : Array Value} {below : List Frame} {meth : Method} {c : Code} {g : GG} {A : Nat → Prop} {p1 : Int32} {Q : Int32 → St → Prop} (C : MC p s m args meth c cX5_board 4 RX5 (some .int) g A) : ∀ (n : Nat), ∀ (v3 : Int32) (u : St) (H : Heap) (locs : List Loc) (ls : Array Slot), wp_X5_board_L46 p1 Q n v3 u → WD g A s u H locs → lv_has ls 4 [(0, .ref (gad g 39)), (3, .int v3)] → W p l e rm_X5_board s m args below meth c H locs 0 0 (MQ below (va_Qi Q (WQ g) A) args s 0 0 A) (F0 m 46 ls []) := by
  intro n
  induction n with
  | zero => intro v3 u H locs ls h; exact False.elim h
  | succ n ih => exact k_X5_board_B46 (p1 := p1) C ih
set_option maxRecDepth 100000 in
theorem c_X5_board (l : Launch) (g : GG) {p1 : Int32} {u : St} {Q : Int32 → St → Prop} (h : wp_X5_board p1 u Q) : CI l yX5_board cX5_board 4 (some .int) rm_X5_board g [.ref (gad g 39), .int p1] u Q := by
  refine ent (own := RX5) (Qc := va_Qi Q (WQ g)) (by decide) rfl (Nat.le_of_ble_eq_true rfl) ?_
  intro p e s m below meth c A ls C hl hW
  have hl : lv_has ls 4 [(0, .ref (gad g 39)), (1, .int p1)] := hl
  unfold wp_X5_board at h
  refine lv_iload_n C.1 C.2.1 dX5_board_0 rfl (lv_at hl 1 rfl) ?_
  refine x_Si (rest := []) C hW (c_X5_isText l g h) km_X5_isText qm_X5_103 ⟨rfl, rfl⟩ (by decide) rfl hl.1 rfl (Nat.le_of_ble_eq_true rfl) ⟨Nat.zero_le _, Nat.zero_le _⟩ dX5_board_1 (fun r1 u1 H locs h hW => ?_)
  refine lv_if_ne (tgt := 9) C.1 C.2.1 dX5_board_4 (by decide) (fun c2 => ?_) (fun c2 => ?_)
  · have h := h.1 c2
    refine lv_aload_n C.1 C.2.1 dX5_board_9 rfl (lv_at hl 0 rfl) ?_
    refine fg_X5_23 C hW dX5_board_10 ?_
    refine lv_iload_n C.1 C.2.1 dX5_board_13 rfl (lv_at hl 1 rfl) ?_
    obtain ⟨h3, h⟩ := h
    refine x_iald C hW g_43 h3 dX5_board_14 ?_
    refine lv_if_ge (tgt := 24) C.1 C.2.1 dX5_board_15 (by decide) (fun c4 => ?_) (fun c4 => ?_)
    · have h := h.1 c4
      refine lv_aload_n C.1 C.2.1 dX5_board_24 rfl (lv_at hl 0 rfl) ?_
      refine lv_iload_n C.1 C.2.1 dX5_board_25 rfl (lv_at hl 1 rfl) ?_
      refine x_Vi (rest := []) C hW (c_X5_read l g h) km_X5_read oModel rfl qm_X5_113 ⟨rfl, rfl⟩ (by decide) rfl hl.1 rfl (Nat.le_of_ble_eq_true rfl) ⟨Nat.zero_le _, Nat.zero_le _⟩ dX5_board_26 (fun r5 u5 H locs h hW => ?_)
      refine lv_istore_n (lv' := [(2, .int r5), (0, .ref (gad g 39)), (1, .int p1)]) C.1 C.2.1 dX5_board_29 rfl hl (by decide) rfl (fun ls hl => ?_)
      refine lv_iload_n C.1 C.2.1 dX5_board_30 rfl (lv_at hl 0 rfl) ?_
      refine lv_bipush (v := 100) C.1 C.2.1 dX5_board_31 (by decide) ?_
      refine lv_icmp_lt (tgt := 39) C.1 C.2.1 dX5_board_33 (by decide) (fun c6 => ?_) (fun c6 => ?_)
      · have h := h.1 c6
        refine lv_aload_n C.1 C.2.1 dX5_board_39 rfl (lv_at hl 1 rfl) ?_
        refine lv_iload_n C.1 C.2.1 dX5_board_40 rfl (lv_at hl 0 rfl) ?_
        refine fp_X5_116 C hW dX5_board_41 (fun u7 H locs e7 hW => ?_)
        have h := nxt_get h e7
        refine lv_iconst (v := 0) C.1 C.2.1 dX5_board_44 (by decide) ?_
        refine lv_istore_n (lv' := [(3, .int 0), (2, .int r5), (0, .ref (gad g 39)), (1, .int p1)]) C.1 C.2.1 dX5_board_45 rfl hl (by decide) rfl (fun ls hl => ?_)
        obtain ⟨n, h⟩ := h
        exact k_X5_board_L46 C n 0 u7 _ _ _ h hW (lv_sub hl [2, 0] rfl)
      · have h := h.2 c6
        refine lv_bipush (v := (-4)) C.1 C.2.1 dX5_board_36 (by decide) ?_
        exact x_iret C hW h dX5_board_38
    · have h := h.2 c4
      refine lv_aload_n C.1 C.2.1 dX5_board_18 rfl (lv_at hl 0 rfl) ?_
      refine lv_iconst (v := 1) C.1 C.2.1 dX5_board_19 (by decide) ?_
      refine x_Vi (rest := []) C hW (c_X5_find l g h) km_X5_find oModel rfl qm_X5_96 ⟨rfl, rfl⟩ (by decide) rfl hl.1 rfl (Nat.le_of_ble_eq_true rfl) ⟨Nat.zero_le _, Nat.zero_le _⟩ dX5_board_20 (fun r8 u8 H locs h hW => ?_)
      exact x_iret C hW h dX5_board_23
  · have h := h.2 c2
    refine lv_iconst (v := (-1)) C.1 C.2.1 dX5_board_7 (by decide) ?_
    exact x_iret C hW h dX5_board_8
set_option maxRecDepth 100000 in
theorem k_X5_copy_B133 {p : Program} {l : Launch} {e : Env} {s : State} {m : MethodId} {args : Array Value} {below : List Frame} {meth : Method} {c : Code} {g : GG} {A : Nat → Prop} {p1 : Int32} {p2 : Int32} {p3 : Int32} {p4 : Int32} {p5 : Int32} {Q : Int32 → St → Prop} (C : MC p s m args meth c cX5_copy 7 RX5 (some .int) g A) {K133 : Int32 → St → Prop} (hK133 : ∀ (v6 : Int32) (u : St) (H : Heap) (locs : List Loc) (ls : Array Slot), K133 v6 u → WD g A s u H locs → lv_has ls 7 [(0, .ref (gad g 39)), (3, .int p3), (4, .int p4), (5, .int p5), (6, .int v6)] → W p l e rm_X5_copy s m args below meth c H locs 0 0 (MQ below (va_Qi Q (WQ g) A) args s 0 0 A) (F0 m 133 ls [])) : ∀ (v6 : Int32) (u : St) (H : Heap) (locs : List Loc) (ls : Array Slot), wp_X5_copy_B133 p1 p2 p3 p4 p5 Q K133 v6 u → WD g A s u H locs → lv_has ls 7 [(0, .ref (gad g 39)), (3, .int p3), (4, .int p4), (5, .int p5), (6, .int v6)] → W p l e rm_X5_copy s m args below meth c H locs 0 0 (MQ below (va_Qi Q (WQ g) A) args s 0 0 A) (F0 m 133 ls []) := by
  intro v6 u H locs ls h hW hl
  refine lv_iload C.1 C.2.1 dX5_copy_133 (lv_at hl 4 rfl) ?_
  refine lv_iload C.1 C.2.1 dX5_copy_135 (lv_at hl 3 rfl) ?_
  refine lv_icmp_ge (tgt := 168) C.1 C.2.1 dX5_copy_137 (by decide) (fun c21 => ?_) (fun c21 => ?_)
  · have h := h.1 c21
    refine lv_iconst (v := 1) C.1 C.2.1 dX5_copy_168 (by decide) ?_
    exact x_iret C hW h dX5_copy_169
  · have h := h.2 c21
    refine lv_aload_n C.1 C.2.1 dX5_copy_140 rfl (lv_at hl 0 rfl) ?_
    refine fg_X5_20 C hW dX5_copy_141 ?_
    refine lv_bipush (v := 40) C.1 C.2.1 dX5_copy_144 (by decide) ?_
    refine lv_iload_n C.1 C.2.1 dX5_copy_146 rfl (lv_at hl 1 rfl) ?_
    refine lv_imul C.1 C.2.1 dX5_copy_147 ?_
    refine lv_iload C.1 C.2.1 dX5_copy_148 (lv_at hl 2 rfl) ?_
    refine lv_iadd C.1 C.2.1 dX5_copy_150 ?_
    refine lv_iload C.1 C.2.1 dX5_copy_151 (lv_at hl 4 rfl) ?_
    refine lv_iadd C.1 C.2.1 dX5_copy_153 ?_
    refine lv_aload_n C.1 C.2.1 dX5_copy_154 rfl (lv_at hl 0 rfl) ?_
    refine fg_X5_30 C hW dX5_copy_155 ?_
    refine lv_iload C.1 C.2.1 dX5_copy_158 (lv_at hl 4 rfl) ?_
    obtain ⟨h22, h⟩ := h
    refine x_iald C hW g_45 h22 dX5_copy_160 ?_
    obtain ⟨h23, h⟩ := h
    refine x_iast C hW g_42 h23 dX5_copy_161 (fun u24 H locs e24 hW => ?_)
    have h := nxt_get h e24
    refine lv_iinc (v := (v6 + 1)) (lv' := [(6, .int (v6 + 1)), (0, .ref (gad g 39)), (3, .int p3), (4, .int p4), (5, .int p5)]) C.1 C.2.1 dX5_copy_162 hl (k := 4) rfl rfl (by decide) rfl (fun ls hl => ?_)
    refine lv_goto (tgt := 133) C.1 C.2.1 dX5_copy_165 (by decide) ?_
    exact hK133 (v6 + 1) u24 _ _ _ h hW (lv_sub hl [1, 2, 3, 4, 0] rfl)
theorem k_X5_copy_L133 {p : Program} {l : Launch} {e : Env} {s : State} {m : MethodId} {args : Array Value} {below : List Frame} {meth : Method} {c : Code} {g : GG} {A : Nat → Prop} {p1 : Int32} {p2 : Int32} {p3 : Int32} {p4 : Int32} {p5 : Int32} {Q : Int32 → St → Prop} (C : MC p s m args meth c cX5_copy 7 RX5 (some .int) g A) : ∀ (n : Nat), ∀ (v6 : Int32) (u : St) (H : Heap) (locs : List Loc) (ls : Array Slot), wp_X5_copy_L133 p1 p2 p3 p4 p5 Q n v6 u → WD g A s u H locs → lv_has ls 7 [(0, .ref (gad g 39)), (3, .int p3), (4, .int p4), (5, .int p5), (6, .int v6)] → W p l e rm_X5_copy s m args below meth c H locs 0 0 (MQ below (va_Qi Q (WQ g) A) args s 0 0 A) (F0 m 133 ls []) := by
  intro n
  induction n with
  | zero => intro v6 u H locs ls h; exact False.elim h
  | succ n ih => exact k_X5_copy_B133 (p1 := p1) (p2 := p2) (p3 := p3) (p4 := p4) (p5 := p5) C ih
set_option maxRecDepth 100000 in
theorem k_X5_copy_B96 {p : Program} {l : Launch} {e : Env} {s : State} {m : MethodId} {args : Array Value} {below : List Frame} {meth : Method} {c : Code} {g : GG} {A : Nat → Prop} {p1 : Int32} {p2 : Int32} {p3 : Int32} {p4 : Int32} {p5 : Int32} {Q : Int32 → St → Prop} (C : MC p s m args meth c cX5_copy 7 RX5 (some .int) g A) {K96 : Int32 → St → Prop} (hK96 : ∀ (v6 : Int32) (u : St) (H : Heap) (locs : List Loc) (ls : Array Slot), K96 v6 u → WD g A s u H locs → lv_has ls 7 [(0, .ref (gad g 39)), (1, .int p1), (2, .int p2), (3, .int p3), (4, .int p4), (5, .int p5), (6, .int v6)] → W p l e rm_X5_copy s m args below meth c H locs 0 0 (MQ below (va_Qi Q (WQ g) A) args s 0 0 A) (F0 m 96 ls [])) : ∀ (v6 : Int32) (u : St) (H : Heap) (locs : List Loc) (ls : Array Slot), wp_X5_copy_B96 p1 p2 p3 p4 p5 Q K96 v6 u → WD g A s u H locs → lv_has ls 7 [(0, .ref (gad g 39)), (1, .int p1), (2, .int p2), (3, .int p3), (4, .int p4), (5, .int p5), (6, .int v6)] → W p l e rm_X5_copy s m args below meth c H locs 0 0 (MQ below (va_Qi Q (WQ g) A) args s 0 0 A) (F0 m 96 ls []) := by
  intro v6 u H locs ls h hW hl
  refine lv_iload C.1 C.2.1 dX5_copy_96 (lv_at hl 6 rfl) ?_
  refine lv_iload C.1 C.2.1 dX5_copy_98 (lv_at hl 5 rfl) ?_
  refine lv_icmp_ge (tgt := 130) C.1 C.2.1 dX5_copy_100 (by decide) (fun c17 => ?_) (fun c17 => ?_)
  · have h := h.1 c17
    refine lv_iconst (v := 0) C.1 C.2.1 dX5_copy_130 (by decide) ?_
    refine lv_istore (lv' := [(6, .int 0), (0, .ref (gad g 39)), (1, .int p1), (2, .int p2), (3, .int p3), (4, .int p4), (5, .int p5)]) C.1 C.2.1 dX5_copy_131 hl (by decide) rfl (fun ls hl => ?_)
    obtain ⟨n, h⟩ := h
    exact k_X5_copy_L133 C n 0 u _ _ _ h hW (lv_sub hl [1, 4, 5, 6, 0] rfl)
  · have h := h.2 c17
    refine lv_aload_n C.1 C.2.1 dX5_copy_103 rfl (lv_at hl 0 rfl) ?_
    refine fg_X5_30 C hW dX5_copy_104 ?_
    refine lv_iload C.1 C.2.1 dX5_copy_107 (lv_at hl 6 rfl) ?_
    refine lv_aload_n C.1 C.2.1 dX5_copy_109 rfl (lv_at hl 0 rfl) ?_
    refine fg_X5_20 C hW dX5_copy_110 ?_
    refine lv_bipush (v := 40) C.1 C.2.1 dX5_copy_113 (by decide) ?_
    refine lv_iload_n C.1 C.2.1 dX5_copy_115 rfl (lv_at hl 1 rfl) ?_
    refine lv_imul C.1 C.2.1 dX5_copy_116 ?_
    refine lv_iload_n C.1 C.2.1 dX5_copy_117 rfl (lv_at hl 2 rfl) ?_
    refine lv_iadd C.1 C.2.1 dX5_copy_118 ?_
    refine lv_iload C.1 C.2.1 dX5_copy_119 (lv_at hl 6 rfl) ?_
    refine lv_iadd C.1 C.2.1 dX5_copy_121 ?_
    obtain ⟨h18, h⟩ := h
    refine x_iald C hW g_42 h18 dX5_copy_122 ?_
    obtain ⟨h19, h⟩ := h
    refine x_iast C hW g_45 h19 dX5_copy_123 (fun u20 H locs e20 hW => ?_)
    have h := nxt_get h e20
    refine lv_iinc (v := (v6 + 1)) (lv' := [(6, .int (v6 + 1)), (0, .ref (gad g 39)), (1, .int p1), (2, .int p2), (3, .int p3), (4, .int p4), (5, .int p5)]) C.1 C.2.1 dX5_copy_124 hl (k := 6) rfl rfl (by decide) rfl (fun ls hl => ?_)
    refine lv_goto (tgt := 96) C.1 C.2.1 dX5_copy_127 (by decide) ?_
    exact hK96 (v6 + 1) u20 _ _ _ h hW (lv_sub hl [1, 2, 3, 4, 5, 6, 0] rfl)
theorem k_X5_copy_L96 {p : Program} {l : Launch} {e : Env} {s : State} {m : MethodId} {args : Array Value} {below : List Frame} {meth : Method} {c : Code} {g : GG} {A : Nat → Prop} {p1 : Int32} {p2 : Int32} {p3 : Int32} {p4 : Int32} {p5 : Int32} {Q : Int32 → St → Prop} (C : MC p s m args meth c cX5_copy 7 RX5 (some .int) g A) : ∀ (n : Nat), ∀ (v6 : Int32) (u : St) (H : Heap) (locs : List Loc) (ls : Array Slot), wp_X5_copy_L96 p1 p2 p3 p4 p5 Q n v6 u → WD g A s u H locs → lv_has ls 7 [(0, .ref (gad g 39)), (1, .int p1), (2, .int p2), (3, .int p3), (4, .int p4), (5, .int p5), (6, .int v6)] → W p l e rm_X5_copy s m args below meth c H locs 0 0 (MQ below (va_Qi Q (WQ g) A) args s 0 0 A) (F0 m 96 ls []) := by
  intro n
  induction n with
  | zero => intro v6 u H locs ls h; exact False.elim h
  | succ n ih => exact k_X5_copy_B96 (p1 := p1) (p2 := p2) (p3 := p3) (p4 := p4) (p5 := p5) C ih
set_option maxRecDepth 100000 in
theorem k_X5_copy_J87 {p : Program} {l : Launch} {e : Env} {s : State} {m : MethodId} {args : Array Value} {below : List Frame} {meth : Method} {c : Code} {g : GG} {A : Nat → Prop} {p1 : Int32} {p2 : Int32} {p3 : Int32} {p4 : Int32} {p5 : Int32} {Q : Int32 → St → Prop} (C : MC p s m args meth c cX5_copy 7 RX5 (some .int) g A) : ∀ (u : St) (H : Heap) (locs : List Loc) (ls : Array Slot), wp_X5_copy_J87 p1 p2 p3 p4 p5 Q u → WD g A s u H locs → lv_has ls 7 [(0, .ref (gad g 39))] → W p l e rm_X5_copy s m args below meth c H locs 0 0 (MQ below (va_Qi Q (WQ g) A) args s 0 0 A) (F0 m 87 ls []) := by
  intro u H locs ls h hW hl
  refine lv_aload_n C.1 C.2.1 dX5_copy_87 rfl (lv_at hl 0 rfl) ?_
  refine lv_iconst (v := 2) C.1 C.2.1 dX5_copy_88 (by decide) ?_
  refine x_Vi (rest := []) C hW (c_X5_find l g h) km_X5_find oModel rfl qm_X5_96 ⟨rfl, rfl⟩ (by decide) rfl hl.1 rfl (Nat.le_of_ble_eq_true rfl) ⟨Nat.zero_le _, Nat.zero_le _⟩ dX5_copy_89 (fun r25 u25 H locs h hW => ?_)
  exact x_iret C hW h dX5_copy_92
set_option maxRecDepth 100000 in
theorem k_X5_copy_J45 {p : Program} {l : Launch} {e : Env} {s : State} {m : MethodId} {args : Array Value} {below : List Frame} {meth : Method} {c : Code} {g : GG} {A : Nat → Prop} {p1 : Int32} {p2 : Int32} {p3 : Int32} {p4 : Int32} {p5 : Int32} {Q : Int32 → St → Prop} (C : MC p s m args meth c cX5_copy 7 RX5 (some .int) g A) : ∀ (u : St) (H : Heap) (locs : List Loc) (ls : Array Slot), wp_X5_copy_J45 p1 p2 p3 p4 p5 Q u → WD g A s u H locs → lv_has ls 7 [(0, .ref (gad g 39))] → W p l e rm_X5_copy s m args below meth c H locs 0 0 (MQ below (va_Qi Q (WQ g) A) args s 0 0 A) (F0 m 45 ls []) := by
  intro u H locs ls h hW hl
  refine lv_aload_n C.1 C.2.1 dX5_copy_45 rfl (lv_at hl 0 rfl) ?_
  refine lv_iconst (v := 1) C.1 C.2.1 dX5_copy_46 (by decide) ?_
  refine x_Vi (rest := []) C hW (c_X5_find l g h) km_X5_find oModel rfl qm_X5_96 ⟨rfl, rfl⟩ (by decide) rfl hl.1 rfl (Nat.le_of_ble_eq_true rfl) ⟨Nat.zero_le _, Nat.zero_le _⟩ dX5_copy_47 (fun r26 u26 H locs h hW => ?_)
  exact x_iret C hW h dX5_copy_50
set_option maxRecDepth 100000 in
theorem c_X5_copy (l : Launch) (g : GG) {p1 : Int32} {p2 : Int32} {p3 : Int32} {p4 : Int32} {p5 : Int32} {u : St} {Q : Int32 → St → Prop} (h : wp_X5_copy p1 p2 p3 p4 p5 u Q) : CI l yX5_copy cX5_copy 7 (some .int) rm_X5_copy g [.ref (gad g 39), .int p1, .int p2, .int p3, .int p4, .int p5] u Q := by
  refine ent (own := RX5) (Qc := va_Qi Q (WQ g)) (by decide) rfl (Nat.le_of_ble_eq_true rfl) ?_
  intro p e s m below meth c A ls C hl hW
  have hl : lv_has ls 7 [(0, .ref (gad g 39)), (1, .int p1), (2, .int p2), (3, .int p3), (4, .int p4), (5, .int p5)] := hl
  unfold wp_X5_copy at h
  refine lv_iload_n C.1 C.2.1 dX5_copy_0 rfl (lv_at hl 1 rfl) ?_
  refine x_Si (rest := []) C hW (c_X5_isRow l g h) km_X5_isRow qm_X5_92 ⟨rfl, rfl⟩ (by decide) rfl hl.1 rfl (Nat.le_of_ble_eq_true rfl) ⟨Nat.zero_le _, Nat.zero_le _⟩ dX5_copy_1 (fun r1 u1 H locs h hW => ?_)
  refine lv_if_eq (tgt := 14) C.1 C.2.1 dX5_copy_4 (by decide) (fun c2 => ?_) (fun c2 => ?_)
  · have h := h.1 c2
    refine lv_iconst (v := (-1)) C.1 C.2.1 dX5_copy_14 (by decide) ?_
    exact x_iret C hW h dX5_copy_15
  · have h := h.2 c2
    refine lv_iload_n C.1 C.2.1 dX5_copy_7 rfl (lv_at hl 3 rfl) ?_
    refine x_Si (rest := []) C hW (c_X5_isRow l g h) km_X5_isRow qm_X5_92 ⟨rfl, rfl⟩ (by decide) rfl hl.1 rfl (Nat.le_of_ble_eq_true rfl) ⟨Nat.zero_le _, Nat.zero_le _⟩ dX5_copy_8 (fun r3 u3 H locs h hW => ?_)
    refine lv_if_ne (tgt := 16) C.1 C.2.1 dX5_copy_11 (by decide) (fun c4 => ?_) (fun c4 => ?_)
    · have h := h.1 c4
      refine lv_iload C.1 C.2.1 dX5_copy_16 (lv_at hl 5 rfl) ?_
      refine lv_if_ge (tgt := 27) C.1 C.2.1 dX5_copy_18 (by decide) (fun c5 => ?_) (fun c5 => ?_)
      · have h := h.1 c5
        refine lv_aload_n C.1 C.2.1 dX5_copy_27 rfl (lv_at hl 0 rfl) ?_
        refine fg_X5_17 C hW dX5_copy_28 ?_
        refine lv_iload_n C.1 C.2.1 dX5_copy_31 rfl (lv_at hl 1 rfl) ?_
        obtain ⟨h6, h⟩ := h
        refine x_iald C hW g_41 h6 dX5_copy_32 ?_
        refine lv_if_lt (tgt := 45) C.1 C.2.1 dX5_copy_33 (by decide) (fun c7 => ?_) (fun c7 => ?_)
        · have h := h.1 c7
          exact k_X5_copy_J45 C u3 _ _ _ h hW (lv_sub hl [0] rfl)
        · have h := h.2 c7
          refine lv_aload_n C.1 C.2.1 dX5_copy_36 rfl (lv_at hl 0 rfl) ?_
          refine fg_X5_17 C hW dX5_copy_37 ?_
          refine lv_iload_n C.1 C.2.1 dX5_copy_40 rfl (lv_at hl 3 rfl) ?_
          obtain ⟨h8, h⟩ := h
          refine x_iald C hW g_41 h8 dX5_copy_41 ?_
          refine lv_if_ge (tgt := 51) C.1 C.2.1 dX5_copy_42 (by decide) (fun c9 => ?_) (fun c9 => ?_)
          · have h := h.1 c9
            refine lv_iload_n C.1 C.2.1 dX5_copy_51 rfl (lv_at hl 2 rfl) ?_
            refine lv_if_lt (tgt := 87) C.1 C.2.1 dX5_copy_52 (by decide) (fun c10 => ?_) (fun c10 => ?_)
            · have h := h.1 c10
              exact k_X5_copy_J87 C u3 _ _ _ h hW (lv_sub hl [0] rfl)
            · have h := h.2 c10
              refine lv_iload_n C.1 C.2.1 dX5_copy_55 rfl (lv_at hl 2 rfl) ?_
              refine lv_aload_n C.1 C.2.1 dX5_copy_56 rfl (lv_at hl 0 rfl) ?_
              refine fg_X5_17 C hW dX5_copy_57 ?_
              refine lv_iload_n C.1 C.2.1 dX5_copy_60 rfl (lv_at hl 1 rfl) ?_
              obtain ⟨h11, h⟩ := h
              refine x_iald C hW g_41 h11 dX5_copy_61 ?_
              refine lv_iload C.1 C.2.1 dX5_copy_62 (lv_at hl 5 rfl) ?_
              refine lv_isub C.1 C.2.1 dX5_copy_64 ?_
              refine lv_icmp_gt (tgt := 87) C.1 C.2.1 dX5_copy_65 (by decide) (fun c12 => ?_) (fun c12 => ?_)
              · have h := h.1 c12
                exact k_X5_copy_J87 C u3 _ _ _ h hW (lv_sub hl [0] rfl)
              · have h := h.2 c12
                refine lv_iload C.1 C.2.1 dX5_copy_68 (lv_at hl 4 rfl) ?_
                refine lv_if_lt (tgt := 87) C.1 C.2.1 dX5_copy_70 (by decide) (fun c13 => ?_) (fun c13 => ?_)
                · have h := h.1 c13
                  exact k_X5_copy_J87 C u3 _ _ _ h hW (lv_sub hl [0] rfl)
                · have h := h.2 c13
                  refine lv_iload C.1 C.2.1 dX5_copy_73 (lv_at hl 4 rfl) ?_
                  refine lv_aload_n C.1 C.2.1 dX5_copy_75 rfl (lv_at hl 0 rfl) ?_
                  refine fg_X5_17 C hW dX5_copy_76 ?_
                  refine lv_iload_n C.1 C.2.1 dX5_copy_79 rfl (lv_at hl 3 rfl) ?_
                  obtain ⟨h14, h⟩ := h
                  refine x_iald C hW g_41 h14 dX5_copy_80 ?_
                  refine lv_iload C.1 C.2.1 dX5_copy_81 (lv_at hl 5 rfl) ?_
                  refine lv_isub C.1 C.2.1 dX5_copy_83 ?_
                  refine lv_icmp_le (tgt := 93) C.1 C.2.1 dX5_copy_84 (by decide) (fun c15 => ?_) (fun c15 => ?_)
                  · have h := h.1 c15
                    refine lv_iconst (v := 0) C.1 C.2.1 dX5_copy_93 (by decide) ?_
                    refine lv_istore (lv' := [(6, .int 0), (0, .ref (gad g 39)), (1, .int p1), (2, .int p2), (3, .int p3), (4, .int p4), (5, .int p5)]) C.1 C.2.1 dX5_copy_94 hl (by decide) rfl (fun ls hl => ?_)
                    obtain ⟨n, h⟩ := h
                    exact k_X5_copy_L96 C n 0 u3 _ _ _ h hW (lv_sub hl [1, 2, 3, 4, 5, 6, 0] rfl)
                  · have h := h.2 c15
                    exact k_X5_copy_J87 C u3 _ _ _ h hW (lv_sub hl [0] rfl)
          · have h := h.2 c9
            exact k_X5_copy_J45 C u3 _ _ _ h hW (lv_sub hl [0] rfl)
      · have h := h.2 c5
        refine lv_aload_n C.1 C.2.1 dX5_copy_21 rfl (lv_at hl 0 rfl) ?_
        refine lv_iconst (v := 5) C.1 C.2.1 dX5_copy_22 (by decide) ?_
        refine x_Vi (rest := []) C hW (c_X5_find l g h) km_X5_find oModel rfl qm_X5_96 ⟨rfl, rfl⟩ (by decide) rfl hl.1 rfl (Nat.le_of_ble_eq_true rfl) ⟨Nat.zero_le _, Nat.zero_le _⟩ dX5_copy_23 (fun r16 u16 H locs h hW => ?_)
        exact x_iret C hW h dX5_copy_26
    · have h := h.2 c4
      refine lv_iconst (v := (-1)) C.1 C.2.1 dX5_copy_14 (by decide) ?_
      exact x_iret C hW h dX5_copy_15
set_option maxRecDepth 100000 in
theorem k_X5_ofKinds_J42 {p : Program} {l : Launch} {e : Env} {s : State} {m : MethodId} {args : Array Value} {below : List Frame} {meth : Method} {c : Code} {g : GG} {A : Nat → Prop} {p1 : Int32} {p2 : Int32} {Q : Int32 → St → Prop} (C : MC p s m args meth c cX5_ofKinds 5 RX5 (some .int) g A) {K5 : Int32 → Int32 → St → Prop} (hK5 : ∀ (v3 : Int32) (v4 : Int32) (u : St) (H : Heap) (locs : List Loc) (ls : Array Slot), K5 v3 v4 u → WD g A s u H locs → lv_has ls 5 [(0, .ref (gad g 39)), (1, .int p1), (2, .int p2), (3, .int v3), (4, .int v4)] → W p l e rm_X5_ofKinds s m args below meth c H locs 0 0 (MQ below (va_Qi Q (WQ g) A) args s 0 0 A) (F0 m 5 ls [])) : ∀ (v4 : Int32) (t0 : Int32) (t1 : Int32) (u : St) (H : Heap) (locs : List Loc) (ls : Array Slot), wp_X5_ofKinds_J42 p1 p2 Q K5 v4 t0 t1 u → WD g A s u H locs → lv_has ls 5 [(0, .ref (gad g 39)), (1, .int p1), (2, .int p2), (4, .int v4)] → W p l e rm_X5_ofKinds s m args below meth c H locs 0 0 (MQ below (va_Qi Q (WQ g) A) args s 0 0 A) (F0 m 42 ls [.int t0, .int t1]) := by
  intro v4 t0 t1 u H locs ls h hW hl
  refine lv_iadd C.1 C.2.1 dX5_ofKinds_42 ?_
  refine lv_istore_n (lv' := [(3, .int (t1 + t0)), (0, .ref (gad g 39)), (1, .int p1), (2, .int p2), (4, .int v4)]) C.1 C.2.1 dX5_ofKinds_43 rfl hl (by decide) rfl (fun ls hl => ?_)
  refine lv_iinc (v := (v4 + 1)) (lv' := [(4, .int (v4 + 1)), (3, .int (t1 + t0)), (0, .ref (gad g 39)), (1, .int p1), (2, .int p2)]) C.1 C.2.1 dX5_ofKinds_44 hl (k := 4) rfl rfl (by decide) rfl (fun ls hl => ?_)
  refine lv_goto (tgt := 5) C.1 C.2.1 dX5_ofKinds_47 (by decide) ?_
  exact hK5 (t1 + t0) (v4 + 1) u _ _ _ h hW (lv_sub hl [2, 3, 4, 1, 0] rfl)
set_option maxRecDepth 100000 in
theorem k_X5_ofKinds_J37 {p : Program} {l : Launch} {e : Env} {s : State} {m : MethodId} {args : Array Value} {below : List Frame} {meth : Method} {c : Code} {g : GG} {A : Nat → Prop} {p1 : Int32} {p2 : Int32} {Q : Int32 → St → Prop} (C : MC p s m args meth c cX5_ofKinds 5 RX5 (some .int) g A) {K5 : Int32 → Int32 → St → Prop} (hK5 : ∀ (v3 : Int32) (v4 : Int32) (u : St) (H : Heap) (locs : List Loc) (ls : Array Slot), K5 v3 v4 u → WD g A s u H locs → lv_has ls 5 [(0, .ref (gad g 39)), (1, .int p1), (2, .int p2), (3, .int v3), (4, .int v4)] → W p l e rm_X5_ofKinds s m args below meth c H locs 0 0 (MQ below (va_Qi Q (WQ g) A) args s 0 0 A) (F0 m 5 ls [])) : ∀ (v4 : Int32) (t0 : Int32) (u : St) (H : Heap) (locs : List Loc) (ls : Array Slot), wp_X5_ofKinds_J37 p1 p2 Q K5 v4 t0 u → WD g A s u H locs → lv_has ls 5 [(0, .ref (gad g 39)), (1, .int p1), (2, .int p2), (4, .int v4)] → W p l e rm_X5_ofKinds s m args below meth c H locs 0 0 (MQ below (va_Qi Q (WQ g) A) args s 0 0 A) (F0 m 37 ls [.int t0]) := by
  intro v4 t0 u H locs ls h hW hl
  refine lv_iconst (v := 1) C.1 C.2.1 dX5_ofKinds_37 (by decide) ?_
  refine lv_goto (tgt := 42) C.1 C.2.1 dX5_ofKinds_38 (by decide) ?_
  exact k_X5_ofKinds_J42 C hK5 v4 1 t0 u _ _ _ h hW hl
set_option maxRecDepth 100000 in
theorem k_X5_ofKinds_B5 {p : Program} {l : Launch} {e : Env} {s : State} {m : MethodId} {args : Array Value} {below : List Frame} {meth : Method} {c : Code} {g : GG} {A : Nat → Prop} {p1 : Int32} {p2 : Int32} {Q : Int32 → St → Prop} (C : MC p s m args meth c cX5_ofKinds 5 RX5 (some .int) g A) {K5 : Int32 → Int32 → St → Prop} (hK5 : ∀ (v3 : Int32) (v4 : Int32) (u : St) (H : Heap) (locs : List Loc) (ls : Array Slot), K5 v3 v4 u → WD g A s u H locs → lv_has ls 5 [(0, .ref (gad g 39)), (1, .int p1), (2, .int p2), (3, .int v3), (4, .int v4)] → W p l e rm_X5_ofKinds s m args below meth c H locs 0 0 (MQ below (va_Qi Q (WQ g) A) args s 0 0 A) (F0 m 5 ls [])) : ∀ (v3 : Int32) (v4 : Int32) (u : St) (H : Heap) (locs : List Loc) (ls : Array Slot), wp_X5_ofKinds_B5 p1 p2 Q K5 v3 v4 u → WD g A s u H locs → lv_has ls 5 [(0, .ref (gad g 39)), (1, .int p1), (2, .int p2), (3, .int v3), (4, .int v4)] → W p l e rm_X5_ofKinds s m args below meth c H locs 0 0 (MQ below (va_Qi Q (WQ g) A) args s 0 0 A) (F0 m 5 ls []) := by
  intro v3 v4 u H locs ls h hW hl
  refine lv_iload C.1 C.2.1 dX5_ofKinds_5 (lv_at hl 4 rfl) ?_
  refine lv_aload_n C.1 C.2.1 dX5_ofKinds_7 rfl (lv_at hl 0 rfl) ?_
  refine fg_X5_116 C hW dX5_ofKinds_8 ?_
  refine lv_icmp_ge (tgt := 50) C.1 C.2.1 dX5_ofKinds_11 (by decide) (fun c1 => ?_) (fun c1 => ?_)
  · have h := h.1 c1
    refine lv_iload_n C.1 C.2.1 dX5_ofKinds_50 rfl (lv_at hl 3 rfl) ?_
    exact x_iret C hW h dX5_ofKinds_51
  · have h := h.2 c1
    refine lv_iload_n C.1 C.2.1 dX5_ofKinds_14 rfl (lv_at hl 3 rfl) ?_
    refine lv_aload_n C.1 C.2.1 dX5_ofKinds_15 rfl (lv_at hl 0 rfl) ?_
    refine fg_X5_33 C hW dX5_ofKinds_16 ?_
    refine lv_iload C.1 C.2.1 dX5_ofKinds_19 (lv_at hl 4 rfl) ?_
    obtain ⟨h2, h⟩ := h
    refine x_iald C hW g_46 h2 dX5_ofKinds_21 ?_
    refine lv_iload_n C.1 C.2.1 dX5_ofKinds_22 rfl (lv_at hl 1 rfl) ?_
    refine lv_icmp_eq (tgt := 37) C.1 C.2.1 dX5_ofKinds_23 (by decide) (fun c3 => ?_) (fun c3 => ?_)
    · have h := h.1 c3
      exact k_X5_ofKinds_J37 C hK5 v4 v3 u _ _ _ h hW (lv_sub hl [0, 1, 2, 4] rfl)
    · have h := h.2 c3
      refine lv_aload_n C.1 C.2.1 dX5_ofKinds_26 rfl (lv_at hl 0 rfl) ?_
      refine fg_X5_33 C hW dX5_ofKinds_27 ?_
      refine lv_iload C.1 C.2.1 dX5_ofKinds_30 (lv_at hl 4 rfl) ?_
      obtain ⟨h4, h⟩ := h
      refine x_iald C hW g_46 h4 dX5_ofKinds_32 ?_
      refine lv_iload_n C.1 C.2.1 dX5_ofKinds_33 rfl (lv_at hl 2 rfl) ?_
      refine lv_icmp_ne (tgt := 41) C.1 C.2.1 dX5_ofKinds_34 (by decide) (fun c5 => ?_) (fun c5 => ?_)
      · have h := h.1 c5
        refine lv_iconst (v := 0) C.1 C.2.1 dX5_ofKinds_41 (by decide) ?_
        exact k_X5_ofKinds_J42 C hK5 v4 0 v3 u _ _ _ h hW (lv_sub hl [0, 1, 2, 4] rfl)
      · have h := h.2 c5
        exact k_X5_ofKinds_J37 C hK5 v4 v3 u _ _ _ h hW (lv_sub hl [0, 1, 2, 4] rfl)
theorem k_X5_ofKinds_L5 {p : Program} {l : Launch} {e : Env} {s : State} {m : MethodId} {args : Array Value} {below : List Frame} {meth : Method} {c : Code} {g : GG} {A : Nat → Prop} {p1 : Int32} {p2 : Int32} {Q : Int32 → St → Prop} (C : MC p s m args meth c cX5_ofKinds 5 RX5 (some .int) g A) : ∀ (n : Nat), ∀ (v3 : Int32) (v4 : Int32) (u : St) (H : Heap) (locs : List Loc) (ls : Array Slot), wp_X5_ofKinds_L5 p1 p2 Q n v3 v4 u → WD g A s u H locs → lv_has ls 5 [(0, .ref (gad g 39)), (1, .int p1), (2, .int p2), (3, .int v3), (4, .int v4)] → W p l e rm_X5_ofKinds s m args below meth c H locs 0 0 (MQ below (va_Qi Q (WQ g) A) args s 0 0 A) (F0 m 5 ls []) := by
  intro n
  induction n with
  | zero => intro v3 v4 u H locs ls h; exact False.elim h
  | succ n ih => exact k_X5_ofKinds_B5 (p1 := p1) (p2 := p2) C ih
set_option maxRecDepth 100000 in
theorem c_X5_ofKinds (l : Launch) (g : GG) {p1 : Int32} {p2 : Int32} {u : St} {Q : Int32 → St → Prop} (h : wp_X5_ofKinds p1 p2 u Q) : CI l yX5_ofKinds cX5_ofKinds 5 (some .int) rm_X5_ofKinds g [.ref (gad g 39), .int p1, .int p2] u Q := by
  refine ent (own := RX5) (Qc := va_Qi Q (WQ g)) (by decide) rfl (Nat.le_of_ble_eq_true rfl) ?_
  intro p e s m below meth c A ls C hl hW
  have hl : lv_has ls 5 [(0, .ref (gad g 39)), (1, .int p1), (2, .int p2)] := hl
  unfold wp_X5_ofKinds at h
  refine lv_iconst (v := 0) C.1 C.2.1 dX5_ofKinds_0 (by decide) ?_
  refine lv_istore_n (lv' := [(3, .int 0), (0, .ref (gad g 39)), (1, .int p1), (2, .int p2)]) C.1 C.2.1 dX5_ofKinds_1 rfl hl (by decide) rfl (fun ls hl => ?_)
  refine lv_iconst (v := 0) C.1 C.2.1 dX5_ofKinds_2 (by decide) ?_
  refine lv_istore (lv' := [(4, .int 0), (3, .int 0), (0, .ref (gad g 39)), (1, .int p1), (2, .int p2)]) C.1 C.2.1 dX5_ofKinds_3 hl (by decide) rfl (fun ls hl => ?_)
  obtain ⟨n, h⟩ := h
  exact k_X5_ofKinds_L5 C n 0 0 u _ _ _ h hW (lv_sub hl [2, 3, 4, 1, 0] rfl)
