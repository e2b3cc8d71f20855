set_option maxRecDepth 100000 in
theorem k_X5_thereAre_J105 {p : Program} {l : Launch} {e : Env} {s : State} {m : MethodId} {args : Array Value} {below : List Frame} {meth : Method} {c : Code} {g : GG} {A : Nat → Prop} {p1 : Int32} {Q : Int32 → St → Prop} (C : MC p s m args meth c cX5_thereAre 4 RX5 (some .int) g A) {K4 : Int32 → Int32 → St → Prop} (hK4 : ∀ (v2 : Int32) (v3 : Int32) (u : St) (H : Heap) (locs : List Loc) (ls : Array Slot), K4 v2 v3 u → WD g A s u H locs → lv_has ls 4 [(0, .ref (gad g 39)), (1, .int p1), (2, .int v2), (3, .int v3)] → W p l e rm_X5_thereAre s m args below meth c H locs 0 0 (MQ below (va_Qi Q (WQ g) A) args s 0 0 A) (F0 m 4 ls [])) : ∀ (v3 : Int32) (t0 : Int32) (t1 : Int32) (u : St) (H : Heap) (locs : List Loc) (ls : Array Slot), wp_X5_thereAre_J105 p1 Q K4 v3 t0 t1 u → WD g A s u H locs → lv_has ls 4 [(0, .ref (gad g 39)), (1, .int p1), (3, .int v3)] → W p l e rm_X5_thereAre s m args below meth c H locs 0 0 (MQ below (va_Qi Q (WQ g) A) args s 0 0 A) (F0 m 105 ls [.int t0, .int t1]) := by
  intro v3 t0 t1 u H locs ls h hW hl
  refine lv_iadd C.1 C.2.1 dX5_thereAre_105 ?_
  refine lv_istore_n (lv' := [(2, .int (t1 + t0)), (0, .ref (gad g 39)), (1, .int p1), (3, .int v3)]) C.1 C.2.1 dX5_thereAre_106 rfl hl (by decide) rfl (fun ls hl => ?_)
  refine lv_iinc (v := (v3 + 1)) (lv' := [(3, .int (v3 + 1)), (2, .int (t1 + t0)), (0, .ref (gad g 39)), (1, .int p1)]) C.1 C.2.1 dX5_thereAre_107 hl (k := 3) rfl rfl (by decide) rfl (fun ls hl => ?_)
  refine lv_goto (tgt := 4) C.1 C.2.1 dX5_thereAre_110 (by decide) ?_
  exact hK4 (t1 + t0) (v3 + 1) u _ _ _ h hW (lv_sub hl [2, 3, 1, 0] rfl)
set_option maxRecDepth 100000 in
theorem k_X5_thereAre_J104 {p : Program} {l : Launch} {e : Env} {s : State} {m : MethodId} {args : Array Value} {below : List Frame} {meth : Method} {c : Code} {g : GG} {A : Nat → Prop} {p1 : Int32} {Q : Int32 → St → Prop} (C : MC p s m args meth c cX5_thereAre 4 RX5 (some .int) g A) {K4 : Int32 → Int32 → St → Prop} (hK4 : ∀ (v2 : Int32) (v3 : Int32) (u : St) (H : Heap) (locs : List Loc) (ls : Array Slot), K4 v2 v3 u → WD g A s u H locs → lv_has ls 4 [(0, .ref (gad g 39)), (1, .int p1), (2, .int v2), (3, .int v3)] → W p l e rm_X5_thereAre s m args below meth c H locs 0 0 (MQ below (va_Qi Q (WQ g) A) args s 0 0 A) (F0 m 4 ls [])) : ∀ (v3 : Int32) (t0 : Int32) (u : St) (H : Heap) (locs : List Loc) (ls : Array Slot), wp_X5_thereAre_J104 p1 Q K4 v3 t0 u → WD g A s u H locs → lv_has ls 4 [(0, .ref (gad g 39)), (1, .int p1), (3, .int v3)] → W p l e rm_X5_thereAre s m args below meth c H locs 0 0 (MQ below (va_Qi Q (WQ g) A) args s 0 0 A) (F0 m 104 ls [.int t0]) := by
  intro v3 t0 u H locs ls h hW hl
  refine lv_iconst (v := 0) C.1 C.2.1 dX5_thereAre_104 (by decide) ?_
  exact k_X5_thereAre_J105 C hK4 v3 0 t0 u _ _ _ h hW hl
set_option maxRecDepth 100000 in
theorem k_X5_thereAre_J96 {p : Program} {l : Launch} {e : Env} {s : State} {m : MethodId} {args : Array Value} {below : List Frame} {meth : Method} {c : Code} {g : GG} {A : Nat → Prop} {p1 : Int32} {Q : Int32 → St → Prop} (C : MC p s m args meth c cX5_thereAre 4 RX5 (some .int) g A) {K4 : Int32 → Int32 → St → Prop} (hK4 : ∀ (v2 : Int32) (v3 : Int32) (u : St) (H : Heap) (locs : List Loc) (ls : Array Slot), K4 v2 v3 u → WD g A s u H locs → lv_has ls 4 [(0, .ref (gad g 39)), (1, .int p1), (2, .int v2), (3, .int v3)] → W p l e rm_X5_thereAre s m args below meth c H locs 0 0 (MQ below (va_Qi Q (WQ g) A) args s 0 0 A) (F0 m 4 ls [])) : ∀ (v3 : Int32) (t0 : Int32) (t2 : Int32) (u : St) (H : Heap) (locs : List Loc) (ls : Array Slot), wp_X5_thereAre_J96 p1 Q K4 v3 t0 t2 u → WD g A s u H locs → lv_has ls 4 [(0, .ref (gad g 39)), (1, .int p1), (3, .int v3)] → W p l e rm_X5_thereAre s m args below meth c H locs 0 0 (MQ below (va_Qi Q (WQ g) A) args s 0 0 A) (F0 m 96 ls [.int t0, .ref (gad g 52), .int t2]) := by
  intro v3 t0 t2 u H locs ls h hW hl
  obtain ⟨h13, h⟩ := h
  refine x_iald C hW g_52 h13 dX5_thereAre_96 ?_
  refine lv_if_lt (tgt := 104) C.1 C.2.1 dX5_thereAre_97 (by decide) (fun c14 => ?_) (fun c14 => ?_)
  · have h := h.1 c14
    exact k_X5_thereAre_J104 C hK4 v3 t2 u _ _ _ h hW hl
  · have h := h.2 c14
    refine lv_iconst (v := 1) C.1 C.2.1 dX5_thereAre_100 (by decide) ?_
    refine lv_goto (tgt := 105) C.1 C.2.1 dX5_thereAre_101 (by decide) ?_
    exact k_X5_thereAre_J105 C hK4 v3 1 t2 u _ _ _ h hW hl
set_option maxRecDepth 100000 in
theorem k_X5_thereAre_J68 {p : Program} {l : Launch} {e : Env} {s : State} {m : MethodId} {args : Array Value} {below : List Frame} {meth : Method} {c : Code} {g : GG} {A : Nat → Prop} {p1 : Int32} {Q : Int32 → St → Prop} (C : MC p s m args meth c cX5_thereAre 4 RX5 (some .int) g A) {K4 : Int32 → Int32 → St → Prop} (hK4 : ∀ (v2 : Int32) (v3 : Int32) (u : St) (H : Heap) (locs : List Loc) (ls : Array Slot), K4 v2 v3 u → WD g A s u H locs → lv_has ls 4 [(0, .ref (gad g 39)), (1, .int p1), (2, .int v2), (3, .int v3)] → W p l e rm_X5_thereAre s m args below meth c H locs 0 0 (MQ below (va_Qi Q (WQ g) A) args s 0 0 A) (F0 m 4 ls [])) : ∀ (v3 : Int32) (t0 : Int32) (t1 : Int32) (u : St) (H : Heap) (locs : List Loc) (ls : Array Slot), wp_X5_thereAre_J68 p1 Q K4 v3 t0 t1 u → WD g A s u H locs → lv_has ls 4 [(0, .ref (gad g 39)), (1, .int p1), (3, .int v3)] → W p l e rm_X5_thereAre s m args below meth c H locs 0 0 (MQ below (va_Qi Q (WQ g) A) args s 0 0 A) (F0 m 68 ls [.int t0, .int t1]) := by
  intro v3 t0 t1 u H locs ls h hW hl
  refine lv_iadd C.1 C.2.1 dX5_thereAre_68 ?_
  refine lv_istore_n (lv' := [(2, .int (t1 + t0)), (0, .ref (gad g 39)), (1, .int p1), (3, .int v3)]) C.1 C.2.1 dX5_thereAre_69 rfl hl (by decide) rfl (fun ls hl => ?_)
  refine lv_iload_n C.1 C.2.1 dX5_thereAre_70 rfl (lv_at hl 0 rfl) ?_
  refine lv_iload_n C.1 C.2.1 dX5_thereAre_71 rfl (lv_at hl 2 rfl) ?_
  refine lv_bipush (v := 8) C.1 C.2.1 dX5_thereAre_72 (by decide) ?_
  refine lv_icmp_ne (tgt := 104) C.1 C.2.1 dX5_thereAre_74 (by decide) (fun c10 => ?_) (fun c10 => ?_)
  · have h := h.1 c10
    exact k_X5_thereAre_J104 C hK4 v3 (t1 + t0) u _ _ _ h hW (lv_sub hl [1, 2, 3] rfl)
  · have h := h.2 c10
    refine lv_iload_n C.1 C.2.1 dX5_thereAre_77 rfl (lv_at hl 3 rfl) ?_
    refine lv_iconst (v := 3) C.1 C.2.1 dX5_thereAre_78 (by decide) ?_
    refine lv_icmp_ge (tgt := 104) C.1 C.2.1 dX5_thereAre_79 (by decide) (fun c11 => ?_) (fun c11 => ?_)
    · have h := h.1 c11
      exact k_X5_thereAre_J104 C hK4 v3 (t1 + t0) u _ _ _ h hW (lv_sub hl [1, 2, 3] rfl)
    · have h := h.2 c11
      refine lv_aload_n C.1 C.2.1 dX5_thereAre_82 rfl (lv_at hl 1 rfl) ?_
      refine fg_X5_51 C hW dX5_thereAre_83 ?_
      refine lv_iload_n C.1 C.2.1 dX5_thereAre_86 rfl (lv_at hl 3 rfl) ?_
      refine lv_iconst (v := 3) C.1 C.2.1 dX5_thereAre_87 (by decide) ?_
      refine lv_icmp_ge (tgt := 95) C.1 C.2.1 dX5_thereAre_88 (by decide) (fun c12 => ?_) (fun c12 => ?_)
      · have h := h.1 c12
        refine lv_iconst (v := 0) C.1 C.2.1 dX5_thereAre_95 (by decide) ?_
        exact k_X5_thereAre_J96 C hK4 v3 0 (t1 + t0) u _ _ _ h hW (lv_sub hl [1, 2, 3] rfl)
      · have h := h.2 c12
        refine lv_iload_n C.1 C.2.1 dX5_thereAre_91 rfl (lv_at hl 3 rfl) ?_
        refine lv_goto (tgt := 96) C.1 C.2.1 dX5_thereAre_92 (by decide) ?_
        exact k_X5_thereAre_J96 C hK4 v3 v3 (t1 + t0) u _ _ _ h hW (lv_sub hl [1, 2, 3] rfl)
set_option maxRecDepth 100000 in
theorem k_X5_thereAre_J67 {p : Program} {l : Launch} {e : Env} {s : State} {m : MethodId} {args : Array Value} {below : List Frame} {meth : Method} {c : Code} {g : GG} {A : Nat → Prop} {p1 : Int32} {Q : Int32 → St → Prop} (C : MC p s m args meth c cX5_thereAre 4 RX5 (some .int) g A) {K4 : Int32 → Int32 → St → Prop} (hK4 : ∀ (v2 : Int32) (v3 : Int32) (u : St) (H : Heap) (locs : List Loc) (ls : Array Slot), K4 v2 v3 u → WD g A s u H locs → lv_has ls 4 [(0, .ref (gad g 39)), (1, .int p1), (2, .int v2), (3, .int v3)] → W p l e rm_X5_thereAre s m args below meth c H locs 0 0 (MQ below (va_Qi Q (WQ g) A) args s 0 0 A) (F0 m 4 ls [])) : ∀ (v3 : Int32) (t0 : Int32) (u : St) (H : Heap) (locs : List Loc) (ls : Array Slot), wp_X5_thereAre_J67 p1 Q K4 v3 t0 u → WD g A s u H locs → lv_has ls 4 [(0, .ref (gad g 39)), (1, .int p1), (3, .int v3)] → W p l e rm_X5_thereAre s m args below meth c H locs 0 0 (MQ below (va_Qi Q (WQ g) A) args s 0 0 A) (F0 m 67 ls [.int t0]) := by
  intro v3 t0 u H locs ls h hW hl
  refine lv_iconst (v := 0) C.1 C.2.1 dX5_thereAre_67 (by decide) ?_
  exact k_X5_thereAre_J68 C hK4 v3 0 t0 u _ _ _ h hW hl
set_option maxRecDepth 100000 in
theorem k_X5_thereAre_J59 {p : Program} {l : Launch} {e : Env} {s : State} {m : MethodId} {args : Array Value} {below : List Frame} {meth : Method} {c : Code} {g : GG} {A : Nat → Prop} {p1 : Int32} {Q : Int32 → St → Prop} (C : MC p s m args meth c cX5_thereAre 4 RX5 (some .int) g A) {K4 : Int32 → Int32 → St → Prop} (hK4 : ∀ (v2 : Int32) (v3 : Int32) (u : St) (H : Heap) (locs : List Loc) (ls : Array Slot), K4 v2 v3 u → WD g A s u H locs → lv_has ls 4 [(0, .ref (gad g 39)), (1, .int p1), (2, .int v2), (3, .int v3)] → W p l e rm_X5_thereAre s m args below meth c H locs 0 0 (MQ below (va_Qi Q (WQ g) A) args s 0 0 A) (F0 m 4 ls [])) : ∀ (v3 : Int32) (t0 : Int32) (t2 : Int32) (u : St) (H : Heap) (locs : List Loc) (ls : Array Slot), wp_X5_thereAre_J59 p1 Q K4 v3 t0 t2 u → WD g A s u H locs → lv_has ls 4 [(0, .ref (gad g 39)), (1, .int p1), (3, .int v3)] → W p l e rm_X5_thereAre s m args below meth c H locs 0 0 (MQ below (va_Qi Q (WQ g) A) args s 0 0 A) (F0 m 59 ls [.int t0, .ref (gad g 43), .int t2]) := by
  intro v3 t0 t2 u H locs ls h hW hl
  obtain ⟨h8, h⟩ := h
  refine x_iald C hW g_43 h8 dX5_thereAre_59 ?_
  refine lv_if_lt (tgt := 67) C.1 C.2.1 dX5_thereAre_60 (by decide) (fun c9 => ?_) (fun c9 => ?_)
  · have h := h.1 c9
    exact k_X5_thereAre_J67 C hK4 v3 t2 u _ _ _ h hW hl
  · have h := h.2 c9
    refine lv_iconst (v := 1) C.1 C.2.1 dX5_thereAre_63 (by decide) ?_
    refine lv_goto (tgt := 68) C.1 C.2.1 dX5_thereAre_64 (by decide) ?_
    exact k_X5_thereAre_J68 C hK4 v3 1 t2 u _ _ _ h hW hl
set_option maxRecDepth 100000 in
theorem k_X5_thereAre_J31 {p : Program} {l : Launch} {e : Env} {s : State} {m : MethodId} {args : Array Value} {below : List Frame} {meth : Method} {c : Code} {g : GG} {A : Nat → Prop} {p1 : Int32} {Q : Int32 → St → Prop} (C : MC p s m args meth c cX5_thereAre 4 RX5 (some .int) g A) {K4 : Int32 → Int32 → St → Prop} (hK4 : ∀ (v2 : Int32) (v3 : Int32) (u : St) (H : Heap) (locs : List Loc) (ls : Array Slot), K4 v2 v3 u → WD g A s u H locs → lv_has ls 4 [(0, .ref (gad g 39)), (1, .int p1), (2, .int v2), (3, .int v3)] → W p l e rm_X5_thereAre s m args below meth c H locs 0 0 (MQ below (va_Qi Q (WQ g) A) args s 0 0 A) (F0 m 4 ls [])) : ∀ (v3 : Int32) (t0 : Int32) (t1 : Int32) (u : St) (H : Heap) (locs : List Loc) (ls : Array Slot), wp_X5_thereAre_J31 p1 Q K4 v3 t0 t1 u → WD g A s u H locs → lv_has ls 4 [(0, .ref (gad g 39)), (1, .int p1), (3, .int v3)] → W p l e rm_X5_thereAre s m args below meth c H locs 0 0 (MQ below (va_Qi Q (WQ g) A) args s 0 0 A) (F0 m 31 ls [.int t0, .int t1]) := by
  intro v3 t0 t1 u H locs ls h hW hl
  refine lv_iadd C.1 C.2.1 dX5_thereAre_31 ?_
  refine lv_istore_n (lv' := [(2, .int (t1 + t0)), (0, .ref (gad g 39)), (1, .int p1), (3, .int v3)]) C.1 C.2.1 dX5_thereAre_32 rfl hl (by decide) rfl (fun ls hl => ?_)
  refine lv_iload_n C.1 C.2.1 dX5_thereAre_33 rfl (lv_at hl 0 rfl) ?_
  refine lv_iload_n C.1 C.2.1 dX5_thereAre_34 rfl (lv_at hl 2 rfl) ?_
  refine lv_bipush (v := 7) C.1 C.2.1 dX5_thereAre_35 (by decide) ?_
  refine lv_icmp_ne (tgt := 67) C.1 C.2.1 dX5_thereAre_37 (by decide) (fun c5 => ?_) (fun c5 => ?_)
  · have h := h.1 c5
    exact k_X5_thereAre_J67 C hK4 v3 (t1 + t0) u _ _ _ h hW (lv_sub hl [1, 2, 3] rfl)
  · have h := h.2 c5
    refine lv_iload_n C.1 C.2.1 dX5_thereAre_40 rfl (lv_at hl 3 rfl) ?_
    refine lv_iconst (v := 4) C.1 C.2.1 dX5_thereAre_41 (by decide) ?_
    refine lv_icmp_ge (tgt := 67) C.1 C.2.1 dX5_thereAre_42 (by decide) (fun c6 => ?_) (fun c6 => ?_)
    · have h := h.1 c6
      exact k_X5_thereAre_J67 C hK4 v3 (t1 + t0) u _ _ _ h hW (lv_sub hl [1, 2, 3] rfl)
    · have h := h.2 c6
      refine lv_aload_n C.1 C.2.1 dX5_thereAre_45 rfl (lv_at hl 1 rfl) ?_
      refine fg_X5_23 C hW dX5_thereAre_46 ?_
      refine lv_iload_n C.1 C.2.1 dX5_thereAre_49 rfl (lv_at hl 3 rfl) ?_
      refine lv_iconst (v := 4) C.1 C.2.1 dX5_thereAre_50 (by decide) ?_
      refine lv_icmp_ge (tgt := 58) C.1 C.2.1 dX5_thereAre_51 (by decide) (fun c7 => ?_) (fun c7 => ?_)
      · have h := h.1 c7
        refine lv_iconst (v := 0) C.1 C.2.1 dX5_thereAre_58 (by decide) ?_
        exact k_X5_thereAre_J59 C hK4 v3 0 (t1 + t0) u _ _ _ h hW (lv_sub hl [1, 2, 3] rfl)
      · have h := h.2 c7
        refine lv_iload_n C.1 C.2.1 dX5_thereAre_54 rfl (lv_at hl 3 rfl) ?_
        refine lv_goto (tgt := 59) C.1 C.2.1 dX5_thereAre_55 (by decide) ?_
        exact k_X5_thereAre_J59 C hK4 v3 v3 (t1 + t0) u _ _ _ h hW (lv_sub hl [1, 2, 3] rfl)
set_option maxRecDepth 100000 in
theorem k_X5_thereAre_J30 {p : Program} {l : Launch} {e : Env} {s : State} {m : MethodId} {args : Array Value} {below : List Frame} {meth : Method} {c : Code} {g : GG} {A : Nat → Prop} {p1 : Int32} {Q : Int32 → St → Prop} (C : MC p s m args meth c cX5_thereAre 4 RX5 (some .int) g A) {K4 : Int32 → Int32 → St → Prop} (hK4 : ∀ (v2 : Int32) (v3 : Int32) (u : St) (H : Heap) (locs : List Loc) (ls : Array Slot), K4 v2 v3 u → WD g A s u H locs → lv_has ls 4 [(0, .ref (gad g 39)), (1, .int p1), (2, .int v2), (3, .int v3)] → W p l e rm_X5_thereAre s m args below meth c H locs 0 0 (MQ below (va_Qi Q (WQ g) A) args s 0 0 A) (F0 m 4 ls [])) : ∀ (v3 : Int32) (t0 : Int32) (u : St) (H : Heap) (locs : List Loc) (ls : Array Slot), wp_X5_thereAre_J30 p1 Q K4 v3 t0 u → WD g A s u H locs → lv_has ls 4 [(0, .ref (gad g 39)), (1, .int p1), (3, .int v3)] → W p l e rm_X5_thereAre s m args below meth c H locs 0 0 (MQ below (va_Qi Q (WQ g) A) args s 0 0 A) (F0 m 30 ls [.int t0]) := by
  intro v3 t0 u H locs ls h hW hl
  refine lv_iconst (v := 0) C.1 C.2.1 dX5_thereAre_30 (by decide) ?_
  exact k_X5_thereAre_J31 C hK4 v3 0 t0 u _ _ _ h hW hl
set_option maxRecDepth 100000 in
theorem k_X5_thereAre_B4 {p : Program} {l : Launch} {e : Env} {s : State} {m : MethodId} {args : Array Value} {below : List Frame} {meth : Method} {c : Code} {g : GG} {A : Nat → Prop} {p1 : Int32} {Q : Int32 → St → Prop} (C : MC p s m args meth c cX5_thereAre 4 RX5 (some .int) g A) {K4 : Int32 → Int32 → St → Prop} (hK4 : ∀ (v2 : Int32) (v3 : Int32) (u : St) (H : Heap) (locs : List Loc) (ls : Array Slot), K4 v2 v3 u → WD g A s u H locs → lv_has ls 4 [(0, .ref (gad g 39)), (1, .int p1), (2, .int v2), (3, .int v3)] → W p l e rm_X5_thereAre s m args below meth c H locs 0 0 (MQ below (va_Qi Q (WQ g) A) args s 0 0 A) (F0 m 4 ls [])) : ∀ (v2 : Int32) (v3 : Int32) (u : St) (H : Heap) (locs : List Loc) (ls : Array Slot), wp_X5_thereAre_B4 p1 Q K4 v2 v3 u → WD g A s u H locs → lv_has ls 4 [(0, .ref (gad g 39)), (1, .int p1), (2, .int v2), (3, .int v3)] → W p l e rm_X5_thereAre s m args below meth c H locs 0 0 (MQ below (va_Qi Q (WQ g) A) args s 0 0 A) (F0 m 4 ls []) := by
  intro v2 v3 u H locs ls h hW hl
  refine lv_iload_n C.1 C.2.1 dX5_thereAre_4 rfl (lv_at hl 3 rfl) ?_
  refine lv_bipush (v := 6) C.1 C.2.1 dX5_thereAre_5 (by decide) ?_
  refine lv_icmp_ge (tgt := 113) C.1 C.2.1 dX5_thereAre_7 (by decide) (fun c1 => ?_) (fun c1 => ?_)
  · have h := h.1 c1
    refine lv_iload_n C.1 C.2.1 dX5_thereAre_113 rfl (lv_at hl 2 rfl) ?_
    exact x_iret C hW h dX5_thereAre_114
  · have h := h.2 c1
    refine lv_iload_n C.1 C.2.1 dX5_thereAre_10 rfl (lv_at hl 2 rfl) ?_
    refine lv_iload_n C.1 C.2.1 dX5_thereAre_11 rfl (lv_at hl 1 rfl) ?_
    refine lv_bipush (v := 6) C.1 C.2.1 dX5_thereAre_12 (by decide) ?_
    refine lv_icmp_ne (tgt := 30) C.1 C.2.1 dX5_thereAre_14 (by decide) (fun c2 => ?_) (fun c2 => ?_)
    · have h := h.1 c2
      exact k_X5_thereAre_J30 C hK4 v3 v2 u _ _ _ h hW (lv_sub hl [0, 1, 3] rfl)
    · have h := h.2 c2
      refine lv_aload_n C.1 C.2.1 dX5_thereAre_17 rfl (lv_at hl 0 rfl) ?_
      refine fg_X5_17 C hW dX5_thereAre_18 ?_
      refine lv_iload_n C.1 C.2.1 dX5_thereAre_21 rfl (lv_at hl 3 rfl) ?_
      obtain ⟨h3, h⟩ := h
      refine x_iald C hW g_41 h3 dX5_thereAre_22 ?_
      refine lv_if_lt (tgt := 30) C.1 C.2.1 dX5_thereAre_23 (by decide) (fun c4 => ?_) (fun c4 => ?_)
      · have h := h.1 c4
        exact k_X5_thereAre_J30 C hK4 v3 v2 u _ _ _ h hW (lv_sub hl [0, 1, 3] rfl)
      · have h := h.2 c4
        refine lv_iconst (v := 1) C.1 C.2.1 dX5_thereAre_26 (by decide) ?_
        refine lv_goto (tgt := 31) C.1 C.2.1 dX5_thereAre_27 (by decide) ?_
        exact k_X5_thereAre_J31 C hK4 v3 1 v2 u _ _ _ h hW (lv_sub hl [0, 1, 3] rfl)
theorem k_X5_thereAre_L4 {p : Program} {l : Launch} {e : Env} {s : State} {m : MethodId} {args : Array Value} {below : List Frame} {meth : Method} {c : Code} {g : GG} {A : Nat → Prop} {p1 : Int32} {Q : Int32 → St → Prop} (C : MC p s m args meth c cX5_thereAre 4 RX5 (some .int) g A) : ∀ (n : Nat), ∀ (v2 : Int32) (v3 : Int32) (u : St) (H : Heap) (locs : List Loc) (ls : Array Slot), wp_X5_thereAre_L4 p1 Q n v2 v3 u → WD g A s u H locs → lv_has ls 4 [(0, .ref (gad g 39)), (1, .int p1), (2, .int v2), (3, .int v3)] → W p l e rm_X5_thereAre s m args below meth c H locs 0 0 (MQ below (va_Qi Q (WQ g) A) args s 0 0 A) (F0 m 4 ls []) := by
  intro n
  induction n with
  | zero => intro v2 v3 u H locs ls h; exact False.elim h
  | succ n ih => exact k_X5_thereAre_B4 (p1 := p1) C ih
set_option maxRecDepth 100000 in
theorem c_X5_thereAre (l : Launch) (g : GG) {p1 : Int32} {u : St} {Q : Int32 → St → Prop} (h : wp_X5_thereAre p1 u Q) : CI l yX5_thereAre cX5_thereAre 4 (some .int) rm_X5_thereAre g [.ref (gad g 39), .int p1] u Q := by
  refine ent (own := RX5) (Qc := va_Qi Q (WQ g)) (by decide) rfl (Nat.le_of_ble_eq_true rfl) ?_
  intro p e s m below meth c A ls C hl hW
  have hl : lv_has ls 4 [(0, .ref (gad g 39)), (1, .int p1)] := hl
  unfold wp_X5_thereAre at h
  refine lv_iconst (v := 0) C.1 C.2.1 dX5_thereAre_0 (by decide) ?_
  refine lv_istore_n (lv' := [(2, .int 0), (0, .ref (gad g 39)), (1, .int p1)]) C.1 C.2.1 dX5_thereAre_1 rfl hl (by decide) rfl (fun ls hl => ?_)
  refine lv_iconst (v := 0) C.1 C.2.1 dX5_thereAre_2 (by decide) ?_
  refine lv_istore_n (lv' := [(3, .int 0), (2, .int 0), (0, .ref (gad g 39)), (1, .int p1)]) C.1 C.2.1 dX5_thereAre_3 rfl hl (by decide) rfl (fun ls hl => ?_)
  obtain ⟨n, h⟩ := h
  exact k_X5_thereAre_L4 C n 0 0 u _ _ _ h hW (lv_sub hl [2, 3, 1, 0] rfl)
set_option maxRecDepth 100000 in
theorem c_X5_count (l : Launch) (g : GG) {p1 : Int32} {u : St} {Q : Int32 → St → Prop} (h : wp_X5_count p1 u Q) : CI l yX5_count cX5_count 2 (some .int) rm_X5_count g [.ref (gad g 39), .int p1] u Q := by
  refine ent (own := RX5) (Qc := va_Qi Q (WQ g)) (by decide) rfl (Nat.le_of_ble_eq_true rfl) ?_
  intro p e s m below meth c A ls C hl hW
  have hl : lv_has ls 2 [(0, .ref (gad g 39)), (1, .int p1)] := hl
  unfold wp_X5_count at h
  refine lv_iload_n C.1 C.2.1 dX5_count_0 rfl (lv_at hl 1 rfl) ?_
  by_cases c1 : p1 = 0
  · refine lv_tableIn (off := 59) (tgt := 60) C.1 C.2.1 dX5_count_1 (by rw [c1]; decide +kernel) (by rw [c1]; decide +kernel) (by rw [c1]; decide +kernel) (by decide) ?_
    have h := h.1 c1
    refine lv_aload_n C.1 C.2.1 dX5_count_60 rfl (lv_at hl 0 rfl) ?_
    refine fg_X5_116 C hW dX5_count_61 ?_
    exact x_iret C hW h dX5_count_64
  · skip
    by_cases c2 : p1 = 1
    · refine lv_tableIn (off := 64) (tgt := 65) C.1 C.2.1 dX5_count_1 (by rw [c2]; decide +kernel) (by rw [c2]; decide +kernel) (by rw [c2]; decide +kernel) (by decide) ?_
      have h := h.2.1 c2
      refine lv_aload_n C.1 C.2.1 dX5_count_65 rfl (lv_at hl 0 rfl) ?_
      refine lv_iconst (v := 1) C.1 C.2.1 dX5_count_66 (by decide) ?_
      refine x_Vi (rest := []) C hW (c_X5_now l g h) km_X5_now oModel rfl qm_X5_122 ⟨rfl, rfl⟩ (by decide) rfl hl.1 rfl (Nat.le_of_ble_eq_true rfl) ⟨Nat.zero_le _, Nat.zero_le _⟩ dX5_count_67 (fun r3 u3 H locs h hW => ?_)
      exact x_iret C hW h dX5_count_70
    · skip
      by_cases c4 : p1 = 2
      · refine lv_tableIn (off := 70) (tgt := 71) C.1 C.2.1 dX5_count_1 (by rw [c4]; decide +kernel) (by rw [c4]; decide +kernel) (by rw [c4]; decide +kernel) (by decide) ?_
        have h := h.2.2.1 c4
        refine lv_aload_n C.1 C.2.1 dX5_count_71 rfl (lv_at hl 0 rfl) ?_
        refine fg_X5_119 C hW dX5_count_72 ?_
        exact x_iret C hW h dX5_count_75
      · skip
        by_cases c5 : p1 = 3
        · refine lv_tableIn (off := 75) (tgt := 76) C.1 C.2.1 dX5_count_1 (by rw [c5]; decide +kernel) (by rw [c5]; decide +kernel) (by rw [c5]; decide +kernel) (by decide) ?_
          have h := h.2.2.2.1 c5
          refine lv_aload_n C.1 C.2.1 dX5_count_76 rfl (lv_at hl 0 rfl) ?_
          refine lv_iconst (v := 0) C.1 C.2.1 dX5_count_77 (by decide) ?_
          refine x_Vi (rest := []) C hW (c_X5_now l g h) km_X5_now oModel rfl qm_X5_122 ⟨rfl, rfl⟩ (by decide) rfl hl.1 rfl (Nat.le_of_ble_eq_true rfl) ⟨Nat.zero_le _, Nat.zero_le _⟩ dX5_count_78 (fun r6 u6 H locs h hW => ?_)
          exact x_iret C hW h dX5_count_81
        · skip
          by_cases c7 : p1 = 4
          · refine lv_tableIn (off := 81) (tgt := 82) C.1 C.2.1 dX5_count_1 (by rw [c7]; decide +kernel) (by rw [c7]; decide +kernel) (by rw [c7]; decide +kernel) (by decide) ?_
            have h := h.2.2.2.2.1 c7
            refine lv_aload_n C.1 C.2.1 dX5_count_82 rfl (lv_at hl 0 rfl) ?_
            refine lv_iconst (v := 2) C.1 C.2.1 dX5_count_83 (by decide) ?_
            refine x_Vi (rest := []) C hW (c_X5_now l g h) km_X5_now oModel rfl qm_X5_122 ⟨rfl, rfl⟩ (by decide) rfl hl.1 rfl (Nat.le_of_ble_eq_true rfl) ⟨Nat.zero_le _, Nat.zero_le _⟩ dX5_count_84 (fun r8 u8 H locs h hW => ?_)
            exact x_iret C hW h dX5_count_87
          · skip
            by_cases c9 : p1 = 5
            · refine lv_tableIn (off := 87) (tgt := 88) C.1 C.2.1 dX5_count_1 (by rw [c9]; decide +kernel) (by rw [c9]; decide +kernel) (by rw [c9]; decide +kernel) (by decide) ?_
              have h := h.2.2.2.2.2.1 c9
              refine lv_aload_n C.1 C.2.1 dX5_count_88 rfl (lv_at hl 0 rfl) ?_
              refine x_Vi (rest := []) C hW (c_X5_toldNow l g h) km_X5_toldNow oModel rfl qm_X5_146 ⟨rfl, rfl⟩ (by decide) rfl hl.1 rfl (Nat.le_of_ble_eq_true rfl) ⟨Nat.zero_le _, Nat.zero_le _⟩ dX5_count_89 (fun r10 u10 H locs h hW => ?_)
              refine x_Si (rest := []) C hW (c_X5_bitsOf l g h) km_X5_bitsOf qm_X5_156 ⟨rfl, rfl⟩ (by decide) rfl hl.1 rfl (Nat.le_of_ble_eq_true rfl) ⟨Nat.zero_le _, Nat.zero_le _⟩ dX5_count_92 (fun r11 u11 H locs h hW => ?_)
              exact x_iret C hW h dX5_count_95
            · skip
              by_cases c12 : p1 = 6
              · refine lv_tableIn (off := 95) (tgt := 96) C.1 C.2.1 dX5_count_1 (by rw [c12]; decide +kernel) (by rw [c12]; decide +kernel) (by rw [c12]; decide +kernel) (by decide) ?_
                have h := h.2.2.2.2.2.2.1 c12
                refine lv_aload_n C.1 C.2.1 dX5_count_96 rfl (lv_at hl 0 rfl) ?_
                refine lv_iload_n C.1 C.2.1 dX5_count_97 rfl (lv_at hl 1 rfl) ?_
                refine x_Vi (rest := []) C hW (c_X5_thereAre l g h) km_X5_thereAre oModel rfl qm_X5_220 ⟨rfl, rfl⟩ (by decide) rfl hl.1 rfl (Nat.le_of_ble_eq_true rfl) ⟨Nat.zero_le _, Nat.zero_le _⟩ dX5_count_98 (fun r13 u13 H locs h hW => ?_)
                exact x_iret C hW h dX5_count_101
              · skip
                by_cases c14 : p1 = 7
                · refine lv_tableIn (off := 95) (tgt := 96) C.1 C.2.1 dX5_count_1 (by rw [c14]; decide +kernel) (by rw [c14]; decide +kernel) (by rw [c14]; decide +kernel) (by decide) ?_
                  have h := h.2.2.2.2.2.2.2.1 c14
                  refine lv_aload_n C.1 C.2.1 dX5_count_96 rfl (lv_at hl 0 rfl) ?_
                  refine lv_iload_n C.1 C.2.1 dX5_count_97 rfl (lv_at hl 1 rfl) ?_
                  refine x_Vi (rest := []) C hW (c_X5_thereAre l g h) km_X5_thereAre oModel rfl qm_X5_220 ⟨rfl, rfl⟩ (by decide) rfl hl.1 rfl (Nat.le_of_ble_eq_true rfl) ⟨Nat.zero_le _, Nat.zero_le _⟩ dX5_count_98 (fun r15 u15 H locs h hW => ?_)
                  exact x_iret C hW h dX5_count_101
                · skip
                  by_cases c16 : p1 = 8
                  · refine lv_tableIn (off := 95) (tgt := 96) C.1 C.2.1 dX5_count_1 (by rw [c16]; decide +kernel) (by rw [c16]; decide +kernel) (by rw [c16]; decide +kernel) (by decide) ?_
                    have h := h.2.2.2.2.2.2.2.2.1 c16
                    refine lv_aload_n C.1 C.2.1 dX5_count_96 rfl (lv_at hl 0 rfl) ?_
                    refine lv_iload_n C.1 C.2.1 dX5_count_97 rfl (lv_at hl 1 rfl) ?_
                    refine x_Vi (rest := []) C hW (c_X5_thereAre l g h) km_X5_thereAre oModel rfl qm_X5_220 ⟨rfl, rfl⟩ (by decide) rfl hl.1 rfl (Nat.le_of_ble_eq_true rfl) ⟨Nat.zero_le _, Nat.zero_le _⟩ dX5_count_98 (fun r17 u17 H locs h hW => ?_)
                    exact x_iret C hW h dX5_count_101
                  · skip
                    by_cases c18 : p1 = 9
                    · refine lv_tableIn (off := 101) (tgt := 102) C.1 C.2.1 dX5_count_1 (by rw [c18]; decide +kernel) (by rw [c18]; decide +kernel) (by rw [c18]; decide +kernel) (by decide) ?_
                      have h := h.2.2.2.2.2.2.2.2.2.1 c18
                      refine lv_aload_n C.1 C.2.1 dX5_count_102 rfl (lv_at hl 0 rfl) ?_
                      refine lv_iconst (v := 1) C.1 C.2.1 dX5_count_103 (by decide) ?_
                      refine lv_iconst (v := 4) C.1 C.2.1 dX5_count_104 (by decide) ?_
                      refine x_Vi (rest := []) C hW (c_X5_ofKinds l g h) km_X5_ofKinds oModel rfl qm_X5_223 ⟨rfl, rfl⟩ (by decide) rfl hl.1 rfl (Nat.le_of_ble_eq_true rfl) ⟨Nat.zero_le _, Nat.zero_le _⟩ dX5_count_105 (fun r19 u19 H locs h hW => ?_)
                      exact x_iret C hW h dX5_count_108
                    · skip
                      by_cases c20 : p1 = 10
                      · refine lv_tableIn (off := 108) (tgt := 109) C.1 C.2.1 dX5_count_1 (by rw [c20]; decide +kernel) (by rw [c20]; decide +kernel) (by rw [c20]; decide +kernel) (by decide) ?_
                        have h := h.2.2.2.2.2.2.2.2.2.2.1 c20
                        refine lv_aload_n C.1 C.2.1 dX5_count_109 rfl (lv_at hl 0 rfl) ?_
                        refine lv_iconst (v := 2) C.1 C.2.1 dX5_count_110 (by decide) ?_
                        refine lv_iconst (v := 5) C.1 C.2.1 dX5_count_111 (by decide) ?_
                        refine x_Vi (rest := []) C hW (c_X5_ofKinds l g h) km_X5_ofKinds oModel rfl qm_X5_223 ⟨rfl, rfl⟩ (by decide) rfl hl.1 rfl (Nat.le_of_ble_eq_true rfl) ⟨Nat.zero_le _, Nat.zero_le _⟩ dX5_count_112 (fun r21 u21 H locs h hW => ?_)
                        exact x_iret C hW h dX5_count_115
                      · skip
                        have c22 : (p1).toInt < 0 ∨ 10 < (p1).toInt := by
                          have ec1 : (p1).toInt ≠ 0 := fun z => c1 (Int32.toInt_inj.mp (by rw [z]; rfl))
                          have ec2 : (p1).toInt ≠ 1 := fun z => c2 (Int32.toInt_inj.mp (by rw [z]; rfl))
                          have ec4 : (p1).toInt ≠ 2 := fun z => c4 (Int32.toInt_inj.mp (by rw [z]; rfl))
                          have ec5 : (p1).toInt ≠ 3 := fun z => c5 (Int32.toInt_inj.mp (by rw [z]; rfl))
                          have ec7 : (p1).toInt ≠ 4 := fun z => c7 (Int32.toInt_inj.mp (by rw [z]; rfl))
                          have ec9 : (p1).toInt ≠ 5 := fun z => c9 (Int32.toInt_inj.mp (by rw [z]; rfl))
                          have ec12 : (p1).toInt ≠ 6 := fun z => c12 (Int32.toInt_inj.mp (by rw [z]; rfl))
                          have ec14 : (p1).toInt ≠ 7 := fun z => c14 (Int32.toInt_inj.mp (by rw [z]; rfl))
                          have ec16 : (p1).toInt ≠ 8 := fun z => c16 (Int32.toInt_inj.mp (by rw [z]; rfl))
                          have ec18 : (p1).toInt ≠ 9 := fun z => c18 (Int32.toInt_inj.mp (by rw [z]; rfl))
                          have ec20 : (p1).toInt ≠ 10 := fun z => c20 (Int32.toInt_inj.mp (by rw [z]; rfl))
                          omega
                        refine lv_tableOut (tgt := 116) C.1 C.2.1 dX5_count_1 c22 (by decide) ?_
                        have h := h.2.2.2.2.2.2.2.2.2.2.2 c22
                        refine lv_iconst (v := (-1)) C.1 C.2.1 dX5_count_116 (by decide) ?_
                        exact x_iret C hW h dX5_count_117
set_option maxRecDepth 100000 in
theorem c_X5_flipped (l : Launch) (g : GG) {p0 : Int32} {p1 : Int32} {u : St} {Q : Int32 → St → Prop} (h : wp_X5_flipped p0 p1 u Q) : CI l yX5_flipped cX5_flipped 2 (some .int) rm_X5_flipped g [.int p0, .int p1] u Q := by
  refine ent (own := RX5) (Qc := va_Qi Q (WQ g)) (by decide) rfl (Nat.le_of_ble_eq_true rfl) ?_
  intro p e s m below meth c A ls C hl hW
  have hl : lv_has ls 2 [(0, .int p0), (1, .int p1)] := hl
  unfold wp_X5_flipped at h
  refine lv_iload_n C.1 C.2.1 dX5_flipped_0 rfl (lv_at hl 0 rfl) ?_
  refine lv_iload_n C.1 C.2.1 dX5_flipped_1 rfl (lv_at hl 1 rfl) ?_
  refine x_Si (rest := []) C hW (c_X5_has l g h) km_X5_has qm_X5_125 ⟨rfl, rfl⟩ (by decide) rfl hl.1 rfl (Nat.le_of_ble_eq_true rfl) ⟨Nat.zero_le _, Nat.zero_le _⟩ dX5_flipped_2 (fun r1 u1 H locs h hW => ?_)
  refine lv_if_eq (tgt := 18) C.1 C.2.1 dX5_flipped_5 (by decide) (fun c2 => ?_) (fun c2 => ?_)
  · have h := h.1 c2
    refine lv_iload_n C.1 C.2.1 dX5_flipped_18 rfl (lv_at hl 0 rfl) ?_
    refine lv_iconst (v := 1) C.1 C.2.1 dX5_flipped_19 (by decide) ?_
    refine lv_iload_n C.1 C.2.1 dX5_flipped_20 rfl (lv_at hl 1 rfl) ?_
    refine lv_ishl C.1 C.2.1 dX5_flipped_21 ?_
    refine lv_ior C.1 C.2.1 dX5_flipped_22 ?_
    exact x_iret C hW h dX5_flipped_23
  · have h := h.2 c2
    refine lv_iload_n C.1 C.2.1 dX5_flipped_8 rfl (lv_at hl 0 rfl) ?_
    refine lv_iconst (v := 1) C.1 C.2.1 dX5_flipped_9 (by decide) ?_
    refine lv_iload_n C.1 C.2.1 dX5_flipped_10 rfl (lv_at hl 1 rfl) ?_
    refine lv_ishl C.1 C.2.1 dX5_flipped_11 ?_
    refine lv_iconst (v := (-1)) C.1 C.2.1 dX5_flipped_12 (by decide) ?_
    refine lv_ixor C.1 C.2.1 dX5_flipped_13 ?_
    refine lv_iand C.1 C.2.1 dX5_flipped_14 ?_
    refine lv_goto (tgt := 23) C.1 C.2.1 dX5_flipped_15 (by decide) ?_
    exact x_iret C hW h dX5_flipped_23
set_option maxRecDepth 100000 in
theorem c_X5_isLine (l : Launch) (g : GG) {p0 : Int32} {u : St} {Q : Int32 → St → Prop} (h : wp_X5_isLine p0 u Q) : CI l yX5_isLine cX5_isLine 1 (some .boolean) rm_X5_isLine g [.int p0] u Q := by
  refine ent (own := RX5) (Qc := va_Qi Q (WQ g)) (by decide) rfl (Nat.le_of_ble_eq_true rfl) ?_
  intro p e s m below meth c A ls C hl hW
  have hl : lv_has ls 1 [(0, .int p0)] := hl
  unfold wp_X5_isLine at h
  refine lv_iload_n C.1 C.2.1 dX5_isLine_0 rfl (lv_at hl 0 rfl) ?_
  refine lv_iconst (v := 0) C.1 C.2.1 dX5_isLine_1 (by decide) ?_
  refine lv_iconst (v := 3) C.1 C.2.1 dX5_isLine_2 (by decide) ?_
  refine x_Si (rest := []) C hW (c_X5_in l g h) km_X5_in qm_X5_88 ⟨rfl, rfl⟩ (by decide) rfl hl.1 rfl (Nat.le_of_ble_eq_true rfl) ⟨Nat.zero_le _, Nat.zero_le _⟩ dX5_isLine_3 (fun r1 u1 H locs h hW => ?_)
  exact x_zret C hW h.1 h.2 dX5_isLine_6
set_option maxRecDepth 100000 in
theorem c_X5_cut (l : Launch) (g : GG) {p1 : Int32} {u : St} {Q : Int32 → St → Prop} (h : wp_X5_cut p1 u Q) : CI l yX5_cut cX5_cut 2 (some .int) rm_X5_cut g [.ref (gad g 39), .int p1] u Q := by
  refine ent (own := RX5) (Qc := va_Qi Q (WQ g)) (by decide) rfl (Nat.le_of_ble_eq_true rfl) ?_
  intro p e s m below meth c A ls C hl hW
  have hl : lv_has ls 2 [(0, .ref (gad g 39)), (1, .int p1)] := hl
  unfold wp_X5_cut at h
  refine lv_iload_n C.1 C.2.1 dX5_cut_0 rfl (lv_at hl 1 rfl) ?_
  refine x_Si (rest := []) C hW (c_X5_isLine l g h) km_X5_isLine qm_X5_159 ⟨rfl, rfl⟩ (by decide) rfl hl.1 rfl (Nat.le_of_ble_eq_true rfl) ⟨Nat.zero_le _, Nat.zero_le _⟩ dX5_cut_1 (fun r1 u1 H locs h hW => ?_)
  refine lv_if_ne (tgt := 9) C.1 C.2.1 dX5_cut_4 (by decide) (fun c2 => ?_) (fun c2 => ?_)
  · have h := h.1 c2
    refine lv_aload_n C.1 C.2.1 dX5_cut_9 rfl (lv_at hl 0 rfl) ?_
    refine fg_X5_116 C hW dX5_cut_10 ?_
    refine lv_if_ne (tgt := 19) C.1 C.2.1 dX5_cut_13 (by decide) (fun c3 => ?_) (fun c3 => ?_)
    · have h := h.1 c3
      refine lv_aload_n C.1 C.2.1 dX5_cut_19 rfl (lv_at hl 0 rfl) ?_
      refine fg_X5_119 C hW dX5_cut_20 ?_
      refine lv_bipush (v := 40) C.1 C.2.1 dX5_cut_23 (by decide) ?_
      refine lv_icmp_ne (tgt := 31) C.1 C.2.1 dX5_cut_25 (by decide) (fun c4 => ?_) (fun c4 => ?_)
      · have h := h.1 c4
        refine lv_aload_n C.1 C.2.1 dX5_cut_31 rfl (lv_at hl 0 rfl) ?_
        refine x_Vv (rest := []) C hW (c_X5_begin l g h) km_X5_begin oModel rfl qm_X5_165 ⟨rfl, rfl⟩ (by decide) rfl hl.1 rfl (Nat.le_of_ble_eq_true rfl) ⟨Nat.zero_le _, Nat.zero_le _⟩ dX5_cut_32 (fun u5 H locs h hW => ?_)
        refine lv_aload_n C.1 C.2.1 dX5_cut_35 rfl (lv_at hl 0 rfl) ?_
        refine fg_X5_45 C hW dX5_cut_36 ?_
        refine lv_bipush (v := 10) C.1 C.2.1 dX5_cut_39 (by decide) ?_
        refine lv_aload_n C.1 C.2.1 dX5_cut_41 rfl (lv_at hl 0 rfl) ?_
        refine fg_X5_119 C hW dX5_cut_42 ?_
        refine lv_imul C.1 C.2.1 dX5_cut_45 ?_
        refine lv_iconst (v := 2) C.1 C.2.1 dX5_cut_46 (by decide) ?_
        refine lv_iadd C.1 C.2.1 dX5_cut_47 ?_
        refine lv_aload_n C.1 C.2.1 dX5_cut_48 rfl (lv_at hl 0 rfl) ?_
        refine lv_iconst (v := 2) C.1 C.2.1 dX5_cut_49 (by decide) ?_
        refine x_Vi (rest := [.int ((10 * (gi u5 39 16)) + 2), .ref (gad g 50)]) C hW (c_X5_now l g h) km_X5_now oModel rfl qm_X5_122 ⟨rfl, rfl⟩ (by decide) rfl hl.1 rfl (Nat.le_of_ble_eq_true rfl) ⟨Nat.zero_le _, Nat.zero_le _⟩ dX5_cut_50 (fun r6 u6 H locs h hW => ?_)
        refine lv_iload_n C.1 C.2.1 dX5_cut_53 rfl (lv_at hl 1 rfl) ?_
        refine x_Si (rest := [.int ((10 * (gi u5 39 16)) + 2), .ref (gad g 50)]) C hW (c_X5_flipped l g h) km_X5_flipped qm_X5_162 ⟨rfl, rfl⟩ (by decide) rfl hl.1 rfl (Nat.le_of_ble_eq_true rfl) ⟨Nat.zero_le _, Nat.zero_le _⟩ dX5_cut_54 (fun r7 u7 H locs h hW => ?_)
        obtain ⟨h8, h⟩ := h
        refine x_iast C hW g_50 h8 dX5_cut_57 (fun u9 H locs e9 hW => ?_)
        have h := nxt_get h e9
        refine lv_aload_n C.1 C.2.1 dX5_cut_58 rfl (lv_at hl 0 rfl) ?_
        refine lv_iconst (v := 2) C.1 C.2.1 dX5_cut_59 (by decide) ?_
        refine x_Vi (rest := []) C hW (c_X5_now l g h) km_X5_now oModel rfl qm_X5_122 ⟨rfl, rfl⟩ (by decide) rfl hl.1 rfl (Nat.le_of_ble_eq_true rfl) ⟨Nat.zero_le _, Nat.zero_le _⟩ dX5_cut_60 (fun r10 u10 H locs h hW => ?_)
        refine x_Si (rest := []) C hW (c_X5_bitsOf l g h) km_X5_bitsOf qm_X5_156 ⟨rfl, rfl⟩ (by decide) rfl hl.1 rfl (Nat.le_of_ble_eq_true rfl) ⟨Nat.zero_le _, Nat.zero_le _⟩ dX5_cut_63 (fun r11 u11 H locs h hW => ?_)
        exact x_iret C hW h dX5_cut_66
      · have h := h.2 c4
        refine lv_bipush (v := (-2)) C.1 C.2.1 dX5_cut_28 (by decide) ?_
        exact x_iret C hW h dX5_cut_30
    · have h := h.2 c3
      refine lv_bipush (v := (-4)) C.1 C.2.1 dX5_cut_16 (by decide) ?_
      exact x_iret C hW h dX5_cut_18
  · have h := h.2 c2
    refine lv_iconst (v := (-1)) C.1 C.2.1 dX5_cut_7 (by decide) ?_
    exact x_iret C hW h dX5_cut_8
set_option maxRecDepth 100000 in
theorem c_X5_factOf (l : Launch) (g : GG) {p1 : Int32} {p2 : Int32} {u : St} {Q : Int32 → St → Prop} (h : wp_X5_factOf p1 p2 u Q) : CI l yX5_factOf cX5_factOf 3 (some .int) rm_X5_factOf g [.ref (gad g 39), .int p1, .int p2] u Q := by
  refine ent (own := RX5) (Qc := va_Qi Q (WQ g)) (by decide) rfl (Nat.le_of_ble_eq_true rfl) ?_
  intro p e s m below meth c A ls C hl hW
  have hl : lv_has ls 3 [(0, .ref (gad g 39)), (1, .int p1), (2, .int p2)] := hl
  unfold wp_X5_factOf at h
  refine lv_iload_n C.1 C.2.1 dX5_factOf_0 rfl (lv_at hl 2 rfl) ?_
  by_cases c1 : p2 = 0
  · refine lv_tableIn (off := 43) (tgt := 44) C.1 C.2.1 dX5_factOf_1 (by rw [c1]; decide +kernel) (by rw [c1]; decide +kernel) (by rw [c1]; decide +kernel) (by decide) ?_
    have h := h.1 c1
    refine lv_aload_n C.1 C.2.1 dX5_factOf_44 rfl (lv_at hl 0 rfl) ?_
    refine fg_X5_33 C hW dX5_factOf_45 ?_
    refine lv_iload_n C.1 C.2.1 dX5_factOf_48 rfl (lv_at hl 1 rfl) ?_
    obtain ⟨h2, h⟩ := h
    refine x_iald C hW g_46 h2 dX5_factOf_49 ?_
    exact x_iret C hW h dX5_factOf_50
  · skip
    by_cases c3 : p2 = 1
    · refine lv_tableIn (off := 50) (tgt := 51) C.1 C.2.1 dX5_factOf_1 (by rw [c3]; decide +kernel) (by rw [c3]; decide +kernel) (by rw [c3]; decide +kernel) (by decide) ?_
      have h := h.2.1 c3
      refine lv_aload_n C.1 C.2.1 dX5_factOf_51 rfl (lv_at hl 0 rfl) ?_
      refine fg_X5_36 C hW dX5_factOf_52 ?_
      refine lv_iload_n C.1 C.2.1 dX5_factOf_55 rfl (lv_at hl 1 rfl) ?_
      obtain ⟨h4, h⟩ := h
      refine x_iald C hW g_47 h4 dX5_factOf_56 ?_
      exact x_iret C hW h dX5_factOf_57
    · skip
      by_cases c5 : p2 = 2
      · refine lv_tableIn (off := 57) (tgt := 58) C.1 C.2.1 dX5_factOf_1 (by rw [c5]; decide +kernel) (by rw [c5]; decide +kernel) (by rw [c5]; decide +kernel) (by decide) ?_
        have h := h.2.2.1 c5
        refine lv_aload_n C.1 C.2.1 dX5_factOf_58 rfl (lv_at hl 0 rfl) ?_
        refine fg_X5_39 C hW dX5_factOf_59 ?_
        refine lv_iload_n C.1 C.2.1 dX5_factOf_62 rfl (lv_at hl 1 rfl) ?_
        obtain ⟨h6, h⟩ := h
        refine x_iald C hW g_48 h6 dX5_factOf_63 ?_
        exact x_iret C hW h dX5_factOf_64
      · skip
        by_cases c7 : p2 = 3
        · refine lv_tableIn (off := 64) (tgt := 65) C.1 C.2.1 dX5_factOf_1 (by rw [c7]; decide +kernel) (by rw [c7]; decide +kernel) (by rw [c7]; decide +kernel) (by decide) ?_
          have h := h.2.2.2.1 c7
          refine lv_aload_n C.1 C.2.1 dX5_factOf_65 rfl (lv_at hl 0 rfl) ?_
          refine fg_X5_42 C hW dX5_factOf_66 ?_
          refine lv_iload_n C.1 C.2.1 dX5_factOf_69 rfl (lv_at hl 1 rfl) ?_
          obtain ⟨h8, h⟩ := h
          refine x_iald C hW g_49 h8 dX5_factOf_70 ?_
          exact x_iret C hW h dX5_factOf_71
        · skip
          by_cases c9 : p2 = 4
          · refine lv_tableIn (off := 71) (tgt := 72) C.1 C.2.1 dX5_factOf_1 (by rw [c9]; decide +kernel) (by rw [c9]; decide +kernel) (by rw [c9]; decide +kernel) (by decide) ?_
            have h := h.2.2.2.2.1 c9
            refine lv_aload_n C.1 C.2.1 dX5_factOf_72 rfl (lv_at hl 0 rfl) ?_
            refine lv_iconst (v := 0) C.1 C.2.1 dX5_factOf_73 (by decide) ?_
            refine x_Vi (rest := []) C hW (c_X5_now l g h) km_X5_now oModel rfl qm_X5_122 ⟨rfl, rfl⟩ (by decide) rfl hl.1 rfl (Nat.le_of_ble_eq_true rfl) ⟨Nat.zero_le _, Nat.zero_le _⟩ dX5_factOf_74 (fun r10 u10 H locs h hW => ?_)
            refine lv_iload_n C.1 C.2.1 dX5_factOf_77 rfl (lv_at hl 1 rfl) ?_
            refine x_Si (rest := []) C hW (c_X5_has l g h) km_X5_has qm_X5_125 ⟨rfl, rfl⟩ (by decide) rfl hl.1 rfl (Nat.le_of_ble_eq_true rfl) ⟨Nat.zero_le _, Nat.zero_le _⟩ dX5_factOf_78 (fun r11 u11 H locs h hW => ?_)
            refine lv_if_eq (tgt := 88) C.1 C.2.1 dX5_factOf_81 (by decide) (fun c12 => ?_) (fun c12 => ?_)
            · have h := h.1 c12
              refine lv_iconst (v := 0) C.1 C.2.1 dX5_factOf_88 (by decide) ?_
              exact x_iret C hW h dX5_factOf_89
            · have h := h.2 c12
              refine lv_iconst (v := 1) C.1 C.2.1 dX5_factOf_84 (by decide) ?_
              refine lv_goto (tgt := 89) C.1 C.2.1 dX5_factOf_85 (by decide) ?_
              exact x_iret C hW h dX5_factOf_89
          · skip
            by_cases c13 : p2 = 5
            · refine lv_tableIn (off := 89) (tgt := 90) C.1 C.2.1 dX5_factOf_1 (by rw [c13]; decide +kernel) (by rw [c13]; decide +kernel) (by rw [c13]; decide +kernel) (by decide) ?_
              have h := h.2.2.2.2.2.1 c13
              refine lv_aload_n C.1 C.2.1 dX5_factOf_90 rfl (lv_at hl 0 rfl) ?_
              refine lv_iconst (v := 3) C.1 C.2.1 dX5_factOf_91 (by decide) ?_
              refine lv_iload_n C.1 C.2.1 dX5_factOf_92 rfl (lv_at hl 1 rfl) ?_
              refine lv_iadd C.1 C.2.1 dX5_factOf_93 ?_
              refine x_Vi (rest := []) C hW (c_X5_now l g h) km_X5_now oModel rfl qm_X5_122 ⟨rfl, rfl⟩ (by decide) rfl hl.1 rfl (Nat.le_of_ble_eq_true rfl) ⟨Nat.zero_le _, Nat.zero_le _⟩ dX5_factOf_94 (fun r14 u14 H locs h hW => ?_)
              exact x_iret C hW h dX5_factOf_97
            · skip
              by_cases c15 : p2 = 6
              · refine lv_tableIn (off := 97) (tgt := 98) C.1 C.2.1 dX5_factOf_1 (by rw [c15]; decide +kernel) (by rw [c15]; decide +kernel) (by rw [c15]; decide +kernel) (by decide) ?_
                have h := h.2.2.2.2.2.2.1 c15
                refine lv_aload_n C.1 C.2.1 dX5_factOf_98 rfl (lv_at hl 0 rfl) ?_
                refine x_Vv (rest := []) C hW (c_X5_take l g h) km_X5_take oModel rfl qm_X5_139 ⟨rfl, rfl⟩ (by decide) rfl hl.1 rfl (Nat.le_of_ble_eq_true rfl) ⟨Nat.zero_le _, Nat.zero_le _⟩ dX5_factOf_99 (fun u16 H locs h hW => ?_)
                refine lv_aload_n C.1 C.2.1 dX5_factOf_102 rfl (lv_at hl 0 rfl) ?_
                refine lv_iload_n C.1 C.2.1 dX5_factOf_103 rfl (lv_at hl 1 rfl) ?_
                refine x_Vi (rest := []) C hW (c_X5_conducts l g h) km_X5_conducts oModel rfl qm_X5_133 ⟨rfl, rfl⟩ (by decide) rfl hl.1 rfl (Nat.le_of_ble_eq_true rfl) ⟨Nat.zero_le _, Nat.zero_le _⟩ dX5_factOf_104 (fun r17 u17 H locs h hW => ?_)
                refine lv_if_eq (tgt := 114) C.1 C.2.1 dX5_factOf_107 (by decide) (fun c18 => ?_) (fun c18 => ?_)
                · have h := h.1 c18
                  refine lv_iconst (v := 0) C.1 C.2.1 dX5_factOf_114 (by decide) ?_
                  exact x_iret C hW h dX5_factOf_115
                · have h := h.2 c18
                  refine lv_iconst (v := 1) C.1 C.2.1 dX5_factOf_110 (by decide) ?_
                  refine lv_goto (tgt := 115) C.1 C.2.1 dX5_factOf_111 (by decide) ?_
                  exact x_iret C hW h dX5_factOf_115
              · skip
                have c22 : (p2).toInt < 0 ∨ 6 < (p2).toInt := by
                  have ec1 : (p2).toInt ≠ 0 := fun z => c1 (Int32.toInt_inj.mp (by rw [z]; rfl))
                  have ec3 : (p2).toInt ≠ 1 := fun z => c3 (Int32.toInt_inj.mp (by rw [z]; rfl))
                  have ec5 : (p2).toInt ≠ 2 := fun z => c5 (Int32.toInt_inj.mp (by rw [z]; rfl))
                  have ec7 : (p2).toInt ≠ 3 := fun z => c7 (Int32.toInt_inj.mp (by rw [z]; rfl))
                  have ec9 : (p2).toInt ≠ 4 := fun z => c9 (Int32.toInt_inj.mp (by rw [z]; rfl))
                  have ec13 : (p2).toInt ≠ 5 := fun z => c13 (Int32.toInt_inj.mp (by rw [z]; rfl))
                  have ec15 : (p2).toInt ≠ 6 := fun z => c15 (Int32.toInt_inj.mp (by rw [z]; rfl))
                  omega
                refine lv_tableOut (tgt := 116) C.1 C.2.1 dX5_factOf_1 c22 (by decide) ?_
                have h := h.2.2.2.2.2.2.2 c22
                refine lv_aload_n C.1 C.2.1 dX5_factOf_116 rfl (lv_at hl 0 rfl) ?_
                refine x_Vi (rest := []) C hW (c_X5_toldNow l g h) km_X5_toldNow oModel rfl qm_X5_146 ⟨rfl, rfl⟩ (by decide) rfl hl.1 rfl (Nat.le_of_ble_eq_true rfl) ⟨Nat.zero_le _, Nat.zero_le _⟩ dX5_factOf_117 (fun r19 u19 H locs h hW => ?_)
                refine lv_iload_n C.1 C.2.1 dX5_factOf_120 rfl (lv_at hl 1 rfl) ?_
                refine x_Si (rest := []) C hW (c_X5_has l g h) km_X5_has qm_X5_125 ⟨rfl, rfl⟩ (by decide) rfl hl.1 rfl (Nat.le_of_ble_eq_true rfl) ⟨Nat.zero_le _, Nat.zero_le _⟩ dX5_factOf_121 (fun r20 u20 H locs h hW => ?_)
                refine lv_if_eq (tgt := 131) C.1 C.2.1 dX5_factOf_124 (by decide) (fun c21 => ?_) (fun c21 => ?_)
                · have h := h.1 c21
                  refine lv_iconst (v := 0) C.1 C.2.1 dX5_factOf_131 (by decide) ?_
                  exact x_iret C hW h dX5_factOf_132
                · have h := h.2 c21
                  refine lv_iconst (v := 1) C.1 C.2.1 dX5_factOf_127 (by decide) ?_
                  refine lv_goto (tgt := 132) C.1 C.2.1 dX5_factOf_128 (by decide) ?_
                  exact x_iret C hW h dX5_factOf_132
set_option maxRecDepth 100000 in
theorem k_X5_digest_B197 {p : Program} {l : Launch} {e : Env} {s : State} {m : MethodId} {args : Array Value} {below : List Frame} {meth : Method} {c : Code} {g : GG} {A : Nat → Prop} {Q : Int64 → St → Prop} (C : MC p s m args meth c cX5_digest 5 RX5 (some .long) g A) {K175 : Int64 → Int32 → St → Prop} (hK175 : ∀ (v1 : Int64) (v3 : Int32) (u : St) (H : Heap) (locs : List Loc) (ls : Array Slot), K175 v1 v3 u → WD g A s u H locs → lv_has ls 5 [(0, .ref (gad g 39)), (1, .long v1), (3, .int v3)] → W p l e rm_X5_digest s m args below meth c H locs 0 0 (MQ below (va_Ql Q (WQ g) A) args s 0 0 A) (F0 m 175 ls [])) {K197 : Int64 → Int32 → Int32 → St → Prop} (hK197 : ∀ (v1 : Int64) (v3 : Int32) (v4 : Int32) (u : St) (H : Heap) (locs : List Loc) (ls : Array Slot), K197 v1 v3 v4 u → WD g A s u H locs → lv_has ls 5 [(0, .ref (gad g 39)), (1, .long v1), (3, .int v3), (4, .int v4)] → W p l e rm_X5_digest s m args below meth c H locs 0 0 (MQ below (va_Ql Q (WQ g) A) args s 0 0 A) (F0 m 197 ls [])) : ∀ (v1 : Int64) (v3 : Int32) (v4 : Int32) (u : St) (H : Heap) (locs : List Loc) (ls : Array Slot), wp_X5_digest_B197 Q K175 K197 v1 v3 v4 u → WD g A s u H locs → lv_has ls 5 [(0, .ref (gad g 39)), (1, .long v1), (3, .int v3), (4, .int v4)] → W p l e rm_X5_digest s m args below meth c H locs 0 0 (MQ below (va_Ql Q (WQ g) A) args s 0 0 A) (F0 m 197 ls []) := by
  intro v1 v3 v4 u H locs ls h hW hl
  refine lv_iload C.1 C.2.1 dX5_digest_197 (lv_at hl 3 rfl) ?_
  refine lv_aload_n C.1 C.2.1 dX5_digest_199 rfl (lv_at hl 0 rfl) ?_
  refine fg_X5_23 C hW dX5_digest_200 ?_
  refine lv_iload_n C.1 C.2.1 dX5_digest_203 rfl (lv_at hl 2 rfl) ?_
  obtain ⟨h15, h⟩ := h
  refine x_iald C hW g_43 h15 dX5_digest_204 ?_
  refine lv_icmp_ge (tgt := 234) C.1 C.2.1 dX5_digest_205 (by decide) (fun c16 => ?_) (fun c16 => ?_)
  · have h := h.1 c16
    refine lv_iinc (v := (v3 + 1)) (lv' := [(3, .int (v3 + 1)), (0, .ref (gad g 39)), (1, .long v1), (4, .int v4)]) C.1 C.2.1 dX5_digest_234 hl (k := 2) rfl rfl (by decide) rfl (fun ls hl => ?_)
    refine lv_goto (tgt := 175) C.1 C.2.1 dX5_digest_237 (by decide) ?_
    exact hK175 v1 (v3 + 1) u _ _ _ h hW (lv_sub hl [1, 2, 0] rfl)
  · have h := h.2 c16
    refine lv_ldc2 (v := 31) C.1 C.2.1 C.2.2.2.1 (C.2.2.2.2.1 _ qk_X5_228) dX5_digest_208 ?_
    refine lv_lload_n C.1 C.2.1 dX5_digest_211 rfl (lv_at hl 1 rfl) ?_
    refine lv_lmul C.1 C.2.1 dX5_digest_212 ?_
    refine lv_aload_n C.1 C.2.1 dX5_digest_213 rfl (lv_at hl 0 rfl) ?_
    refine fg_X5_26 C hW dX5_digest_214 ?_
    refine lv_bipush (v := 60) C.1 C.2.1 dX5_digest_217 (by decide) ?_
    refine lv_iload_n C.1 C.2.1 dX5_digest_219 rfl (lv_at hl 2 rfl) ?_
    refine lv_imul C.1 C.2.1 dX5_digest_220 ?_
    refine lv_iload C.1 C.2.1 dX5_digest_221 (lv_at hl 3 rfl) ?_
    refine lv_iadd C.1 C.2.1 dX5_digest_223 ?_
    obtain ⟨h17, h⟩ := h
    refine x_bald C hW g_44 h17 dX5_digest_224 ?_
    refine lv_i2l (v := (gi u 44 (Int32.toNatClampNeg ((60 * v3) + v4))).toInt64) C.1 C.2.1 dX5_digest_225 rfl ?_
    refine lv_ladd C.1 C.2.1 dX5_digest_226 ?_
    refine lv_lstore_n (lv' := [(1, .long ((31 * v1) + (gi u 44 (Int32.toNatClampNeg ((60 * v3) + v4))).toInt64)), (0, .ref (gad g 39)), (3, .int v3), (4, .int v4)]) C.1 C.2.1 dX5_digest_227 rfl hl (by decide) rfl (fun ls hl => ?_)
    refine lv_iinc (v := (v4 + 1)) (lv' := [(4, .int (v4 + 1)), (1, .long ((31 * v1) + (gi u 44 (Int32.toNatClampNeg ((60 * v3) + v4))).toInt64)), (0, .ref (gad g 39)), (3, .int v3)]) C.1 C.2.1 dX5_digest_228 hl (k := 3) rfl rfl (by decide) rfl (fun ls hl => ?_)
    refine lv_goto (tgt := 197) C.1 C.2.1 dX5_digest_231 (by decide) ?_
    exact hK197 ((31 * v1) + (gi u 44 (Int32.toNatClampNeg ((60 * v3) + v4))).toInt64) v3 (v4 + 1) u _ _ _ h hW (lv_sub hl [2, 1, 3, 0] rfl)
theorem k_X5_digest_L197 {p : Program} {l : Launch} {e : Env} {s : State} {m : MethodId} {args : Array Value} {below : List Frame} {meth : Method} {c : Code} {g : GG} {A : Nat → Prop} {Q : Int64 → St → Prop} (C : MC p s m args meth c cX5_digest 5 RX5 (some .long) g A) {K175 : Int64 → Int32 → St → Prop} (hK175 : ∀ (v1 : Int64) (v3 : Int32) (u : St) (H : Heap) (locs : List Loc) (ls : Array Slot), K175 v1 v3 u → WD g A s u H locs → lv_has ls 5 [(0, .ref (gad g 39)), (1, .long v1), (3, .int v3)] → W p l e rm_X5_digest s m args below meth c H locs 0 0 (MQ below (va_Ql Q (WQ g) A) args s 0 0 A) (F0 m 175 ls [])) : ∀ (n : Nat), ∀ (v1 : Int64) (v3 : Int32) (v4 : Int32) (u : St) (H : Heap) (locs : List Loc) (ls : Array Slot), wp_X5_digest_L197 Q K175 n v1 v3 v4 u → WD g A s u H locs → lv_has ls 5 [(0, .ref (gad g 39)), (1, .long v1), (3, .int v3), (4, .int v4)] → W p l e rm_X5_digest s m args below meth c H locs 0 0 (MQ below (va_Ql Q (WQ g) A) args s 0 0 A) (F0 m 197 ls []) := by
  intro n
  induction n with
  | zero => intro v1 v3 v4 u H locs ls h; exact False.elim h
  | succ n ih => exact k_X5_digest_B197 C hK175 ih
set_option maxRecDepth 100000 in
theorem k_X5_digest_B175 {p : Program} {l : Launch} {e : Env} {s : State} {m : MethodId} {args : Array Value} {below : List Frame} {meth : Method} {c : Code} {g : GG} {A : Nat → Prop} {Q : Int64 → St → Prop} (C : MC p s m args meth c cX5_digest 5 RX5 (some .long) g A) {K175 : Int64 → Int32 → St → Prop} (hK175 : ∀ (v1 : Int64) (v3 : Int32) (u : St) (H : Heap) (locs : List Loc) (ls : Array Slot), K175 v1 v3 u → WD g A s u H locs → lv_has ls 5 [(0, .ref (gad g 39)), (1, .long v1), (3, .int v3)] → W p l e rm_X5_digest s m args below meth c H locs 0 0 (MQ below (va_Ql Q (WQ g) A) args s 0 0 A) (F0 m 175 ls [])) : ∀ (v1 : Int64) (v3 : Int32) (u : St) (H : Heap) (locs : List Loc) (ls : Array Slot), wp_X5_digest_B175 Q K175 v1 v3 u → WD g A s u H locs → lv_has ls 5 [(0, .ref (gad g 39)), (1, .long v1), (3, .int v3)] → W p l e rm_X5_digest s m args below meth c H locs 0 0 (MQ below (va_Ql Q (WQ g) A) args s 0 0 A) (F0 m 175 ls []) := by
  intro v1 v3 u H locs ls h hW hl
  refine lv_iload_n C.1 C.2.1 dX5_digest_175 rfl (lv_at hl 2 rfl) ?_
  refine lv_iconst (v := 4) C.1 C.2.1 dX5_digest_176 (by decide) ?_
  refine lv_icmp_ge (tgt := 240) C.1 C.2.1 dX5_digest_177 (by decide) (fun c13 => ?_) (fun c13 => ?_)
  · have h := h.1 c13
    refine lv_lload_n C.1 C.2.1 dX5_digest_240 rfl (lv_at hl 1 rfl) ?_
    exact x_lret C hW h dX5_digest_241
  · have h := h.2 c13
    refine lv_ldc2 (v := 31) C.1 C.2.1 C.2.2.2.1 (C.2.2.2.2.1 _ qk_X5_228) dX5_digest_180 ?_
    refine lv_lload_n C.1 C.2.1 dX5_digest_183 rfl (lv_at hl 1 rfl) ?_
    refine lv_lmul C.1 C.2.1 dX5_digest_184 ?_
    refine lv_aload_n C.1 C.2.1 dX5_digest_185 rfl (lv_at hl 0 rfl) ?_
    refine fg_X5_23 C hW dX5_digest_186 ?_
    refine lv_iload_n C.1 C.2.1 dX5_digest_189 rfl (lv_at hl 2 rfl) ?_
    obtain ⟨h14, h⟩ := h
    refine x_iald C hW g_43 h14 dX5_digest_190 ?_
    refine lv_i2l (v := (gi u 43 (Int32.toNatClampNeg v3)).toInt64) C.1 C.2.1 dX5_digest_191 rfl ?_
    refine lv_ladd C.1 C.2.1 dX5_digest_192 ?_
    refine lv_lstore_n (lv' := [(1, .long ((31 * v1) + (gi u 43 (Int32.toNatClampNeg v3)).toInt64)), (0, .ref (gad g 39)), (3, .int v3)]) C.1 C.2.1 dX5_digest_193 rfl hl (by decide) rfl (fun ls hl => ?_)
    refine lv_iconst (v := 0) C.1 C.2.1 dX5_digest_194 (by decide) ?_
    refine lv_istore (lv' := [(4, .int 0), (1, .long ((31 * v1) + (gi u 43 (Int32.toNatClampNeg v3)).toInt64)), (0, .ref (gad g 39)), (3, .int v3)]) C.1 C.2.1 dX5_digest_195 hl (by decide) rfl (fun ls hl => ?_)
    obtain ⟨n, h⟩ := h
    exact k_X5_digest_L197 C hK175 n ((31 * v1) + (gi u 43 (Int32.toNatClampNeg v3)).toInt64) v3 0 u _ _ _ h hW (lv_sub hl [2, 1, 3, 0] rfl)
theorem k_X5_digest_L175 {p : Program} {l : Launch} {e : Env} {s : State} {m : MethodId} {args : Array Value} {below : List Frame} {meth : Method} {c : Code} {g : GG} {A : Nat → Prop} {Q : Int64 → St → Prop} (C : MC p s m args meth c cX5_digest 5 RX5 (some .long) g A) : ∀ (n : Nat), ∀ (v1 : Int64) (v3 : Int32) (u : St) (H : Heap) (locs : List Loc) (ls : Array Slot), wp_X5_digest_L175 Q n v1 v3 u → WD g A s u H locs → lv_has ls 5 [(0, .ref (gad g 39)), (1, .long v1), (3, .int v3)] → W p l e rm_X5_digest s m args below meth c H locs 0 0 (MQ below (va_Ql Q (WQ g) A) args s 0 0 A) (F0 m 175 ls []) := by
  intro n
  induction n with
  | zero => intro v1 v3 u H locs ls h; exact False.elim h
  | succ n ih => exact k_X5_digest_B175 C ih
set_option maxRecDepth 100000 in
theorem k_X5_digest_B130 {p : Program} {l : Launch} {e : Env} {s : State} {m : MethodId} {args : Array Value} {below : List Frame} {meth : Method} {c : Code} {g : GG} {A : Nat → Prop} {Q : Int64 → St → Prop} (C : MC p s m args meth c cX5_digest 5 RX5 (some .long) g A) {K107 : Int64 → Int32 → St → Prop} (hK107 : ∀ (v1 : Int64) (v3 : Int32) (u : St) (H : Heap) (locs : List Loc) (ls : Array Slot), K107 v1 v3 u → WD g A s u H locs → lv_has ls 5 [(0, .ref (gad g 39)), (1, .long v1), (3, .int v3)] → W p l e rm_X5_digest s m args below meth c H locs 0 0 (MQ below (va_Ql Q (WQ g) A) args s 0 0 A) (F0 m 107 ls [])) {K130 : Int64 → Int32 → Int32 → St → Prop} (hK130 : ∀ (v1 : Int64) (v3 : Int32) (v4 : Int32) (u : St) (H : Heap) (locs : List Loc) (ls : Array Slot), K130 v1 v3 v4 u → WD g A s u H locs → lv_has ls 5 [(0, .ref (gad g 39)), (1, .long v1), (3, .int v3), (4, .int v4)] → W p l e rm_X5_digest s m args below meth c H locs 0 0 (MQ below (va_Ql Q (WQ g) A) args s 0 0 A) (F0 m 130 ls [])) : ∀ (v1 : Int64) (v3 : Int32) (v4 : Int32) (u : St) (H : Heap) (locs : List Loc) (ls : Array Slot), wp_X5_digest_B130 Q K107 K130 v1 v3 v4 u → WD g A s u H locs → lv_has ls 5 [(0, .ref (gad g 39)), (1, .long v1), (3, .int v3), (4, .int v4)] → W p l e rm_X5_digest s m args below meth c H locs 0 0 (MQ below (va_Ql Q (WQ g) A) args s 0 0 A) (F0 m 130 ls []) := by
  intro v1 v3 v4 u H locs ls h hW hl
  refine lv_iload C.1 C.2.1 dX5_digest_130 (lv_at hl 3 rfl) ?_
  refine lv_aload_n C.1 C.2.1 dX5_digest_132 rfl (lv_at hl 0 rfl) ?_
  refine fg_X5_17 C hW dX5_digest_133 ?_
  refine lv_iload_n C.1 C.2.1 dX5_digest_136 rfl (lv_at hl 2 rfl) ?_
  obtain ⟨h10, h⟩ := h
  refine x_iald C hW g_41 h10 dX5_digest_137 ?_
  refine lv_icmp_ge (tgt := 167) C.1 C.2.1 dX5_digest_138 (by decide) (fun c11 => ?_) (fun c11 => ?_)
  · have h := h.1 c11
    refine lv_iinc (v := (v3 + 1)) (lv' := [(3, .int (v3 + 1)), (0, .ref (gad g 39)), (1, .long v1), (4, .int v4)]) C.1 C.2.1 dX5_digest_167 hl (k := 2) rfl rfl (by decide) rfl (fun ls hl => ?_)
    refine lv_goto (tgt := 107) C.1 C.2.1 dX5_digest_170 (by decide) ?_
    exact hK107 v1 (v3 + 1) u _ _ _ h hW (lv_sub hl [1, 2, 0] rfl)
  · have h := h.2 c11
    refine lv_ldc2 (v := 31) C.1 C.2.1 C.2.2.2.1 (C.2.2.2.2.1 _ qk_X5_228) dX5_digest_141 ?_
    refine lv_lload_n C.1 C.2.1 dX5_digest_144 rfl (lv_at hl 1 rfl) ?_
    refine lv_lmul C.1 C.2.1 dX5_digest_145 ?_
    refine lv_aload_n C.1 C.2.1 dX5_digest_146 rfl (lv_at hl 0 rfl) ?_
    refine fg_X5_20 C hW dX5_digest_147 ?_
    refine lv_bipush (v := 40) C.1 C.2.1 dX5_digest_150 (by decide) ?_
    refine lv_iload_n C.1 C.2.1 dX5_digest_152 rfl (lv_at hl 2 rfl) ?_
    refine lv_imul C.1 C.2.1 dX5_digest_153 ?_
    refine lv_iload C.1 C.2.1 dX5_digest_154 (lv_at hl 3 rfl) ?_
    refine lv_iadd C.1 C.2.1 dX5_digest_156 ?_
    obtain ⟨h12, h⟩ := h
    refine x_iald C hW g_42 h12 dX5_digest_157 ?_
    refine lv_i2l (v := (gi u 42 (Int32.toNatClampNeg ((40 * v3) + v4))).toInt64) C.1 C.2.1 dX5_digest_158 rfl ?_
    refine lv_ladd C.1 C.2.1 dX5_digest_159 ?_
    refine lv_lstore_n (lv' := [(1, .long ((31 * v1) + (gi u 42 (Int32.toNatClampNeg ((40 * v3) + v4))).toInt64)), (0, .ref (gad g 39)), (3, .int v3), (4, .int v4)]) C.1 C.2.1 dX5_digest_160 rfl hl (by decide) rfl (fun ls hl => ?_)
    refine lv_iinc (v := (v4 + 1)) (lv' := [(4, .int (v4 + 1)), (1, .long ((31 * v1) + (gi u 42 (Int32.toNatClampNeg ((40 * v3) + v4))).toInt64)), (0, .ref (gad g 39)), (3, .int v3)]) C.1 C.2.1 dX5_digest_161 hl (k := 3) rfl rfl (by decide) rfl (fun ls hl => ?_)
    refine lv_goto (tgt := 130) C.1 C.2.1 dX5_digest_164 (by decide) ?_
    exact hK130 ((31 * v1) + (gi u 42 (Int32.toNatClampNeg ((40 * v3) + v4))).toInt64) v3 (v4 + 1) u _ _ _ h hW (lv_sub hl [2, 1, 3, 0] rfl)
theorem k_X5_digest_L130 {p : Program} {l : Launch} {e : Env} {s : State} {m : MethodId} {args : Array Value} {below : List Frame} {meth : Method} {c : Code} {g : GG} {A : Nat → Prop} {Q : Int64 → St → Prop} (C : MC p s m args meth c cX5_digest 5 RX5 (some .long) g A) {K107 : Int64 → Int32 → St → Prop} (hK107 : ∀ (v1 : Int64) (v3 : Int32) (u : St) (H : Heap) (locs : List Loc) (ls : Array Slot), K107 v1 v3 u → WD g A s u H locs → lv_has ls 5 [(0, .ref (gad g 39)), (1, .long v1), (3, .int v3)] → W p l e rm_X5_digest s m args below meth c H locs 0 0 (MQ below (va_Ql Q (WQ g) A) args s 0 0 A) (F0 m 107 ls [])) : ∀ (n : Nat), ∀ (v1 : Int64) (v3 : Int32) (v4 : Int32) (u : St) (H : Heap) (locs : List Loc) (ls : Array Slot), wp_X5_digest_L130 Q K107 n v1 v3 v4 u → WD g A s u H locs → lv_has ls 5 [(0, .ref (gad g 39)), (1, .long v1), (3, .int v3), (4, .int v4)] → W p l e rm_X5_digest s m args below meth c H locs 0 0 (MQ below (va_Ql Q (WQ g) A) args s 0 0 A) (F0 m 130 ls []) := by
  intro n
  induction n with
  | zero => intro v1 v3 v4 u H locs ls h; exact False.elim h
  | succ n ih => exact k_X5_digest_B130 C hK107 ih
set_option maxRecDepth 100000 in
theorem k_X5_digest_B107 {p : Program} {l : Launch} {e : Env} {s : State} {m : MethodId} {args : Array Value} {below : List Frame} {meth : Method} {c : Code} {g : GG} {A : Nat → Prop} {Q : Int64 → St → Prop} (C : MC p s m args meth c cX5_digest 5 RX5 (some .long) g A) {K107 : Int64 → Int32 → St → Prop} (hK107 : ∀ (v1 : Int64) (v3 : Int32) (u : St) (H : Heap) (locs : List Loc) (ls : Array Slot), K107 v1 v3 u → WD g A s u H locs → lv_has ls 5 [(0, .ref (gad g 39)), (1, .long v1), (3, .int v3)] → W p l e rm_X5_digest s m args below meth c H locs 0 0 (MQ below (va_Ql Q (WQ g) A) args s 0 0 A) (F0 m 107 ls [])) : ∀ (v1 : Int64) (v3 : Int32) (u : St) (H : Heap) (locs : List Loc) (ls : Array Slot), wp_X5_digest_B107 Q K107 v1 v3 u → WD g A s u H locs → lv_has ls 5 [(0, .ref (gad g 39)), (1, .long v1), (3, .int v3)] → W p l e rm_X5_digest s m args below meth c H locs 0 0 (MQ below (va_Ql Q (WQ g) A) args s 0 0 A) (F0 m 107 ls []) := by
  intro v1 v3 u H locs ls h hW hl
  refine lv_iload_n C.1 C.2.1 dX5_digest_107 rfl (lv_at hl 2 rfl) ?_
  refine lv_bipush (v := 6) C.1 C.2.1 dX5_digest_108 (by decide) ?_
  refine lv_icmp_ge (tgt := 173) C.1 C.2.1 dX5_digest_110 (by decide) (fun c8 => ?_) (fun c8 => ?_)
  · have h := h.1 c8
    refine lv_iconst (v := 0) C.1 C.2.1 dX5_digest_173 (by decide) ?_
    refine lv_istore_n (lv' := [(3, .int 0), (0, .ref (gad g 39)), (1, .long v1)]) C.1 C.2.1 dX5_digest_174 rfl hl (by decide) rfl (fun ls hl => ?_)
    obtain ⟨n, h⟩ := h
    exact k_X5_digest_L175 C n v1 0 u _ _ _ h hW (lv_sub hl [1, 2, 0] rfl)
  · have h := h.2 c8
    refine lv_ldc2 (v := 31) C.1 C.2.1 C.2.2.2.1 (C.2.2.2.2.1 _ qk_X5_228) dX5_digest_113 ?_
    refine lv_lload_n C.1 C.2.1 dX5_digest_116 rfl (lv_at hl 1 rfl) ?_
    refine lv_lmul C.1 C.2.1 dX5_digest_117 ?_
    refine lv_aload_n C.1 C.2.1 dX5_digest_118 rfl (lv_at hl 0 rfl) ?_
    refine fg_X5_17 C hW dX5_digest_119 ?_
    refine lv_iload_n C.1 C.2.1 dX5_digest_122 rfl (lv_at hl 2 rfl) ?_
    obtain ⟨h9, h⟩ := h
    refine x_iald C hW g_41 h9 dX5_digest_123 ?_
    refine lv_i2l (v := (gi u 41 (Int32.toNatClampNeg v3)).toInt64) C.1 C.2.1 dX5_digest_124 rfl ?_
    refine lv_ladd C.1 C.2.1 dX5_digest_125 ?_
    refine lv_lstore_n (lv' := [(1, .long ((31 * v1) + (gi u 41 (Int32.toNatClampNeg v3)).toInt64)), (0, .ref (gad g 39)), (3, .int v3)]) C.1 C.2.1 dX5_digest_126 rfl hl (by decide) rfl (fun ls hl => ?_)
    refine lv_iconst (v := 0) C.1 C.2.1 dX5_digest_127 (by decide) ?_
    refine lv_istore (lv' := [(4, .int 0), (1, .long ((31 * v1) + (gi u 41 (Int32.toNatClampNeg v3)).toInt64)), (0, .ref (gad g 39)), (3, .int v3)]) C.1 C.2.1 dX5_digest_128 hl (by decide) rfl (fun ls hl => ?_)
    obtain ⟨n, h⟩ := h
    exact k_X5_digest_L130 C hK107 n ((31 * v1) + (gi u 41 (Int32.toNatClampNeg v3)).toInt64) v3 0 u _ _ _ h hW (lv_sub hl [2, 1, 3, 0] rfl)
theorem k_X5_digest_L107 {p : Program} {l : Launch} {e : Env} {s : State} {m : MethodId} {args : Array Value} {below : List Frame} {meth : Method} {c : Code} {g : GG} {A : Nat → Prop} {Q : Int64 → St → Prop} (C : MC p s m args meth c cX5_digest 5 RX5 (some .long) g A) : ∀ (n : Nat), ∀ (v1 : Int64) (v3 : Int32) (u : St) (H : Heap) (locs : List Loc) (ls : Array Slot), wp_X5_digest_L107 Q n v1 v3 u → WD g A s u H locs → lv_has ls 5 [(0, .ref (gad g 39)), (1, .long v1), (3, .int v3)] → W p l e rm_X5_digest s m args below meth c H locs 0 0 (MQ below (va_Ql Q (WQ g) A) args s 0 0 A) (F0 m 107 ls []) := by
  intro n
  induction n with
  | zero => intro v1 v3 u H locs ls h; exact False.elim h
  | succ n ih => exact k_X5_digest_B107 C ih
set_option maxRecDepth 100000 in
theorem k_X5_digest_B80 {p : Program} {l : Launch} {e : Env} {s : State} {m : MethodId} {args : Array Value} {below : List Frame} {meth : Method} {c : Code} {g : GG} {A : Nat → Prop} {Q : Int64 → St → Prop} (C : MC p s m args meth c cX5_digest 5 RX5 (some .long) g A) {K80 : Int64 → Int32 → St → Prop} (hK80 : ∀ (v1 : Int64) (v3 : Int32) (u : St) (H : Heap) (locs : List Loc) (ls : Array Slot), K80 v1 v3 u → WD g A s u H locs → lv_has ls 5 [(0, .ref (gad g 39)), (1, .long v1), (3, .int v3)] → W p l e rm_X5_digest s m args below meth c H locs 0 0 (MQ below (va_Ql Q (WQ g) A) args s 0 0 A) (F0 m 80 ls [])) : ∀ (v1 : Int64) (v3 : Int32) (u : St) (H : Heap) (locs : List Loc) (ls : Array Slot), wp_X5_digest_B80 Q K80 v1 v3 u → WD g A s u H locs → lv_has ls 5 [(0, .ref (gad g 39)), (1, .long v1), (3, .int v3)] → W p l e rm_X5_digest s m args below meth c H locs 0 0 (MQ below (va_Ql Q (WQ g) A) args s 0 0 A) (F0 m 80 ls []) := by
  intro v1 v3 u H locs ls h hW hl
  refine lv_iload_n C.1 C.2.1 dX5_digest_80 rfl (lv_at hl 2 rfl) ?_
  refine lv_iconst (v := 3) C.1 C.2.1 dX5_digest_81 (by decide) ?_
  refine lv_icmp_ge (tgt := 105) C.1 C.2.1 dX5_digest_82 (by decide) (fun c6 => ?_) (fun c6 => ?_)
  · have h := h.1 c6
    refine lv_iconst (v := 0) C.1 C.2.1 dX5_digest_105 (by decide) ?_
    refine lv_istore_n (lv' := [(3, .int 0), (0, .ref (gad g 39)), (1, .long v1)]) C.1 C.2.1 dX5_digest_106 rfl hl (by decide) rfl (fun ls hl => ?_)
    obtain ⟨n, h⟩ := h
    exact k_X5_digest_L107 C n v1 0 u _ _ _ h hW (lv_sub hl [1, 2, 0] rfl)
  · have h := h.2 c6
    refine lv_ldc2 (v := 31) C.1 C.2.1 C.2.2.2.1 (C.2.2.2.2.1 _ qk_X5_228) dX5_digest_85 ?_
    refine lv_lload_n C.1 C.2.1 dX5_digest_88 rfl (lv_at hl 1 rfl) ?_
    refine lv_lmul C.1 C.2.1 dX5_digest_89 ?_
    refine lv_aload_n C.1 C.2.1 dX5_digest_90 rfl (lv_at hl 0 rfl) ?_
    refine fg_X5_51 C hW dX5_digest_91 ?_
    refine lv_iload_n C.1 C.2.1 dX5_digest_94 rfl (lv_at hl 2 rfl) ?_
    obtain ⟨h7, h⟩ := h
    refine x_iald C hW g_52 h7 dX5_digest_95 ?_
    refine lv_i2l (v := (gi u 52 (Int32.toNatClampNeg v3)).toInt64) C.1 C.2.1 dX5_digest_96 rfl ?_
    refine lv_ladd C.1 C.2.1 dX5_digest_97 ?_
    refine lv_lstore_n (lv' := [(1, .long ((31 * v1) + (gi u 52 (Int32.toNatClampNeg v3)).toInt64)), (0, .ref (gad g 39)), (3, .int v3)]) C.1 C.2.1 dX5_digest_98 rfl hl (by decide) rfl (fun ls hl => ?_)
    refine lv_iinc (v := (v3 + 1)) (lv' := [(3, .int (v3 + 1)), (1, .long ((31 * v1) + (gi u 52 (Int32.toNatClampNeg v3)).toInt64)), (0, .ref (gad g 39))]) C.1 C.2.1 dX5_digest_99 hl (k := 2) rfl rfl (by decide) rfl (fun ls hl => ?_)
    refine lv_goto (tgt := 80) C.1 C.2.1 dX5_digest_102 (by decide) ?_
    exact hK80 ((31 * v1) + (gi u 52 (Int32.toNatClampNeg v3)).toInt64) (v3 + 1) u _ _ _ h hW (lv_sub hl [2, 1, 0] rfl)
theorem k_X5_digest_L80 {p : Program} {l : Launch} {e : Env} {s : State} {m : MethodId} {args : Array Value} {below : List Frame} {meth : Method} {c : Code} {g : GG} {A : Nat → Prop} {Q : Int64 → St → Prop} (C : MC p s m args meth c cX5_digest 5 RX5 (some .long) g A) : ∀ (n : Nat), ∀ (v1 : Int64) (v3 : Int32) (u : St) (H : Heap) (locs : List Loc) (ls : Array Slot), wp_X5_digest_L80 Q n v1 v3 u → WD g A s u H locs → lv_has ls 5 [(0, .ref (gad g 39)), (1, .long v1), (3, .int v3)] → W p l e rm_X5_digest s m args below meth c H locs 0 0 (MQ below (va_Ql Q (WQ g) A) args s 0 0 A) (F0 m 80 ls []) := by
  intro n
  induction n with
  | zero => intro v1 v3 u H locs ls h; exact False.elim h
  | succ n ih => exact k_X5_digest_B80 C ih
set_option maxRecDepth 100000 in
theorem k_X5_digest_B44 {p : Program} {l : Launch} {e : Env} {s : State} {m : MethodId} {args : Array Value} {below : List Frame} {meth : Method} {c : Code} {g : GG} {A : Nat → Prop} {Q : Int64 → St → Prop} (C : MC p s m args meth c cX5_digest 5 RX5 (some .long) g A) {K33 : Int64 → Int32 → St → Prop} (hK33 : ∀ (v1 : Int64) (v3 : Int32) (u : St) (H : Heap) (locs : List Loc) (ls : Array Slot), K33 v1 v3 u → WD g A s u H locs → lv_has ls 5 [(0, .ref (gad g 39)), (1, .long v1), (3, .int v3)] → W p l e rm_X5_digest s m args below meth c H locs 0 0 (MQ below (va_Ql Q (WQ g) A) args s 0 0 A) (F0 m 33 ls [])) {K44 : Int64 → Int32 → Int32 → St → Prop} (hK44 : ∀ (v1 : Int64) (v3 : Int32) (v4 : Int32) (u : St) (H : Heap) (locs : List Loc) (ls : Array Slot), K44 v1 v3 v4 u → WD g A s u H locs → lv_has ls 5 [(0, .ref (gad g 39)), (1, .long v1), (3, .int v3), (4, .int v4)] → W p l e rm_X5_digest s m args below meth c H locs 0 0 (MQ below (va_Ql Q (WQ g) A) args s 0 0 A) (F0 m 44 ls [])) : ∀ (v1 : Int64) (v3 : Int32) (v4 : Int32) (u : St) (H : Heap) (locs : List Loc) (ls : Array Slot), wp_X5_digest_B44 Q K33 K44 v1 v3 v4 u → WD g A s u H locs → lv_has ls 5 [(0, .ref (gad g 39)), (1, .long v1), (3, .int v3), (4, .int v4)] → W p l e rm_X5_digest s m args below meth c H locs 0 0 (MQ below (va_Ql Q (WQ g) A) args s 0 0 A) (F0 m 44 ls []) := by
  intro v1 v3 v4 u H locs ls h hW hl
  refine lv_iload C.1 C.2.1 dX5_digest_44 (lv_at hl 3 rfl) ?_
  refine lv_bipush (v := 7) C.1 C.2.1 dX5_digest_46 (by decide) ?_
  refine lv_icmp_gt (tgt := 72) C.1 C.2.1 dX5_digest_48 (by decide) (fun c4 => ?_) (fun c4 => ?_)
  · have h := h.1 c4
    refine lv_iinc (v := (v3 + 1)) (lv' := [(3, .int (v3 + 1)), (0, .ref (gad g 39)), (1, .long v1), (4, .int v4)]) C.1 C.2.1 dX5_digest_72 hl (k := 2) rfl rfl (by decide) rfl (fun ls hl => ?_)
    refine lv_goto (tgt := 33) C.1 C.2.1 dX5_digest_75 (by decide) ?_
    exact hK33 v1 (v3 + 1) u _ _ _ h hW (lv_sub hl [1, 2, 0] rfl)
  · have h := h.2 c4
    refine lv_ldc2 (v := 31) C.1 C.2.1 C.2.2.2.1 (C.2.2.2.2.1 _ qk_X5_228) dX5_digest_51 ?_
    refine lv_lload_n C.1 C.2.1 dX5_digest_54 rfl (lv_at hl 1 rfl) ?_
    refine lv_lmul C.1 C.2.1 dX5_digest_55 ?_
    refine lv_aload_n C.1 C.2.1 dX5_digest_56 rfl (lv_at hl 0 rfl) ?_
    refine lv_iload_n C.1 C.2.1 dX5_digest_57 rfl (lv_at hl 2 rfl) ?_
    refine lv_iload C.1 C.2.1 dX5_digest_58 (lv_at hl 3 rfl) ?_
    refine x_Vi (rest := [.long (31 * v1)]) C hW (c_X5_factOf l g h) km_X5_factOf oModel rfl qm_X5_152 ⟨rfl, rfl⟩ (by decide) rfl hl.1 rfl (Nat.le_of_ble_eq_true rfl) ⟨Nat.zero_le _, Nat.zero_le _⟩ dX5_digest_60 (fun r5 u5 H locs h hW => ?_)
    refine lv_i2l (v := r5.toInt64) C.1 C.2.1 dX5_digest_63 rfl ?_
    refine lv_ladd C.1 C.2.1 dX5_digest_64 ?_
    refine lv_lstore_n (lv' := [(1, .long ((31 * v1) + r5.toInt64)), (0, .ref (gad g 39)), (3, .int v3), (4, .int v4)]) C.1 C.2.1 dX5_digest_65 rfl hl (by decide) rfl (fun ls hl => ?_)
    refine lv_iinc (v := (v4 + 1)) (lv' := [(4, .int (v4 + 1)), (1, .long ((31 * v1) + r5.toInt64)), (0, .ref (gad g 39)), (3, .int v3)]) C.1 C.2.1 dX5_digest_66 hl (k := 3) rfl rfl (by decide) rfl (fun ls hl => ?_)
    refine lv_goto (tgt := 44) C.1 C.2.1 dX5_digest_69 (by decide) ?_
    exact hK44 ((31 * v1) + r5.toInt64) v3 (v4 + 1) u5 _ _ _ h hW (lv_sub hl [2, 1, 3, 0] rfl)
theorem k_X5_digest_L44 {p : Program} {l : Launch} {e : Env} {s : State} {m : MethodId} {args : Array Value} {below : List Frame} {meth : Method} {c : Code} {g : GG} {A : Nat → Prop} {Q : Int64 → St → Prop} (C : MC p s m args meth c cX5_digest 5 RX5 (some .long) g A) {K33 : Int64 → Int32 → St → Prop} (hK33 : ∀ (v1 : Int64) (v3 : Int32) (u : St) (H : Heap) (locs : List Loc) (ls : Array Slot), K33 v1 v3 u → WD g A s u H locs → lv_has ls 5 [(0, .ref (gad g 39)), (1, .long v1), (3, .int v3)] → W p l e rm_X5_digest s m args below meth c H locs 0 0 (MQ below (va_Ql Q (WQ g) A) args s 0 0 A) (F0 m 33 ls [])) : ∀ (n : Nat), ∀ (v1 : Int64) (v3 : Int32) (v4 : Int32) (u : St) (H : Heap) (locs : List Loc) (ls : Array Slot), wp_X5_digest_L44 Q K33 n v1 v3 v4 u → WD g A s u H locs → lv_has ls 5 [(0, .ref (gad g 39)), (1, .long v1), (3, .int v3), (4, .int v4)] → W p l e rm_X5_digest s m args below meth c H locs 0 0 (MQ below (va_Ql Q (WQ g) A) args s 0 0 A) (F0 m 44 ls []) := by
  intro n
  induction n with
  | zero => intro v1 v3 v4 u H locs ls h; exact False.elim h
  | succ n ih => exact k_X5_digest_B44 C hK33 ih
set_option maxRecDepth 100000 in
theorem k_X5_digest_B33 {p : Program} {l : Launch} {e : Env} {s : State} {m : MethodId} {args : Array Value} {below : List Frame} {meth : Method} {c : Code} {g : GG} {A : Nat → Prop} {Q : Int64 → St → Prop} (C : MC p s m args meth c cX5_digest 5 RX5 (some .long) g A) {K33 : Int64 → Int32 → St → Prop} (hK33 : ∀ (v1 : Int64) (v3 : Int32) (u : St) (H : Heap) (locs : List Loc) (ls : Array Slot), K33 v1 v3 u → WD g A s u H locs → lv_has ls 5 [(0, .ref (gad g 39)), (1, .long v1), (3, .int v3)] → W p l e rm_X5_digest s m args below meth c H locs 0 0 (MQ below (va_Ql Q (WQ g) A) args s 0 0 A) (F0 m 33 ls [])) : ∀ (v1 : Int64) (v3 : Int32) (u : St) (H : Heap) (locs : List Loc) (ls : Array Slot), wp_X5_digest_B33 Q K33 v1 v3 u → WD g A s u H locs → lv_has ls 5 [(0, .ref (gad g 39)), (1, .long v1), (3, .int v3)] → W p l e rm_X5_digest s m args below meth c H locs 0 0 (MQ below (va_Ql Q (WQ g) A) args s 0 0 A) (F0 m 33 ls []) := by
  intro v1 v3 u H locs ls h hW hl
  refine lv_iload_n C.1 C.2.1 dX5_digest_33 rfl (lv_at hl 2 rfl) ?_
  refine lv_aload_n C.1 C.2.1 dX5_digest_34 rfl (lv_at hl 0 rfl) ?_
  refine fg_X5_116 C hW dX5_digest_35 ?_
  refine lv_icmp_ge (tgt := 78) C.1 C.2.1 dX5_digest_38 (by decide) (fun c3 => ?_) (fun c3 => ?_)
  · have h := h.1 c3
    refine lv_iconst (v := 0) C.1 C.2.1 dX5_digest_78 (by decide) ?_
    refine lv_istore_n (lv' := [(3, .int 0), (0, .ref (gad g 39)), (1, .long v1)]) C.1 C.2.1 dX5_digest_79 rfl hl (by decide) rfl (fun ls hl => ?_)
    obtain ⟨n, h⟩ := h
    exact k_X5_digest_L80 C n v1 0 u _ _ _ h hW (lv_sub hl [1, 2, 0] rfl)
  · have h := h.2 c3
    refine lv_iconst (v := 0) C.1 C.2.1 dX5_digest_41 (by decide) ?_
    refine lv_istore (lv' := [(4, .int 0), (0, .ref (gad g 39)), (1, .long v1), (3, .int v3)]) C.1 C.2.1 dX5_digest_42 hl (by decide) rfl (fun ls hl => ?_)
    obtain ⟨n, h⟩ := h
    exact k_X5_digest_L44 C hK33 n v1 v3 0 u _ _ _ h hW (lv_sub hl [1, 2, 3, 0] rfl)
theorem k_X5_digest_L33 {p : Program} {l : Launch} {e : Env} {s : State} {m : MethodId} {args : Array Value} {below : List Frame} {meth : Method} {c : Code} {g : GG} {A : Nat → Prop} {Q : Int64 → St → Prop} (C : MC p s m args meth c cX5_digest 5 RX5 (some .long) g A) : ∀ (n : Nat), ∀ (v1 : Int64) (v3 : Int32) (u : St) (H : Heap) (locs : List Loc) (ls : Array Slot), wp_X5_digest_L33 Q n v1 v3 u → WD g A s u H locs → lv_has ls 5 [(0, .ref (gad g 39)), (1, .long v1), (3, .int v3)] → W p l e rm_X5_digest s m args below meth c H locs 0 0 (MQ below (va_Ql Q (WQ g) A) args s 0 0 A) (F0 m 33 ls []) := by
  intro n
  induction n with
  | zero => intro v1 v3 u H locs ls h; exact False.elim h
  | succ n ih => exact k_X5_digest_B33 C ih
set_option maxRecDepth 100000 in
theorem k_X5_digest_B6 {p : Program} {l : Launch} {e : Env} {s : State} {m : MethodId} {args : Array Value} {below : List Frame} {meth : Method} {c : Code} {g : GG} {A : Nat → Prop} {Q : Int64 → St → Prop} (C : MC p s m args meth c cX5_digest 5 RX5 (some .long) g A) {K6 : Int64 → Int32 → St → Prop} (hK6 : ∀ (v1 : Int64) (v3 : Int32) (u : St) (H : Heap) (locs : List Loc) (ls : Array Slot), K6 v1 v3 u → WD g A s u H locs → lv_has ls 5 [(0, .ref (gad g 39)), (1, .long v1), (3, .int v3)] → W p l e rm_X5_digest s m args below meth c H locs 0 0 (MQ below (va_Ql Q (WQ g) A) args s 0 0 A) (F0 m 6 ls [])) : ∀ (v1 : Int64) (v3 : Int32) (u : St) (H : Heap) (locs : List Loc) (ls : Array Slot), wp_X5_digest_B6 Q K6 v1 v3 u → WD g A s u H locs → lv_has ls 5 [(0, .ref (gad g 39)), (1, .long v1), (3, .int v3)] → W p l e rm_X5_digest s m args below meth c H locs 0 0 (MQ below (va_Ql Q (WQ g) A) args s 0 0 A) (F0 m 6 ls []) := by
  intro v1 v3 u H locs ls h hW hl
  refine lv_iload_n C.1 C.2.1 dX5_digest_6 rfl (lv_at hl 2 rfl) ?_
  refine lv_bipush (v := 10) C.1 C.2.1 dX5_digest_7 (by decide) ?_
  refine lv_icmp_gt (tgt := 31) C.1 C.2.1 dX5_digest_9 (by decide) (fun c1 => ?_) (fun c1 => ?_)
  · have h := h.1 c1
    refine lv_iconst (v := 0) C.1 C.2.1 dX5_digest_31 (by decide) ?_
    refine lv_istore_n (lv' := [(3, .int 0), (0, .ref (gad g 39)), (1, .long v1)]) C.1 C.2.1 dX5_digest_32 rfl hl (by decide) rfl (fun ls hl => ?_)
    obtain ⟨n, h⟩ := h
    exact k_X5_digest_L33 C n v1 0 u _ _ _ h hW (lv_sub hl [1, 2, 0] rfl)
  · have h := h.2 c1
    refine lv_ldc2 (v := 31) C.1 C.2.1 C.2.2.2.1 (C.2.2.2.2.1 _ qk_X5_228) dX5_digest_12 ?_
    refine lv_lload_n C.1 C.2.1 dX5_digest_15 rfl (lv_at hl 1 rfl) ?_
    refine lv_lmul C.1 C.2.1 dX5_digest_16 ?_
    refine lv_aload_n C.1 C.2.1 dX5_digest_17 rfl (lv_at hl 0 rfl) ?_
    refine lv_iload_n C.1 C.2.1 dX5_digest_18 rfl (lv_at hl 2 rfl) ?_
    refine x_Vi (rest := [.long (31 * v1)]) C hW (c_X5_count l g h) km_X5_count oModel rfl qm_X5_230 ⟨rfl, rfl⟩ (by decide) rfl hl.1 rfl (Nat.le_of_ble_eq_true rfl) ⟨Nat.zero_le _, Nat.zero_le _⟩ dX5_digest_19 (fun r2 u2 H locs h hW => ?_)
    refine lv_i2l (v := r2.toInt64) C.1 C.2.1 dX5_digest_22 rfl ?_
    refine lv_ladd C.1 C.2.1 dX5_digest_23 ?_
    refine lv_lstore_n (lv' := [(1, .long ((31 * v1) + r2.toInt64)), (0, .ref (gad g 39)), (3, .int v3)]) C.1 C.2.1 dX5_digest_24 rfl hl (by decide) rfl (fun ls hl => ?_)
    refine lv_iinc (v := (v3 + 1)) (lv' := [(3, .int (v3 + 1)), (1, .long ((31 * v1) + r2.toInt64)), (0, .ref (gad g 39))]) C.1 C.2.1 dX5_digest_25 hl (k := 2) rfl rfl (by decide) rfl (fun ls hl => ?_)
    refine lv_goto (tgt := 6) C.1 C.2.1 dX5_digest_28 (by decide) ?_
    exact hK6 ((31 * v1) + r2.toInt64) (v3 + 1) u2 _ _ _ h hW (lv_sub hl [2, 1, 0] rfl)
theorem k_X5_digest_L6 {p : Program} {l : Launch} {e : Env} {s : State} {m : MethodId} {args : Array Value} {below : List Frame} {meth : Method} {c : Code} {g : GG} {A : Nat → Prop} {Q : Int64 → St → Prop} (C : MC p s m args meth c cX5_digest 5 RX5 (some .long) g A) : ∀ (n : Nat), ∀ (v1 : Int64) (v3 : Int32) (u : St) (H : Heap) (locs : List Loc) (ls : Array Slot), wp_X5_digest_L6 Q n v1 v3 u → WD g A s u H locs → lv_has ls 5 [(0, .ref (gad g 39)), (1, .long v1), (3, .int v3)] → W p l e rm_X5_digest s m args below meth c H locs 0 0 (MQ below (va_Ql Q (WQ g) A) args s 0 0 A) (F0 m 6 ls []) := by
  intro n
  induction n with
  | zero => intro v1 v3 u H locs ls h; exact False.elim h
  | succ n ih => exact k_X5_digest_B6 C ih
set_option maxRecDepth 100000 in
theorem c_X5_digest (l : Launch) (g : GG) {u : St} {Q : Int64 → St → Prop} (h : wp_X5_digest u Q) : CL l yX5_digest cX5_digest 5 (some .long) rm_X5_digest g [.ref (gad g 39)] u Q := by
  refine ent (own := RX5) (Qc := va_Ql Q (WQ g)) (by decide) rfl (Nat.le_of_ble_eq_true rfl) ?_
  intro p e s m below meth c A ls C hl hW
  have hl : lv_has ls 5 [(0, .ref (gad g 39))] := hl
  unfold wp_X5_digest at h
  refine lv_ldc2 (v := 17) C.1 C.2.1 C.2.2.2.1 (C.2.2.2.2.1 _ qk_X5_226) dX5_digest_0 ?_
  refine lv_lstore_n (lv' := [(1, .long 17), (0, .ref (gad g 39))]) C.1 C.2.1 dX5_digest_3 rfl hl (by decide) rfl (fun ls hl => ?_)
  refine lv_iconst (v := 0) C.1 C.2.1 dX5_digest_4 (by decide) ?_
  refine lv_istore_n (lv' := [(3, .int 0), (1, .long 17), (0, .ref (gad g 39))]) C.1 C.2.1 dX5_digest_5 rfl hl (by decide) rfl (fun ls hl => ?_)
  obtain ⟨n, h⟩ := h
  exact k_X5_digest_L6 C n 17 0 u _ _ _ h hW (lv_sub hl [2, 1, 0] rfl)
set_option maxRecDepth 100000 in
theorem k_X5_duel_J161 {p : Program} {l : Launch} {e : Env} {s : State} {m : MethodId} {args : Array Value} {below : List Frame} {meth : Method} {c : Code} {g : GG} {A : Nat → Prop} {p1 : Int32} {Q : Int32 → St → Prop} (C : MC p s m args meth c cX5_duel 8 RX5 (some .int) g A) {K65 : Int32 → St → Prop} (hK65 : ∀ (v2 : Int32) (u : St) (H : Heap) (locs : List Loc) (ls : Array Slot), K65 v2 u → WD g A s u H locs → lv_has ls 8 [(0, .ref (gad g 39)), (2, .int v2)] → W p l e rm_X5_duel s m args below meth c H locs 0 0 (MQ below (va_Qi Q (WQ g) A) args s 0 0 A) (F0 m 65 ls [])) {K71 : Int32 → Int32 → St → Prop} (hK71 : ∀ (v2 : Int32) (v3 : Int32) (u : St) (H : Heap) (locs : List Loc) (ls : Array Slot), K71 v2 v3 u → WD g A s u H locs → lv_has ls 8 [(0, .ref (gad g 39)), (2, .int v2), (3, .int v3)] → W p l e rm_X5_duel s m args below meth c H locs 0 0 (MQ below (va_Qi Q (WQ g) A) args s 0 0 A) (F0 m 71 ls [])) {K92 : Int32 → Int32 → Int32 → Int32 → St → Prop} (hK92 : ∀ (v2 : Int32) (v3 : Int32) (v4 : Int32) (v5 : Int32) (u : St) (H : Heap) (locs : List Loc) (ls : Array Slot), K92 v2 v3 v4 v5 u → WD g A s u H locs → lv_has ls 8 [(0, .ref (gad g 39)), (2, .int v2), (3, .int v3), (4, .int v4), (5, .int v5)] → W p l e rm_X5_duel s m args below meth c H locs 0 0 (MQ below (va_Qi Q (WQ g) A) args s 0 0 A) (F0 m 92 ls [])) : ∀ (v2 : Int32) (v3 : Int32) (v4 : Int32) (v5 : Int32) (v6 : Int32) (t0 : Int32) (u : St) (H : Heap) (locs : List Loc) (ls : Array Slot), wp_X5_duel_J161 p1 Q K65 K71 K92 v2 v3 v4 v5 v6 t0 u → WD g A s u H locs → lv_has ls 8 [(0, .ref (gad g 39)), (2, .int v2), (3, .int v3), (4, .int v4), (5, .int v5), (6, .int v6)] → W p l e rm_X5_duel s m args below meth c H locs 0 0 (MQ below (va_Qi Q (WQ g) A) args s 0 0 A) (F0 m 161 ls [.int t0]) := by
  intro v2 v3 v4 v5 v6 t0 u H locs ls h hW hl
  refine lv_istore (lv' := [(7, .int t0), (0, .ref (gad g 39)), (2, .int v2), (3, .int v3), (4, .int v4), (5, .int v5), (6, .int v6)]) C.1 C.2.1 dX5_duel_161 hl (by decide) rfl (fun ls hl => ?_)
  refine lv_iload C.1 C.2.1 dX5_duel_163 (lv_at hl 0 rfl) ?_
  refine lv_if_eq (tgt := 173) C.1 C.2.1 dX5_duel_165 (by decide) (fun c24 => ?_) (fun c24 => ?_)
  · have h := h.1 c24
    refine lv_iload C.1 C.2.1 dX5_duel_173 (lv_at hl 4 rfl) ?_
    refine lv_istore (lv' := [(4, .int v4), (7, .int t0), (0, .ref (gad g 39)), (2, .int v2), (3, .int v3), (5, .int v5), (6, .int v6)]) C.1 C.2.1 dX5_duel_175 hl (by decide) rfl (fun ls hl => ?_)
    refine lv_iinc (v := (v5 + 1)) (lv' := [(5, .int (v5 + 1)), (4, .int v4), (7, .int t0), (0, .ref (gad g 39)), (2, .int v2), (3, .int v3), (6, .int v6)]) C.1 C.2.1 dX5_duel_177 hl (k := 5) rfl rfl (by decide) rfl (fun ls hl => ?_)
    refine lv_goto (tgt := 92) C.1 C.2.1 dX5_duel_180 (by decide) ?_
    exact hK92 v2 v3 v4 (v5 + 1) u _ _ _ h hW (lv_sub hl [3, 4, 5, 1, 0] rfl)
  · have h := h.2 c24
    refine lv_iload C.1 C.2.1 dX5_duel_168 (lv_at hl 6 rfl) ?_
    refine lv_goto (tgt := 175) C.1 C.2.1 dX5_duel_170 (by decide) ?_
    refine lv_istore (lv' := [(4, .int v6), (7, .int t0), (0, .ref (gad g 39)), (2, .int v2), (3, .int v3), (5, .int v5), (6, .int v6)]) C.1 C.2.1 dX5_duel_175 hl (by decide) rfl (fun ls hl => ?_)
    refine lv_iinc (v := (v5 + 1)) (lv' := [(5, .int (v5 + 1)), (4, .int v6), (7, .int t0), (0, .ref (gad g 39)), (2, .int v2), (3, .int v3), (6, .int v6)]) C.1 C.2.1 dX5_duel_177 hl (k := 5) rfl rfl (by decide) rfl (fun ls hl => ?_)
    refine lv_goto (tgt := 92) C.1 C.2.1 dX5_duel_180 (by decide) ?_
    exact hK92 v2 v3 v6 (v5 + 1) u _ _ _ h hW (lv_sub hl [3, 4, 5, 1, 0] rfl)
set_option maxRecDepth 100000 in
theorem k_X5_duel_J126 {p : Program} {l : Launch} {e : Env} {s : State} {m : MethodId} {args : Array Value} {below : List Frame} {meth : Method} {c : Code} {g : GG} {A : Nat → Prop} {p1 : Int32} {Q : Int32 → St → Prop} (C : MC p s m args meth c cX5_duel 8 RX5 (some .int) g A) {K65 : Int32 → St → Prop} (hK65 : ∀ (v2 : Int32) (u : St) (H : Heap) (locs : List Loc) (ls : Array Slot), K65 v2 u → WD g A s u H locs → lv_has ls 8 [(0, .ref (gad g 39)), (2, .int v2)] → W p l e rm_X5_duel s m args below meth c H locs 0 0 (MQ below (va_Qi Q (WQ g) A) args s 0 0 A) (F0 m 65 ls [])) {K71 : Int32 → Int32 → St → Prop} (hK71 : ∀ (v2 : Int32) (v3 : Int32) (u : St) (H : Heap) (locs : List Loc) (ls : Array Slot), K71 v2 v3 u → WD g A s u H locs → lv_has ls 8 [(0, .ref (gad g 39)), (2, .int v2), (3, .int v3)] → W p l e rm_X5_duel s m args below meth c H locs 0 0 (MQ below (va_Qi Q (WQ g) A) args s 0 0 A) (F0 m 71 ls [])) {K92 : Int32 → Int32 → Int32 → Int32 → St → Prop} (hK92 : ∀ (v2 : Int32) (v3 : Int32) (v4 : Int32) (v5 : Int32) (u : St) (H : Heap) (locs : List Loc) (ls : Array Slot), K92 v2 v3 v4 v5 u → WD g A s u H locs → lv_has ls 8 [(0, .ref (gad g 39)), (2, .int v2), (3, .int v3), (4, .int v4), (5, .int v5)] → W p l e rm_X5_duel s m args below meth c H locs 0 0 (MQ below (va_Qi Q (WQ g) A) args s 0 0 A) (F0 m 92 ls [])) : ∀ (v2 : Int32) (v3 : Int32) (v4 : Int32) (v5 : Int32) (t0 : Int32) (u : St) (H : Heap) (locs : List Loc) (ls : Array Slot), wp_X5_duel_J126 p1 Q K65 K71 K92 v2 v3 v4 v5 t0 u → WD g A s u H locs → lv_has ls 8 [(0, .ref (gad g 39)), (2, .int v2), (3, .int v3), (4, .int v4), (5, .int v5)] → W p l e rm_X5_duel s m args below meth c H locs 0 0 (MQ below (va_Qi Q (WQ g) A) args s 0 0 A) (F0 m 126 ls [.int t0]) := by
  intro v2 v3 v4 v5 t0 u H locs ls h hW hl
  refine lv_istore (lv' := [(6, .int t0), (0, .ref (gad g 39)), (2, .int v2), (3, .int v3), (4, .int v4), (5, .int v5)]) C.1 C.2.1 dX5_duel_126 hl (by decide) rfl (fun ls hl => ?_)
  refine lv_iload_n C.1 C.2.1 dX5_duel_128 rfl (lv_at hl 2 rfl) ?_
  refine lv_iconst (v := 2) C.1 C.2.1 dX5_duel_129 (by decide) ?_
  refine lv_irem C.1 C.2.1 dX5_duel_130 (by decide) ?_
  refine lv_if_ne (tgt := 149) C.1 C.2.1 dX5_duel_131 (by decide) (fun c21 => ?_) (fun c21 => ?_)
  · have h := h.1 c21
    refine lv_iload C.1 C.2.1 dX5_duel_149 (lv_at hl 0 rfl) ?_
    refine lv_iload C.1 C.2.1 dX5_duel_151 (lv_at hl 4 rfl) ?_
    refine lv_icmp_ge (tgt := 160) C.1 C.2.1 dX5_duel_153 (by decide) (fun c22 => ?_) (fun c22 => ?_)
    · have h := h.1 c22
      refine lv_iconst (v := 0) C.1 C.2.1 dX5_duel_160 (by decide) ?_
      exact k_X5_duel_J161 C hK65 hK71 hK92 v2 v3 v4 v5 t0 0 u _ _ _ h hW (lv_sub hl [1, 2, 3, 4, 5, 0] rfl)
    · have h := h.2 c22
      refine lv_iconst (v := 1) C.1 C.2.1 dX5_duel_156 (by decide) ?_
      refine lv_goto (tgt := 161) C.1 C.2.1 dX5_duel_157 (by decide) ?_
      exact k_X5_duel_J161 C hK65 hK71 hK92 v2 v3 v4 v5 t0 1 u _ _ _ h hW (lv_sub hl [1, 2, 3, 4, 5, 0] rfl)
  · have h := h.2 c21
    refine lv_iload C.1 C.2.1 dX5_duel_134 (lv_at hl 0 rfl) ?_
    refine lv_iload C.1 C.2.1 dX5_duel_136 (lv_at hl 4 rfl) ?_
    refine lv_icmp_le (tgt := 145) C.1 C.2.1 dX5_duel_138 (by decide) (fun c23 => ?_) (fun c23 => ?_)
    · have h := h.1 c23
      refine lv_iconst (v := 0) C.1 C.2.1 dX5_duel_145 (by decide) ?_
      refine lv_goto (tgt := 161) C.1 C.2.1 dX5_duel_146 (by decide) ?_
      exact k_X5_duel_J161 C hK65 hK71 hK92 v2 v3 v4 v5 t0 0 u _ _ _ h hW (lv_sub hl [1, 2, 3, 4, 5, 0] rfl)
    · have h := h.2 c23
      refine lv_iconst (v := 1) C.1 C.2.1 dX5_duel_141 (by decide) ?_
      refine lv_goto (tgt := 161) C.1 C.2.1 dX5_duel_142 (by decide) ?_
      exact k_X5_duel_J161 C hK65 hK71 hK92 v2 v3 v4 v5 t0 1 u _ _ _ h hW (lv_sub hl [1, 2, 3, 4, 5, 0] rfl)
set_option maxRecDepth 100000 in
theorem k_X5_duel_B92 {p : Program} {l : Launch} {e : Env} {s : State} {m : MethodId} {args : Array Value} {below : List Frame} {meth : Method} {c : Code} {g : GG} {A : Nat → Prop} {p1 : Int32} {Q : Int32 → St → Prop} (C : MC p s m args meth c cX5_duel 8 RX5 (some .int) g A) {K65 : Int32 → St → Prop} (hK65 : ∀ (v2 : Int32) (u : St) (H : Heap) (locs : List Loc) (ls : Array Slot), K65 v2 u → WD g A s u H locs → lv_has ls 8 [(0, .ref (gad g 39)), (2, .int v2)] → W p l e rm_X5_duel s m args below meth c H locs 0 0 (MQ below (va_Qi Q (WQ g) A) args s 0 0 A) (F0 m 65 ls [])) {K71 : Int32 → Int32 → St → Prop} (hK71 : ∀ (v2 : Int32) (v3 : Int32) (u : St) (H : Heap) (locs : List Loc) (ls : Array Slot), K71 v2 v3 u → WD g A s u H locs → lv_has ls 8 [(0, .ref (gad g 39)), (2, .int v2), (3, .int v3)] → W p l e rm_X5_duel s m args below meth c H locs 0 0 (MQ below (va_Qi Q (WQ g) A) args s 0 0 A) (F0 m 71 ls [])) {K92 : Int32 → Int32 → Int32 → Int32 → St → Prop} (hK92 : ∀ (v2 : Int32) (v3 : Int32) (v4 : Int32) (v5 : Int32) (u : St) (H : Heap) (locs : List Loc) (ls : Array Slot), K92 v2 v3 v4 v5 u → WD g A s u H locs → lv_has ls 8 [(0, .ref (gad g 39)), (2, .int v2), (3, .int v3), (4, .int v4), (5, .int v5)] → W p l e rm_X5_duel s m args below meth c H locs 0 0 (MQ below (va_Qi Q (WQ g) A) args s 0 0 A) (F0 m 92 ls [])) : ∀ (v2 : Int32) (v3 : Int32) (v4 : Int32) (v5 : Int32) (u : St) (H : Heap) (locs : List Loc) (ls : Array Slot), wp_X5_duel_B92 p1 Q K65 K71 K92 v2 v3 v4 v5 u → WD g A s u H locs → lv_has ls 8 [(0, .ref (gad g 39)), (2, .int v2), (3, .int v3), (4, .int v4), (5, .int v5)] → W p l e rm_X5_duel s m args below meth c H locs 0 0 (MQ below (va_Qi Q (WQ g) A) args s 0 0 A) (F0 m 92 ls []) := by
  intro v2 v3 v4 v5 u H locs ls h hW hl
  refine lv_iload C.1 C.2.1 dX5_duel_92 (lv_at hl 4 rfl) ?_
  refine lv_aload_n C.1 C.2.1 dX5_duel_94 rfl (lv_at hl 0 rfl) ?_
  refine fg_X5_116 C hW dX5_duel_95 ?_
  refine lv_icmp_ge (tgt := 183) C.1 C.2.1 dX5_duel_98 (by decide) (fun c15 => ?_) (fun c15 => ?_)
  · have h := h.1 c15
    refine lv_aload_n C.1 C.2.1 dX5_duel_183 rfl (lv_at hl 0 rfl) ?_
    refine fg_X5_75 C hW dX5_duel_184 ?_
    refine lv_iload_n C.1 C.2.1 dX5_duel_187 rfl (lv_at hl 2 rfl) ?_
    refine lv_iload C.1 C.2.1 dX5_duel_188 (lv_at hl 3 rfl) ?_
    obtain ⟨h16, h⟩ := h
    refine x_iast C hW g_60 h16 dX5_duel_190 (fun u17 H locs e17 hW => ?_)
    have h := nxt_get h e17
    refine lv_iinc (v := (v3 + 1)) (lv' := [(3, .int (v3 + 1)), (0, .ref (gad g 39)), (2, .int v2), (4, .int v4), (5, .int v5)]) C.1 C.2.1 dX5_duel_191 hl (k := 2) rfl rfl (by decide) rfl (fun ls hl => ?_)
    refine lv_goto (tgt := 71) C.1 C.2.1 dX5_duel_194 (by decide) ?_
    exact hK71 v2 (v3 + 1) u17 _ _ _ h hW (lv_sub hl [1, 2, 0] rfl)
  · have h := h.2 c15
    refine lv_iload_n C.1 C.2.1 dX5_duel_101 rfl (lv_at hl 2 rfl) ?_
    refine lv_iload C.1 C.2.1 dX5_duel_102 (lv_at hl 4 rfl) ?_
    refine x_Si (rest := []) C hW (c_X5_has l g h) km_X5_has qm_X5_125 ⟨rfl, rfl⟩ (by decide) rfl hl.1 rfl (Nat.le_of_ble_eq_true rfl) ⟨Nat.zero_le _, Nat.zero_le _⟩ dX5_duel_104 (fun r18 u18 H locs h hW => ?_)
    refine lv_if_eq (tgt := 115) C.1 C.2.1 dX5_duel_107 (by decide) (fun c19 => ?_) (fun c19 => ?_)
    · have h := h.1 c19
      refine lv_aload_n C.1 C.2.1 dX5_duel_115 rfl (lv_at hl 0 rfl) ?_
      refine fg_X5_75 C hW dX5_duel_116 ?_
      refine lv_iload_n C.1 C.2.1 dX5_duel_119 rfl (lv_at hl 2 rfl) ?_
      refine lv_iconst (v := 1) C.1 C.2.1 dX5_duel_120 (by decide) ?_
      refine lv_iload C.1 C.2.1 dX5_duel_121 (lv_at hl 4 rfl) ?_
      refine lv_ishl C.1 C.2.1 dX5_duel_123 ?_
      refine lv_ior C.1 C.2.1 dX5_duel_124 ?_
      obtain ⟨h20, h⟩ := h
      refine x_iald C hW g_60 h20 dX5_duel_125 ?_
      exact k_X5_duel_J126 C hK65 hK71 hK92 v2 v3 v4 v5 (gi u18 60 (Int32.toNatClampNeg (v3 ||| (1 <<< (v5 &&& 31))))) u18 _ _ _ h hW hl
    · have h := h.2 c19
      refine lv_iload C.1 C.2.1 dX5_duel_110 (lv_at hl 3 rfl) ?_
      refine lv_goto (tgt := 126) C.1 C.2.1 dX5_duel_112 (by decide) ?_
      exact k_X5_duel_J126 C hK65 hK71 hK92 v2 v3 v4 v5 v4 u18 _ _ _ h hW hl
theorem k_X5_duel_L92 {p : Program} {l : Launch} {e : Env} {s : State} {m : MethodId} {args : Array Value} {below : List Frame} {meth : Method} {c : Code} {g : GG} {A : Nat → Prop} {p1 : Int32} {Q : Int32 → St → Prop} (C : MC p s m args meth c cX5_duel 8 RX5 (some .int) g A) {K65 : Int32 → St → Prop} (hK65 : ∀ (v2 : Int32) (u : St) (H : Heap) (locs : List Loc) (ls : Array Slot), K65 v2 u → WD g A s u H locs → lv_has ls 8 [(0, .ref (gad g 39)), (2, .int v2)] → W p l e rm_X5_duel s m args below meth c H locs 0 0 (MQ below (va_Qi Q (WQ g) A) args s 0 0 A) (F0 m 65 ls [])) {K71 : Int32 → Int32 → St → Prop} (hK71 : ∀ (v2 : Int32) (v3 : Int32) (u : St) (H : Heap) (locs : List Loc) (ls : Array Slot), K71 v2 v3 u → WD g A s u H locs → lv_has ls 8 [(0, .ref (gad g 39)), (2, .int v2), (3, .int v3)] → W p l e rm_X5_duel s m args below meth c H locs 0 0 (MQ below (va_Qi Q (WQ g) A) args s 0 0 A) (F0 m 71 ls [])) : ∀ (n : Nat), ∀ (v2 : Int32) (v3 : Int32) (v4 : Int32) (v5 : Int32) (u : St) (H : Heap) (locs : List Loc) (ls : Array Slot), wp_X5_duel_L92 p1 Q K65 K71 n v2 v3 v4 v5 u → WD g A s u H locs → lv_has ls 8 [(0, .ref (gad g 39)), (2, .int v2), (3, .int v3), (4, .int v4), (5, .int v5)] → W p l e rm_X5_duel s m args below meth c H locs 0 0 (MQ below (va_Qi Q (WQ g) A) args s 0 0 A) (F0 m 92 ls []) := by
  intro n
  induction n with
  | zero => intro v2 v3 v4 v5 u H locs ls h; exact False.elim h
  | succ n ih => exact k_X5_duel_B92 (p1 := p1) C hK65 hK71 ih
set_option maxRecDepth 100000 in
theorem k_X5_duel_B71 {p : Program} {l : Launch} {e : Env} {s : State} {m : MethodId} {args : Array Value} {below : List Frame} {meth : Method} {c : Code} {g : GG} {A : Nat → Prop} {p1 : Int32} {Q : Int32 → St → Prop} (C : MC p s m args meth c cX5_duel 8 RX5 (some .int) g A) {K65 : Int32 → St → Prop} (hK65 : ∀ (v2 : Int32) (u : St) (H : Heap) (locs : List Loc) (ls : Array Slot), K65 v2 u → WD g A s u H locs → lv_has ls 8 [(0, .ref (gad g 39)), (2, .int v2)] → W p l e rm_X5_duel s m args below meth c H locs 0 0 (MQ below (va_Qi Q (WQ g) A) args s 0 0 A) (F0 m 65 ls [])) {K71 : Int32 → Int32 → St → Prop} (hK71 : ∀ (v2 : Int32) (v3 : Int32) (u : St) (H : Heap) (locs : List Loc) (ls : Array Slot), K71 v2 v3 u → WD g A s u H locs → lv_has ls 8 [(0, .ref (gad g 39)), (2, .int v2), (3, .int v3)] → W p l e rm_X5_duel s m args below meth c H locs 0 0 (MQ below (va_Qi Q (WQ g) A) args s 0 0 A) (F0 m 71 ls [])) : ∀ (v2 : Int32) (v3 : Int32) (u : St) (H : Heap) (locs : List Loc) (ls : Array Slot), wp_X5_duel_B71 p1 Q K65 K71 v2 v3 u → WD g A s u H locs → lv_has ls 8 [(0, .ref (gad g 39)), (2, .int v2), (3, .int v3)] → W p l e rm_X5_duel s m args below meth c H locs 0 0 (MQ below (va_Qi Q (WQ g) A) args s 0 0 A) (F0 m 71 ls []) := by
  intro v2 v3 u H locs ls h hW hl
  refine lv_iload_n C.1 C.2.1 dX5_duel_71 rfl (lv_at hl 2 rfl) ?_
  refine lv_iconst (v := 1) C.1 C.2.1 dX5_duel_72 (by decide) ?_
  refine lv_aload_n C.1 C.2.1 dX5_duel_73 rfl (lv_at hl 0 rfl) ?_
  refine fg_X5_116 C hW dX5_duel_74 ?_
  refine lv_ishl C.1 C.2.1 dX5_duel_77 ?_
  refine lv_icmp_ge (tgt := 197) C.1 C.2.1 dX5_duel_78 (by decide) (fun c13 => ?_) (fun c13 => ?_)
  · have h := h.1 c13
    refine lv_iinc (v := (v2 + (-1))) (lv' := [(2, .int (v2 + (-1))), (0, .ref (gad g 39)), (3, .int v3)]) C.1 C.2.1 dX5_duel_197 hl (k := 1) rfl rfl (by decide) rfl (fun ls hl => ?_)
    refine lv_goto (tgt := 65) C.1 C.2.1 dX5_duel_200 (by decide) ?_
    exact hK65 (v2 + (-1)) u _ _ _ h hW (lv_sub hl [1, 0] rfl)
  · have h := h.2 c13
    refine lv_aload_n C.1 C.2.1 dX5_duel_81 rfl (lv_at hl 0 rfl) ?_
    refine fg_X5_75 C hW dX5_duel_82 ?_
    refine lv_iload_n C.1 C.2.1 dX5_duel_85 rfl (lv_at hl 2 rfl) ?_
    obtain ⟨h14, h⟩ := h
    refine x_iald C hW g_60 h14 dX5_duel_86 ?_
    refine lv_istore (lv' := [(4, .int (gi u 60 (Int32.toNatClampNeg v3))), (0, .ref (gad g 39)), (2, .int v2), (3, .int v3)]) C.1 C.2.1 dX5_duel_87 hl (by decide) rfl (fun ls hl => ?_)
    refine lv_iconst (v := 0) C.1 C.2.1 dX5_duel_89 (by decide) ?_
    refine lv_istore (lv' := [(5, .int 0), (4, .int (gi u 60 (Int32.toNatClampNeg v3))), (0, .ref (gad g 39)), (2, .int v2), (3, .int v3)]) C.1 C.2.1 dX5_duel_90 hl (by decide) rfl (fun ls hl => ?_)
    obtain ⟨n, h⟩ := h
    exact k_X5_duel_L92 C hK65 hK71 n v2 v3 (gi u 60 (Int32.toNatClampNeg v3)) 0 u _ _ _ h hW (lv_sub hl [2, 3, 4, 1, 0] rfl)
theorem k_X5_duel_L71 {p : Program} {l : Launch} {e : Env} {s : State} {m : MethodId} {args : Array Value} {below : List Frame} {meth : Method} {c : Code} {g : GG} {A : Nat → Prop} {p1 : Int32} {Q : Int32 → St → Prop} (C : MC p s m args meth c cX5_duel 8 RX5 (some .int) g A) {K65 : Int32 → St → Prop} (hK65 : ∀ (v2 : Int32) (u : St) (H : Heap) (locs : List Loc) (ls : Array Slot), K65 v2 u → WD g A s u H locs → lv_has ls 8 [(0, .ref (gad g 39)), (2, .int v2)] → W p l e rm_X5_duel s m args below meth c H locs 0 0 (MQ below (va_Qi Q (WQ g) A) args s 0 0 A) (F0 m 65 ls [])) : ∀ (n : Nat), ∀ (v2 : Int32) (v3 : Int32) (u : St) (H : Heap) (locs : List Loc) (ls : Array Slot), wp_X5_duel_L71 p1 Q K65 n v2 v3 u → WD g A s u H locs → lv_has ls 8 [(0, .ref (gad g 39)), (2, .int v2), (3, .int v3)] → W p l e rm_X5_duel s m args below meth c H locs 0 0 (MQ below (va_Qi Q (WQ g) A) args s 0 0 A) (F0 m 71 ls []) := by
  intro n
  induction n with
  | zero => intro v2 v3 u H locs ls h; exact False.elim h
  | succ n ih => exact k_X5_duel_B71 (p1 := p1) C hK65 ih
set_option maxRecDepth 100000 in
theorem k_X5_duel_B65 {p : Program} {l : Launch} {e : Env} {s : State} {m : MethodId} {args : Array Value} {below : List Frame} {meth : Method} {c : Code} {g : GG} {A : Nat → Prop} {p1 : Int32} {Q : Int32 → St → Prop} (C : MC p s m args meth c cX5_duel 8 RX5 (some .int) g A) {K65 : Int32 → St → Prop} (hK65 : ∀ (v2 : Int32) (u : St) (H : Heap) (locs : List Loc) (ls : Array Slot), K65 v2 u → WD g A s u H locs → lv_has ls 8 [(0, .ref (gad g 39)), (2, .int v2)] → W p l e rm_X5_duel s m args below meth c H locs 0 0 (MQ below (va_Qi Q (WQ g) A) args s 0 0 A) (F0 m 65 ls [])) : ∀ (v2 : Int32) (u : St) (H : Heap) (locs : List Loc) (ls : Array Slot), wp_X5_duel_B65 p1 Q K65 v2 u → WD g A s u H locs → lv_has ls 8 [(0, .ref (gad g 39)), (2, .int v2)] → W p l e rm_X5_duel s m args below meth c H locs 0 0 (MQ below (va_Qi Q (WQ g) A) args s 0 0 A) (F0 m 65 ls []) := by
  intro v2 u H locs ls h hW hl
  refine lv_iload_n C.1 C.2.1 dX5_duel_65 rfl (lv_at hl 1 rfl) ?_
  refine lv_if_lt (tgt := 203) C.1 C.2.1 dX5_duel_66 (by decide) (fun c10 => ?_) (fun c10 => ?_)
  · have h := h.1 c10
    refine lv_aload_n C.1 C.2.1 dX5_duel_203 rfl (lv_at hl 0 rfl) ?_
    refine fg_X5_75 C hW dX5_duel_204 ?_
    refine lv_aload_n C.1 C.2.1 dX5_duel_207 rfl (lv_at hl 0 rfl) ?_
    refine lv_iconst (v := 0) C.1 C.2.1 dX5_duel_208 (by decide) ?_
    refine x_Vi (rest := [.ref (gad g 60)]) C hW (c_X5_now l g h) km_X5_now oModel rfl qm_X5_122 ⟨rfl, rfl⟩ (by decide) rfl hl.1 rfl (Nat.le_of_ble_eq_true rfl) ⟨Nat.zero_le _, Nat.zero_le _⟩ dX5_duel_209 (fun r11 u11 H locs h hW => ?_)
    obtain ⟨h12, h⟩ := h
    refine x_iald C hW g_60 h12 dX5_duel_212 ?_
    exact x_iret C hW h dX5_duel_213
  · have h := h.2 c10
    refine lv_iconst (v := 0) C.1 C.2.1 dX5_duel_69 (by decide) ?_
    refine lv_istore_n (lv' := [(3, .int 0), (0, .ref (gad g 39)), (2, .int v2)]) C.1 C.2.1 dX5_duel_70 rfl hl (by decide) rfl (fun ls hl => ?_)
    obtain ⟨n, h⟩ := h
    exact k_X5_duel_L71 C hK65 n v2 0 u _ _ _ h hW (lv_sub hl [1, 2, 0] rfl)
theorem k_X5_duel_L65 {p : Program} {l : Launch} {e : Env} {s : State} {m : MethodId} {args : Array Value} {below : List Frame} {meth : Method} {c : Code} {g : GG} {A : Nat → Prop} {p1 : Int32} {Q : Int32 → St → Prop} (C : MC p s m args meth c cX5_duel 8 RX5 (some .int) g A) : ∀ (n : Nat), ∀ (v2 : Int32) (u : St) (H : Heap) (locs : List Loc) (ls : Array Slot), wp_X5_duel_L65 p1 Q n v2 u → WD g A s u H locs → lv_has ls 8 [(0, .ref (gad g 39)), (2, .int v2)] → W p l e rm_X5_duel s m args below meth c H locs 0 0 (MQ below (va_Qi Q (WQ g) A) args s 0 0 A) (F0 m 65 ls []) := by
  intro n
  induction n with
  | zero => intro v2 u H locs ls h; exact False.elim h
  | succ n ih => exact k_X5_duel_B65 (p1 := p1) C ih
set_option maxRecDepth 100000 in
theorem k_X5_duel_B27 {p : Program} {l : Launch} {e : Env} {s : State} {m : MethodId} {args : Array Value} {below : List Frame} {meth : Method} {c : Code} {g : GG} {A : Nat → Prop} {p1 : Int32} {Q : Int32 → St → Prop} (C : MC p s m args meth c cX5_duel 8 RX5 (some .int) g A) {K27 : Int32 → St → Prop} (hK27 : ∀ (v2 : Int32) (u : St) (H : Heap) (locs : List Loc) (ls : Array Slot), K27 v2 u → WD g A s u H locs → lv_has ls 8 [(0, .ref (gad g 39)), (1, .int p1), (2, .int v2)] → W p l e rm_X5_duel s m args below meth c H locs 0 0 (MQ below (va_Qi Q (WQ g) A) args s 0 0 A) (F0 m 27 ls [])) : ∀ (v2 : Int32) (u : St) (H : Heap) (locs : List Loc) (ls : Array Slot), wp_X5_duel_B27 p1 Q K27 v2 u → WD g A s u H locs → lv_has ls 8 [(0, .ref (gad g 39)), (1, .int p1), (2, .int v2)] → W p l e rm_X5_duel s m args below meth c H locs 0 0 (MQ below (va_Qi Q (WQ g) A) args s 0 0 A) (F0 m 27 ls []) := by
  intro v2 u H locs ls h hW hl
  refine lv_iload_n C.1 C.2.1 dX5_duel_27 rfl (lv_at hl 2 rfl) ?_
  refine lv_iconst (v := 1) C.1 C.2.1 dX5_duel_28 (by decide) ?_
  refine lv_aload_n C.1 C.2.1 dX5_duel_29 rfl (lv_at hl 0 rfl) ?_
  refine fg_X5_116 C hW dX5_duel_30 ?_
  refine lv_ishl C.1 C.2.1 dX5_duel_33 ?_
  refine lv_icmp_ge (tgt := 61) C.1 C.2.1 dX5_duel_34 (by decide) (fun c5 => ?_) (fun c5 => ?_)
  · have h := h.1 c5
    refine lv_iload_n C.1 C.2.1 dX5_duel_61 rfl (lv_at hl 1 rfl) ?_
    refine lv_iconst (v := 1) C.1 C.2.1 dX5_duel_62 (by decide) ?_
    refine lv_isub C.1 C.2.1 dX5_duel_63 ?_
    refine lv_istore_n (lv' := [(2, .int (p1 - 1)), (0, .ref (gad g 39)), (1, .int p1)]) C.1 C.2.1 dX5_duel_64 rfl hl (by decide) rfl (fun ls hl => ?_)
    obtain ⟨n, h⟩ := h
    exact k_X5_duel_L65 C n (p1 - 1) u _ _ _ h hW (lv_sub hl [1, 0] rfl)
  · have h := h.2 c5
    refine lv_aload_n C.1 C.2.1 dX5_duel_37 rfl (lv_at hl 0 rfl) ?_
    refine fg_X5_75 C hW dX5_duel_38 ?_
    refine lv_iload_n C.1 C.2.1 dX5_duel_41 rfl (lv_at hl 2 rfl) ?_
    refine lv_aload_n C.1 C.2.1 dX5_duel_42 rfl (lv_at hl 0 rfl) ?_
    refine lv_iload_n C.1 C.2.1 dX5_duel_43 rfl (lv_at hl 2 rfl) ?_
    refine x_Vi (rest := [.int v2, .ref (gad g 60)]) C hW (c_X5_toldOf l g h) km_X5_toldOf oModel rfl qm_X5_179 ⟨rfl, rfl⟩ (by decide) rfl hl.1 rfl (Nat.le_of_ble_eq_true rfl) ⟨Nat.zero_le _, Nat.zero_le _⟩ dX5_duel_44 (fun r6 u6 H locs h hW => ?_)
    refine lv_iload_n C.1 C.2.1 dX5_duel_47 rfl (lv_at hl 2 rfl) ?_
    refine lv_iconst (v := (-1)) C.1 C.2.1 dX5_duel_48 (by decide) ?_
    refine lv_ixor C.1 C.2.1 dX5_duel_49 ?_
    refine lv_iand C.1 C.2.1 dX5_duel_50 ?_
    refine x_Si (rest := [.int v2, .ref (gad g 60)]) C hW (c_X5_bitsOf l g h) km_X5_bitsOf qm_X5_156 ⟨rfl, rfl⟩ (by decide) rfl hl.1 rfl (Nat.le_of_ble_eq_true rfl) ⟨Nat.zero_le _, Nat.zero_le _⟩ dX5_duel_51 (fun r7 u7 H locs h hW => ?_)
    obtain ⟨h8, h⟩ := h
    refine x_iast C hW g_60 h8 dX5_duel_54 (fun u9 H locs e9 hW => ?_)
    have h := nxt_get h e9
    refine lv_iinc (v := (v2 + 1)) (lv' := [(2, .int (v2 + 1)), (0, .ref (gad g 39)), (1, .int p1)]) C.1 C.2.1 dX5_duel_55 hl (k := 2) rfl rfl (by decide) rfl (fun ls hl => ?_)
    refine lv_goto (tgt := 27) C.1 C.2.1 dX5_duel_58 (by decide) ?_
    exact hK27 (v2 + 1) u9 _ _ _ h hW (lv_sub hl [1, 2, 0] rfl)
theorem k_X5_duel_L27 {p : Program} {l : Launch} {e : Env} {s : State} {m : MethodId} {args : Array Value} {below : List Frame} {meth : Method} {c : Code} {g : GG} {A : Nat → Prop} {p1 : Int32} {Q : Int32 → St → Prop} (C : MC p s m args meth c cX5_duel 8 RX5 (some .int) g A) : ∀ (n : Nat), ∀ (v2 : Int32) (u : St) (H : Heap) (locs : List Loc) (ls : Array Slot), wp_X5_duel_L27 p1 Q n v2 u → WD g A s u H locs → lv_has ls 8 [(0, .ref (gad g 39)), (1, .int p1), (2, .int v2)] → W p l e rm_X5_duel s m args below meth c H locs 0 0 (MQ below (va_Qi Q (WQ g) A) args s 0 0 A) (F0 m 27 ls []) := by
  intro n
  induction n with
  | zero => intro v2 u H locs ls h; exact False.elim h
  | succ n ih => exact k_X5_duel_B27 (p1 := p1) C ih
set_option maxRecDepth 100000 in
theorem c_X5_duel (l : Launch) (g : GG) {p1 : Int32} {u : St} {Q : Int32 → St → Prop} (h : wp_X5_duel p1 u Q) : CI l yX5_duel cX5_duel 8 (some .int) rm_X5_duel g [.ref (gad g 39), .int p1] u Q := by
  refine ent (own := RX5) (Qc := va_Qi Q (WQ g)) (by decide) rfl (Nat.le_of_ble_eq_true rfl) ?_
  intro p e s m below meth c A ls C hl hW
  have hl : lv_has ls 8 [(0, .ref (gad g 39)), (1, .int p1)] := hl
  unfold wp_X5_duel at h
  refine lv_iload_n C.1 C.2.1 dX5_duel_0 rfl (lv_at hl 1 rfl) ?_
  refine lv_iconst (v := 0) C.1 C.2.1 dX5_duel_1 (by decide) ?_
  refine lv_iconst (v := 4) C.1 C.2.1 dX5_duel_2 (by decide) ?_
  refine x_Si (rest := []) C hW (c_X5_in l g h) km_X5_in qm_X5_88 ⟨rfl, rfl⟩ (by decide) rfl hl.1 rfl (Nat.le_of_ble_eq_true rfl) ⟨Nat.zero_le _, Nat.zero_le _⟩ dX5_duel_3 (fun r1 u1 H locs h hW => ?_)
  refine lv_if_ne (tgt := 11) C.1 C.2.1 dX5_duel_6 (by decide) (fun c2 => ?_) (fun c2 => ?_)
  · have h := h.1 c2
    refine lv_aload_n C.1 C.2.1 dX5_duel_11 rfl (lv_at hl 0 rfl) ?_
    refine fg_X5_116 C hW dX5_duel_12 ?_
    refine lv_if_ne (tgt := 21) C.1 C.2.1 dX5_duel_15 (by decide) (fun c3 => ?_) (fun c3 => ?_)
    · have h := h.1 c3
      refine lv_aload_n C.1 C.2.1 dX5_duel_21 rfl (lv_at hl 0 rfl) ?_
      refine x_Vv (rest := []) C hW (c_X5_take l g h) km_X5_take oModel rfl qm_X5_139 ⟨rfl, rfl⟩ (by decide) rfl hl.1 rfl (Nat.le_of_ble_eq_true rfl) ⟨Nat.zero_le _, Nat.zero_le _⟩ dX5_duel_22 (fun u4 H locs h hW => ?_)
      refine lv_iconst (v := 0) C.1 C.2.1 dX5_duel_25 (by decide) ?_
      refine lv_istore_n (lv' := [(2, .int 0), (0, .ref (gad g 39)), (1, .int p1)]) C.1 C.2.1 dX5_duel_26 rfl hl (by decide) rfl (fun ls hl => ?_)
      obtain ⟨n, h⟩ := h
      exact k_X5_duel_L27 C n 0 u4 _ _ _ h hW (lv_sub hl [1, 2, 0] rfl)
    · have h := h.2 c3
      refine lv_bipush (v := (-4)) C.1 C.2.1 dX5_duel_18 (by decide) ?_
      exact x_iret C hW h dX5_duel_20
  · have h := h.2 c2
    refine lv_iconst (v := (-1)) C.1 C.2.1 dX5_duel_9 (by decide) ?_
    exact x_iret C hW h dX5_duel_10
set_option maxRecDepth 100000 in
theorem c_X5_fault (l : Launch) (g : GG) {p1 : Int32} {u : St} {Q : Int32 → St → Prop} (h : wp_X5_fault p1 u Q) : CI l yX5_fault cX5_fault 3 (some .int) rm_X5_fault g [.ref (gad g 39), .int p1] u Q := by
  refine ent (own := RX5) (Qc := va_Qi Q (WQ g)) (by decide) rfl (Nat.le_of_ble_eq_true rfl) ?_
  intro p e s m below meth c A ls C hl hW
  have hl : lv_has ls 3 [(0, .ref (gad g 39)), (1, .int p1)] := hl
  unfold wp_X5_fault at h
  refine lv_iload_n C.1 C.2.1 dX5_fault_0 rfl (lv_at hl 1 rfl) ?_
  refine x_Si (rest := []) C hW (c_X5_isText l g h) km_X5_isText qm_X5_103 ⟨rfl, rfl⟩ (by decide) rfl hl.1 rfl (Nat.le_of_ble_eq_true rfl) ⟨Nat.zero_le _, Nat.zero_le _⟩ dX5_fault_1 (fun r1 u1 H locs h hW => ?_)
  refine lv_if_ne (tgt := 9) C.1 C.2.1 dX5_fault_4 (by decide) (fun c2 => ?_) (fun c2 => ?_)
  · have h := h.1 c2
    refine lv_aload_n C.1 C.2.1 dX5_fault_9 rfl (lv_at hl 0 rfl) ?_
    refine fg_X5_23 C hW dX5_fault_10 ?_
    refine lv_iload_n C.1 C.2.1 dX5_fault_13 rfl (lv_at hl 1 rfl) ?_
    obtain ⟨h3, h⟩ := h
    refine x_iald C hW g_43 h3 dX5_fault_14 ?_
    refine lv_if_ge (tgt := 24) C.1 C.2.1 dX5_fault_15 (by decide) (fun c4 => ?_) (fun c4 => ?_)
    · have h := h.1 c4
      refine lv_aload_n C.1 C.2.1 dX5_fault_24 rfl (lv_at hl 0 rfl) ?_
      refine lv_iload_n C.1 C.2.1 dX5_fault_25 rfl (lv_at hl 1 rfl) ?_
      refine x_Vi (rest := []) C hW (c_X5_read l g h) km_X5_read oModel rfl qm_X5_113 ⟨rfl, rfl⟩ (by decide) rfl hl.1 rfl (Nat.le_of_ble_eq_true rfl) ⟨Nat.zero_le _, Nat.zero_le _⟩ dX5_fault_26 (fun r5 u5 H locs h hW => ?_)
      refine lv_istore_n (lv' := [(2, .int r5), (0, .ref (gad g 39)), (1, .int p1)]) C.1 C.2.1 dX5_fault_29 rfl hl (by decide) rfl (fun ls hl => ?_)
      refine lv_iload_n C.1 C.2.1 dX5_fault_30 rfl (lv_at hl 0 rfl) ?_
      refine lv_bipush (v := 100) C.1 C.2.1 dX5_fault_31 (by decide) ?_
      refine lv_icmp_ge (tgt := 41) C.1 C.2.1 dX5_fault_33 (by decide) (fun c6 => ?_) (fun c6 => ?_)
      · have h := h.1 c6
        refine lv_iload_n C.1 C.2.1 dX5_fault_41 rfl (lv_at hl 0 rfl) ?_
        refine lv_bipush (v := 100) C.1 C.2.1 dX5_fault_42 (by decide) ?_
        refine lv_isub C.1 C.2.1 dX5_fault_44 ?_
        exact x_iret C hW h dX5_fault_45
      · have h := h.2 c6
        refine lv_bipush (v := (-9)) C.1 C.2.1 dX5_fault_36 (by decide) ?_
        refine lv_goto (tgt := 45) C.1 C.2.1 dX5_fault_38 (by decide) ?_
        exact x_iret C hW h dX5_fault_45
    · have h := h.2 c4
      refine lv_aload_n C.1 C.2.1 dX5_fault_18 rfl (lv_at hl 0 rfl) ?_
      refine lv_iconst (v := 1) C.1 C.2.1 dX5_fault_19 (by decide) ?_
      refine x_Vi (rest := []) C hW (c_X5_find l g h) km_X5_find oModel rfl qm_X5_96 ⟨rfl, rfl⟩ (by decide) rfl hl.1 rfl (Nat.le_of_ble_eq_true rfl) ⟨Nat.zero_le _, Nat.zero_le _⟩ dX5_fault_20 (fun r7 u7 H locs h hW => ?_)
      exact x_iret C hW h dX5_fault_23
  · have h := h.2 c2
    refine lv_iconst (v := (-1)) C.1 C.2.1 dX5_fault_7 (by decide) ?_
    exact x_iret C hW h dX5_fault_8
set_option maxRecDepth 100000 in
theorem c_X5_finding (l : Launch) (g : GG) {u : St} {Q : Int32 → St → Prop} (h : wp_X5_finding u Q) : CI l yX5_finding cX5_finding 1 (some .int) rm_X5_finding g [.ref (gad g 39)] u Q := by
  refine ent (own := RX5) (Qc := va_Qi Q (WQ g)) (by decide) rfl (Nat.le_of_ble_eq_true rfl) ?_
  intro p e s m below meth c A ls C hl hW
  have hl : lv_has ls 1 [(0, .ref (gad g 39))] := hl
  unfold wp_X5_finding at h
  refine lv_aload_n C.1 C.2.1 dX5_finding_0 rfl (lv_at hl 0 rfl) ?_
  refine fg_X5_78 C hW dX5_finding_1 ?_
  exact x_iret C hW h dX5_finding_4
set_option maxRecDepth 100000 in
theorem c_X5_findings (l : Launch) (g : GG) {p1 : Int32} {u : St} {Q : Int32 → St → Prop} (h : wp_X5_findings p1 u Q) : CI l yX5_findings cX5_findings 2 (some .int) rm_X5_findings g [.ref (gad g 39), .int p1] u Q := by
  refine ent (own := RX5) (Qc := va_Qi Q (WQ g)) (by decide) rfl (Nat.le_of_ble_eq_true rfl) ?_
  intro p e s m below meth c A ls C hl hW
  have hl : lv_has ls 2 [(0, .ref (gad g 39)), (1, .int p1)] := hl
  unfold wp_X5_findings at h
  refine lv_iload_n C.1 C.2.1 dX5_findings_0 rfl (lv_at hl 1 rfl) ?_
  refine lv_iconst (v := 1) C.1 C.2.1 dX5_findings_1 (by decide) ?_
  refine lv_iconst (v := 5) C.1 C.2.1 dX5_findings_2 (by decide) ?_
  refine x_Si (rest := []) C hW (c_X5_in l g h) km_X5_in qm_X5_88 ⟨rfl, rfl⟩ (by decide) rfl hl.1 rfl (Nat.le_of_ble_eq_true rfl) ⟨Nat.zero_le _, Nat.zero_le _⟩ dX5_findings_3 (fun r1 u1 H locs h hW => ?_)
  refine lv_if_eq (tgt := 18) C.1 C.2.1 dX5_findings_6 (by decide) (fun c2 => ?_) (fun c2 => ?_)
  · have h := h.1 c2
    refine lv_iconst (v := (-1)) C.1 C.2.1 dX5_findings_18 (by decide) ?_
    exact x_iret C hW h dX5_findings_19
  · have h := h.2 c2
    refine lv_aload_n C.1 C.2.1 dX5_findings_9 rfl (lv_at hl 0 rfl) ?_
    refine fg_X5_7 C hW dX5_findings_10 ?_
    refine lv_iload_n C.1 C.2.1 dX5_findings_13 rfl (lv_at hl 1 rfl) ?_
    obtain ⟨h3, h⟩ := h
    refine x_iald C hW g_40 h3 dX5_findings_14 ?_
    refine lv_goto (tgt := 19) C.1 C.2.1 dX5_findings_15 (by decide) ?_
    exact x_iret C hW h dX5_findings_19
set_option maxRecDepth 100000 in
theorem k_X5_fraction_B6 {p : Program} {l : Launch} {e : Env} {s : State} {m : MethodId} {args : Array Value} {below : List Frame} {meth : Method} {c : Code} {g : GG} {A : Nat → Prop} {p1 : Int64} {p3 : Int64} {Q : Int32 → St → Prop} (C : MC p s m args meth c cX5_fraction 11 RX5 (some .int) g A) {K6 : Int64 → Int64 → St → Prop} (hK6 : ∀ (v5 : Int64) (v7 : Int64) (u : St) (H : Heap) (locs : List Loc) (ls : Array Slot), K6 v5 v7 u → WD g A s u H locs → lv_has ls 11 [(0, .ref (gad g 39)), (1, .long p1), (3, .long p3), (5, .long v5), (7, .long v7)] → W p l e rm_X5_fraction s m args below meth c H locs 0 0 (MQ below (va_Qi Q (WQ g) A) args s 0 0 A) (F0 m 6 ls [])) : ∀ (v5 : Int64) (v7 : Int64) (u : St) (H : Heap) (locs : List Loc) (ls : Array Slot), wp_X5_fraction_B6 p1 p3 Q K6 v5 v7 u → WD g A s u H locs → lv_has ls 11 [(0, .ref (gad g 39)), (1, .long p1), (3, .long p3), (5, .long v5), (7, .long v7)] → W p l e rm_X5_fraction s m args below meth c H locs 0 0 (MQ below (va_Qi Q (WQ g) A) args s 0 0 A) (F0 m 6 ls []) := by
  intro v5 v7 u H locs ls h hW hl
  refine lv_lload C.1 C.2.1 dX5_fraction_6 (lv_at hl 4 rfl) ?_
  refine lv_lconst (v := 0) C.1 C.2.1 dX5_fraction_8 (by decide) ?_
  refine W.lcmp C.1 C.2.1 dX5_fraction_9 ?_
  refine lv_if_eq (tgt := 31) C.1 C.2.1 dX5_fraction_10 (by decide) (fun c1 => ?_) (fun c1 => ?_)
  · have h := h.1 c1
    refine lv_aload_n C.1 C.2.1 dX5_fraction_31 rfl (lv_at hl 0 rfl) ?_
    refine lv_lload_n C.1 C.2.1 dX5_fraction_32 rfl (lv_at hl 1 rfl) ?_
    refine lv_lload C.1 C.2.1 dX5_fraction_33 (lv_at hl 3 rfl) ?_
    obtain ⟨h2, h⟩ := h
    refine lv_ldiv C.1 C.2.1 dX5_fraction_35 h2 ?_
    refine fp_X5_85 C hW dX5_fraction_36 (fun u3 H locs e3 hW => ?_)
    have h := nxt_get h e3
    refine lv_aload_n C.1 C.2.1 dX5_fraction_39 rfl (lv_at hl 0 rfl) ?_
    refine lv_lload_n C.1 C.2.1 dX5_fraction_40 rfl (lv_at hl 2 rfl) ?_
    refine lv_lload C.1 C.2.1 dX5_fraction_41 (lv_at hl 3 rfl) ?_
    obtain ⟨h4, h⟩ := h
    refine lv_ldiv C.1 C.2.1 dX5_fraction_43 h4 ?_
    refine fp_X5_13 C hW dX5_fraction_44 (fun u5 H locs e5 hW => ?_)
    have h := nxt_get h e5
    refine lv_iconst (v := 1) C.1 C.2.1 dX5_fraction_47 (by decide) ?_
    exact x_iret C hW h dX5_fraction_48
  · have h := h.2 c1
    refine lv_lload C.1 C.2.1 dX5_fraction_13 (lv_at hl 3 rfl) ?_
    refine lv_lload C.1 C.2.1 dX5_fraction_15 (lv_at hl 4 rfl) ?_
    obtain ⟨h6, h⟩ := h
    refine lv_lrem C.1 C.2.1 dX5_fraction_17 h6 ?_
    refine lv_lstore (lv' := [(9, .long (v5 - (v5 / v7) * v7)), (0, .ref (gad g 39)), (1, .long p1), (3, .long p3), (5, .long v5), (7, .long v7)]) C.1 C.2.1 dX5_fraction_18 hl (by decide) rfl (fun ls hl => ?_)
    refine lv_lload C.1 C.2.1 dX5_fraction_20 (lv_at hl 5 rfl) ?_
    refine lv_lstore (lv' := [(5, .long v7), (9, .long (v5 - (v5 / v7) * v7)), (0, .ref (gad g 39)), (1, .long p1), (3, .long p3), (7, .long v7)]) C.1 C.2.1 dX5_fraction_22 hl (by decide) rfl (fun ls hl => ?_)
    refine lv_lload C.1 C.2.1 dX5_fraction_24 (lv_at hl 1 rfl) ?_
    refine lv_lstore (lv' := [(7, .long (v5 - (v5 / v7) * v7)), (5, .long v7), (9, .long (v5 - (v5 / v7) * v7)), (0, .ref (gad g 39)), (1, .long p1), (3, .long p3)]) C.1 C.2.1 dX5_fraction_26 hl (by decide) rfl (fun ls hl => ?_)
    refine lv_goto (tgt := 6) C.1 C.2.1 dX5_fraction_28 (by decide) ?_
    exact hK6 v7 (v5 - (v5 / v7) * v7) u _ _ _ h hW (lv_sub hl [3, 4, 5, 1, 0] rfl)
theorem k_X5_fraction_L6 {p : Program} {l : Launch} {e : Env} {s : State} {m : MethodId} {args : Array Value} {below : List Frame} {meth : Method} {c : Code} {g : GG} {A : Nat → Prop} {p1 : Int64} {p3 : Int64} {Q : Int32 → St → Prop} (C : MC p s m args meth c cX5_fraction 11 RX5 (some .int) g A) : ∀ (n : Nat), ∀ (v5 : Int64) (v7 : Int64) (u : St) (H : Heap) (locs : List Loc) (ls : Array Slot), wp_X5_fraction_L6 p1 p3 Q n v5 v7 u → WD g A s u H locs → lv_has ls 11 [(0, .ref (gad g 39)), (1, .long p1), (3, .long p3), (5, .long v5), (7, .long v7)] → W p l e rm_X5_fraction s m args below meth c H locs 0 0 (MQ below (va_Qi Q (WQ g) A) args s 0 0 A) (F0 m 6 ls []) := by
  intro n
  induction n with
  | zero => intro v5 v7 u H locs ls h; exact False.elim h
  | succ n ih => exact k_X5_fraction_B6 (p1 := p1) (p3 := p3) C ih
set_option maxRecDepth 100000 in
theorem c_X5_fraction (l : Launch) (g : GG) {p1 : Int64} {p3 : Int64} {u : St} {Q : Int32 → St → Prop} (h : wp_X5_fraction p1 p3 u Q) : CI l yX5_fraction cX5_fraction 11 (some .int) rm_X5_fraction g [.ref (gad g 39), .long p1, .long p3] u Q := by
  refine ent (own := RX5) (Qc := va_Qi Q (WQ g)) (by decide) rfl (Nat.le_of_ble_eq_true rfl) ?_
  intro p e s m below meth c A ls C hl hW
  have hl : lv_has ls 11 [(0, .ref (gad g 39)), (1, .long p1), (3, .long p3)] := hl
  unfold wp_X5_fraction at h
  refine lv_lload_n C.1 C.2.1 dX5_fraction_0 rfl (lv_at hl 1 rfl) ?_
  refine lv_lstore (lv' := [(5, .long p1), (0, .ref (gad g 39)), (1, .long p1), (3, .long p3)]) C.1 C.2.1 dX5_fraction_1 hl (by decide) rfl (fun ls hl => ?_)
  refine lv_lload_n C.1 C.2.1 dX5_fraction_3 rfl (lv_at hl 3 rfl) ?_
  refine lv_lstore (lv' := [(7, .long p3), (5, .long p1), (0, .ref (gad g 39)), (1, .long p1), (3, .long p3)]) C.1 C.2.1 dX5_fraction_4 hl (by decide) rfl (fun ls hl => ?_)
  obtain ⟨n, h⟩ := h
  exact k_X5_fraction_L6 C n p1 p3 u _ _ _ h hW (lv_sub hl [2, 3, 4, 1, 0] rfl)
set_option maxRecDepth 100000 in
theorem c_X5_ghosts (l : Launch) (g : GG) {u : St} {Q : Int32 → St → Prop} (h : wp_X5_ghosts u Q) : CI l yX5_ghosts cX5_ghosts 2 (some .int) rm_X5_ghosts g [.ref (gad g 39)] u Q := by
  refine ent (own := RX5) (Qc := va_Qi Q (WQ g)) (by decide) rfl (Nat.le_of_ble_eq_true rfl) ?_
  intro p e s m below meth c A ls C hl hW
  have hl : lv_has ls 2 [(0, .ref (gad g 39))] := hl
  unfold wp_X5_ghosts at h
  refine lv_aload_n C.1 C.2.1 dX5_ghosts_0 rfl (lv_at hl 0 rfl) ?_
  refine x_Vi (rest := []) C hW (c_X5_toldNow l g h) km_X5_toldNow oModel rfl qm_X5_146 ⟨rfl, rfl⟩ (by decide) rfl hl.1 rfl (Nat.le_of_ble_eq_true rfl) ⟨Nat.zero_le _, Nat.zero_le _⟩ dX5_ghosts_1 (fun r1 u1 H locs h hW => ?_)
  refine lv_istore_n (lv' := [(1, .int r1), (0, .ref (gad g 39))]) C.1 C.2.1 dX5_ghosts_4 rfl hl (by decide) rfl (fun ls hl => ?_)
  refine lv_aload_n C.1 C.2.1 dX5_ghosts_5 rfl (lv_at hl 1 rfl) ?_
  refine lv_aload_n C.1 C.2.1 dX5_ghosts_6 rfl (lv_at hl 1 rfl) ?_
  refine lv_iconst (v := 0) C.1 C.2.1 dX5_ghosts_7 (by decide) ?_
  refine x_Vi (rest := [.ref (gad g 39)]) C hW (c_X5_now l g h) km_X5_now oModel rfl qm_X5_122 ⟨rfl, rfl⟩ (by decide) rfl hl.1 rfl (Nat.le_of_ble_eq_true rfl) ⟨Nat.zero_le _, Nat.zero_le _⟩ dX5_ghosts_8 (fun r2 u2 H locs h hW => ?_)
  refine lv_iload_n C.1 C.2.1 dX5_ghosts_11 rfl (lv_at hl 0 rfl) ?_
  refine lv_iconst (v := (-1)) C.1 C.2.1 dX5_ghosts_12 (by decide) ?_
  refine lv_ixor C.1 C.2.1 dX5_ghosts_13 ?_
  refine lv_iand C.1 C.2.1 dX5_ghosts_14 ?_
  refine x_Vi (rest := []) C hW (c_X5_tellAsked l g h) km_X5_tellAsked oModel rfl qm_X5_100 ⟨rfl, rfl⟩ (by decide) rfl hl.1 rfl (Nat.le_of_ble_eq_true rfl) ⟨Nat.zero_le _, Nat.zero_le _⟩ dX5_ghosts_15 (fun r3 u3 H locs h hW => ?_)
  refine lv_pop C.1 C.2.1 dX5_ghosts_18 rfl ?_
  refine lv_iload_n C.1 C.2.1 dX5_ghosts_19 rfl (lv_at hl 0 rfl) ?_
  refine lv_aload_n C.1 C.2.1 dX5_ghosts_20 rfl (lv_at hl 1 rfl) ?_
  refine lv_iconst (v := 0) C.1 C.2.1 dX5_ghosts_21 (by decide) ?_
  refine x_Vi (rest := [.int r1]) C hW (c_X5_now l g h) km_X5_now oModel rfl qm_X5_122 ⟨rfl, rfl⟩ (by decide) rfl hl.1 rfl (Nat.le_of_ble_eq_true rfl) ⟨Nat.zero_le _, Nat.zero_le _⟩ dX5_ghosts_22 (fun r4 u4 H locs h hW => ?_)
  refine lv_iconst (v := (-1)) C.1 C.2.1 dX5_ghosts_25 (by decide) ?_
  refine lv_ixor C.1 C.2.1 dX5_ghosts_26 ?_
  refine lv_iand C.1 C.2.1 dX5_ghosts_27 ?_
  exact x_iret C hW h dX5_ghosts_28
set_option maxRecDepth 100000 in
theorem c_X5_isKey (l : Launch) (g : GG) {p1 : Int32} {u : St} {Q : Int32 → St → Prop} (h : wp_X5_isKey p1 u Q) : CI l yX5_isKey cX5_isKey 2 (some .boolean) rm_X5_isKey g [.ref (gad g 39), .int p1] u Q := by
  refine ent (own := RX5) (Qc := va_Qi Q (WQ g)) (by decide) rfl (Nat.le_of_ble_eq_true rfl) ?_
  intro p e s m below meth c A ls C hl hW
  have hl : lv_has ls 2 [(0, .ref (gad g 39)), (1, .int p1)] := hl
  unfold wp_X5_isKey at h
  refine lv_iload_n C.1 C.2.1 dX5_isKey_0 rfl (lv_at hl 1 rfl) ?_
  refine lv_iconst (v := 0) C.1 C.2.1 dX5_isKey_1 (by decide) ?_
  refine lv_aload_n C.1 C.2.1 dX5_isKey_2 rfl (lv_at hl 0 rfl) ?_
  refine fg_X5_116 C hW dX5_isKey_3 ?_
  refine lv_iconst (v := 1) C.1 C.2.1 dX5_isKey_6 (by decide) ?_
  refine lv_isub C.1 C.2.1 dX5_isKey_7 ?_
  refine x_Si (rest := []) C hW (c_X5_in l g h) km_X5_in qm_X5_88 ⟨rfl, rfl⟩ (by decide) rfl hl.1 rfl (Nat.le_of_ble_eq_true rfl) ⟨Nat.zero_le _, Nat.zero_le _⟩ dX5_isKey_8 (fun r1 u1 H locs h hW => ?_)
  exact x_zret C hW h.1 h.2 dX5_isKey_11
set_option maxRecDepth 100000 in
theorem k_X5_haunts_J82 {p : Program} {l : Launch} {e : Env} {s : State} {m : MethodId} {args : Array Value} {below : List Frame} {meth : Method} {c : Code} {g : GG} {A : Nat → Prop} {p1 : Int32} {Q : Int32 → St → Prop} (C : MC p s m args meth c cX5_haunts 5 RX5 (some .int) g A) {K19 : Int32 → Int32 → St → Prop} (hK19 : ∀ (v2 : Int32) (v3 : Int32) (u : St) (H : Heap) (locs : List Loc) (ls : Array Slot), K19 v2 v3 u → WD g A s u H locs → lv_has ls 5 [(0, .ref (gad g 39)), (1, .int p1), (2, .int v2), (3, .int v3)] → W p l e rm_X5_haunts s m args below meth c H locs 0 0 (MQ below (va_Qi Q (WQ g) A) args s 0 0 A) (F0 m 19 ls [])) : ∀ (v2 : Int32) (v3 : Int32) (u : St) (H : Heap) (locs : List Loc) (ls : Array Slot), wp_X5_haunts_J82 p1 Q K19 v2 v3 u → WD g A s u H locs → lv_has ls 5 [(0, .ref (gad g 39)), (1, .int p1), (2, .int v2), (3, .int v3)] → W p l e rm_X5_haunts s m args below meth c H locs 0 0 (MQ below (va_Qi Q (WQ g) A) args s 0 0 A) (F0 m 82 ls []) := by
  intro v2 v3 u H locs ls h hW hl
  refine lv_iload_n C.1 C.2.1 dX5_haunts_82 rfl (lv_at hl 2 rfl) ?_
  refine lv_istore_n (lv' := [(2, .int v2), (0, .ref (gad g 39)), (1, .int p1), (3, .int v3)]) C.1 C.2.1 dX5_haunts_83 rfl hl (by decide) rfl (fun ls hl => ?_)
  refine lv_iinc (v := (v3 + 1)) (lv' := [(3, .int (v3 + 1)), (2, .int v2), (0, .ref (gad g 39)), (1, .int p1)]) C.1 C.2.1 dX5_haunts_84 hl (k := 3) rfl rfl (by decide) rfl (fun ls hl => ?_)
  refine lv_goto (tgt := 19) C.1 C.2.1 dX5_haunts_87 (by decide) ?_
  exact hK19 v2 (v3 + 1) u _ _ _ h hW (lv_sub hl [2, 3, 1, 0] rfl)
set_option maxRecDepth 100000 in
theorem k_X5_haunts_J59 {p : Program} {l : Launch} {e : Env} {s : State} {m : MethodId} {args : Array Value} {below : List Frame} {meth : Method} {c : Code} {g : GG} {A : Nat → Prop} {p1 : Int32} {Q : Int32 → St → Prop} (C : MC p s m args meth c cX5_haunts 5 RX5 (some .int) g A) {K19 : Int32 → Int32 → St → Prop} (hK19 : ∀ (v2 : Int32) (v3 : Int32) (u : St) (H : Heap) (locs : List Loc) (ls : Array Slot), K19 v2 v3 u → WD g A s u H locs → lv_has ls 5 [(0, .ref (gad g 39)), (1, .int p1), (2, .int v2), (3, .int v3)] → W p l e rm_X5_haunts s m args below meth c H locs 0 0 (MQ below (va_Qi Q (WQ g) A) args s 0 0 A) (F0 m 19 ls [])) : ∀ (v2 : Int32) (v3 : Int32) (t0 : Int32) (u : St) (H : Heap) (locs : List Loc) (ls : Array Slot), wp_X5_haunts_J59 p1 Q K19 v2 v3 t0 u → WD g A s u H locs → lv_has ls 5 [(0, .ref (gad g 39)), (1, .int p1), (2, .int v2), (3, .int v3)] → W p l e rm_X5_haunts s m args below meth c H locs 0 0 (MQ below (va_Qi Q (WQ g) A) args s 0 0 A) (F0 m 59 ls [.int t0]) := by
  intro v2 v3 t0 u H locs ls h hW hl
  refine lv_istore (lv' := [(4, .int t0), (0, .ref (gad g 39)), (1, .int p1), (2, .int v2), (3, .int v3)]) C.1 C.2.1 dX5_haunts_59 hl (by decide) rfl (fun ls hl => ?_)
  refine lv_iload C.1 C.2.1 dX5_haunts_61 (lv_at hl 0 rfl) ?_
  refine lv_if_eq (tgt := 82) C.1 C.2.1 dX5_haunts_63 (by decide) (fun c14 => ?_) (fun c14 => ?_)
  · have h := h.1 c14
    exact k_X5_haunts_J82 C hK19 v2 v3 u _ _ _ h hW (lv_sub hl [1, 2, 3, 4] rfl)
  · have h := h.2 c14
    refine lv_aload_n C.1 C.2.1 dX5_haunts_66 rfl (lv_at hl 1 rfl) ?_
    refine lv_iload_n C.1 C.2.1 dX5_haunts_67 rfl (lv_at hl 4 rfl) ?_
    refine x_Vi (rest := []) C hW (c_X5_toldOf l g h) km_X5_toldOf oModel rfl qm_X5_179 ⟨rfl, rfl⟩ (by decide) rfl hl.1 rfl (Nat.le_of_ble_eq_true rfl) ⟨Nat.zero_le _, Nat.zero_le _⟩ dX5_haunts_68 (fun r15 u15 H locs h hW => ?_)
    refine lv_iload_n C.1 C.2.1 dX5_haunts_71 rfl (lv_at hl 2 rfl) ?_
    refine x_Si (rest := []) C hW (c_X5_has l g h) km_X5_has qm_X5_125 ⟨rfl, rfl⟩ (by decide) rfl hl.1 rfl (Nat.le_of_ble_eq_true rfl) ⟨Nat.zero_le _, Nat.zero_le _⟩ dX5_haunts_72 (fun r16 u16 H locs h hW => ?_)
    refine lv_if_eq (tgt := 82) C.1 C.2.1 dX5_haunts_75 (by decide) (fun c17 => ?_) (fun c17 => ?_)
    · have h := h.1 c17
      exact k_X5_haunts_J82 C hK19 v2 v3 u16 _ _ _ h hW (lv_sub hl [1, 2, 3, 4] rfl)
    · have h := h.2 c17
      refine lv_iload_n C.1 C.2.1 dX5_haunts_78 rfl (lv_at hl 4 rfl) ?_
      refine lv_goto (tgt := 83) C.1 C.2.1 dX5_haunts_79 (by decide) ?_
      refine lv_istore_n (lv' := [(2, .int v3), (4, .int t0), (0, .ref (gad g 39)), (1, .int p1), (3, .int v3)]) C.1 C.2.1 dX5_haunts_83 rfl hl (by decide) rfl (fun ls hl => ?_)
      refine lv_iinc (v := (v3 + 1)) (lv' := [(3, .int (v3 + 1)), (2, .int v3), (4, .int t0), (0, .ref (gad g 39)), (1, .int p1)]) C.1 C.2.1 dX5_haunts_84 hl (k := 4) rfl rfl (by decide) rfl (fun ls hl => ?_)
      refine lv_goto (tgt := 19) C.1 C.2.1 dX5_haunts_87 (by decide) ?_
      exact hK19 v3 (v3 + 1) u16 _ _ _ h hW (lv_sub hl [3, 4, 1, 0] rfl)
set_option maxRecDepth 100000 in
theorem k_X5_haunts_J58 {p : Program} {l : Launch} {e : Env} {s : State} {m : MethodId} {args : Array Value} {below : List Frame} {meth : Method} {c : Code} {g : GG} {A : Nat → Prop} {p1 : Int32} {Q : Int32 → St → Prop} (C : MC p s m args meth c cX5_haunts 5 RX5 (some .int) g A) {K19 : Int32 → Int32 → St → Prop} (hK19 : ∀ (v2 : Int32) (v3 : Int32) (u : St) (H : Heap) (locs : List Loc) (ls : Array Slot), K19 v2 v3 u → WD g A s u H locs → lv_has ls 5 [(0, .ref (gad g 39)), (1, .int p1), (2, .int v2), (3, .int v3)] → W p l e rm_X5_haunts s m args below meth c H locs 0 0 (MQ below (va_Qi Q (WQ g) A) args s 0 0 A) (F0 m 19 ls [])) : ∀ (v2 : Int32) (v3 : Int32) (u : St) (H : Heap) (locs : List Loc) (ls : Array Slot), wp_X5_haunts_J58 p1 Q K19 v2 v3 u → WD g A s u H locs → lv_has ls 5 [(0, .ref (gad g 39)), (1, .int p1), (2, .int v2), (3, .int v3)] → W p l e rm_X5_haunts s m args below meth c H locs 0 0 (MQ below (va_Qi Q (WQ g) A) args s 0 0 A) (F0 m 58 ls []) := by
  intro v2 v3 u H locs ls h hW hl
  refine lv_iconst (v := 0) C.1 C.2.1 dX5_haunts_58 (by decide) ?_
  exact k_X5_haunts_J59 C hK19 v2 v3 0 u _ _ _ h hW hl
set_option maxRecDepth 100000 in
theorem k_X5_haunts_J54 {p : Program} {l : Launch} {e : Env} {s : State} {m : MethodId} {args : Array Value} {below : List Frame} {meth : Method} {c : Code} {g : GG} {A : Nat → Prop} {p1 : Int32} {Q : Int32 → St → Prop} (C : MC p s m args meth c cX5_haunts 5 RX5 (some .int) g A) {K19 : Int32 → Int32 → St → Prop} (hK19 : ∀ (v2 : Int32) (v3 : Int32) (u : St) (H : Heap) (locs : List Loc) (ls : Array Slot), K19 v2 v3 u → WD g A s u H locs → lv_has ls 5 [(0, .ref (gad g 39)), (1, .int p1), (2, .int v2), (3, .int v3)] → W p l e rm_X5_haunts s m args below meth c H locs 0 0 (MQ below (va_Qi Q (WQ g) A) args s 0 0 A) (F0 m 19 ls [])) : ∀ (v2 : Int32) (v3 : Int32) (u : St) (H : Heap) (locs : List Loc) (ls : Array Slot), wp_X5_haunts_J54 p1 Q K19 v2 v3 u → WD g A s u H locs → lv_has ls 5 [(0, .ref (gad g 39)), (1, .int p1), (2, .int v2), (3, .int v3)] → W p l e rm_X5_haunts s m args below meth c H locs 0 0 (MQ below (va_Qi Q (WQ g) A) args s 0 0 A) (F0 m 54 ls []) := by
  intro v2 v3 u H locs ls h hW hl
  refine lv_iconst (v := 1) C.1 C.2.1 dX5_haunts_54 (by decide) ?_
  refine lv_goto (tgt := 59) C.1 C.2.1 dX5_haunts_55 (by decide) ?_
  exact k_X5_haunts_J59 C hK19 v2 v3 1 u _ _ _ h hW hl
set_option maxRecDepth 100000 in
theorem k_X5_haunts_B19 {p : Program} {l : Launch} {e : Env} {s : State} {m : MethodId} {args : Array Value} {below : List Frame} {meth : Method} {c : Code} {g : GG} {A : Nat → Prop} {p1 : Int32} {Q : Int32 → St → Prop} (C : MC p s m args meth c cX5_haunts 5 RX5 (some .int) g A) {K19 : Int32 → Int32 → St → Prop} (hK19 : ∀ (v2 : Int32) (v3 : Int32) (u : St) (H : Heap) (locs : List Loc) (ls : Array Slot), K19 v2 v3 u → WD g A s u H locs → lv_has ls 5 [(0, .ref (gad g 39)), (1, .int p1), (2, .int v2), (3, .int v3)] → W p l e rm_X5_haunts s m args below meth c H locs 0 0 (MQ below (va_Qi Q (WQ g) A) args s 0 0 A) (F0 m 19 ls [])) : ∀ (v2 : Int32) (v3 : Int32) (u : St) (H : Heap) (locs : List Loc) (ls : Array Slot), wp_X5_haunts_B19 p1 Q K19 v2 v3 u → WD g A s u H locs → lv_has ls 5 [(0, .ref (gad g 39)), (1, .int p1), (2, .int v2), (3, .int v3)] → W p l e rm_X5_haunts s m args below meth c H locs 0 0 (MQ below (va_Qi Q (WQ g) A) args s 0 0 A) (F0 m 19 ls []) := by
  intro v2 v3 u H locs ls h hW hl
  refine lv_iload_n C.1 C.2.1 dX5_haunts_19 rfl (lv_at hl 3 rfl) ?_
  refine lv_iconst (v := 1) C.1 C.2.1 dX5_haunts_20 (by decide) ?_
  refine lv_aload_n C.1 C.2.1 dX5_haunts_21 rfl (lv_at hl 0 rfl) ?_
  refine fg_X5_116 C hW dX5_haunts_22 ?_
  refine lv_ishl C.1 C.2.1 dX5_haunts_25 ?_
  refine lv_icmp_ge (tgt := 90) C.1 C.2.1 dX5_haunts_26 (by decide) (fun c4 => ?_) (fun c4 => ?_)
  · have h := h.1 c4
    refine lv_iload_n C.1 C.2.1 dX5_haunts_90 rfl (lv_at hl 2 rfl) ?_
    refine lv_bipush (v := (-9)) C.1 C.2.1 dX5_haunts_91 (by decide) ?_
    refine lv_icmp_eq (tgt := 105) C.1 C.2.1 dX5_haunts_93 (by decide) (fun c5 => ?_) (fun c5 => ?_)
    · have h := h.1 c5
      refine lv_iload_n C.1 C.2.1 dX5_haunts_105 rfl (lv_at hl 2 rfl) ?_
      exact x_iret C hW h dX5_haunts_106
    · have h := h.2 c5
      refine lv_aload_n C.1 C.2.1 dX5_haunts_96 rfl (lv_at hl 0 rfl) ?_
      refine lv_iload_n C.1 C.2.1 dX5_haunts_97 rfl (lv_at hl 2 rfl) ?_
      refine x_Si (rest := [.ref (gad g 39)]) C hW (c_X5_bitsOf l g h) km_X5_bitsOf qm_X5_156 ⟨rfl, rfl⟩ (by decide) rfl hl.1 rfl (Nat.le_of_ble_eq_true rfl) ⟨Nat.zero_le _, Nat.zero_le _⟩ dX5_haunts_98 (fun r6 u6 H locs h hW => ?_)
      refine x_Vi (rest := []) C hW (c_X5_tellAsked l g h) km_X5_tellAsked oModel rfl qm_X5_100 ⟨rfl, rfl⟩ (by decide) rfl hl.1 rfl (Nat.le_of_ble_eq_true rfl) ⟨Nat.zero_le _, Nat.zero_le _⟩ dX5_haunts_101 (fun r7 u7 H locs h hW => ?_)
      refine lv_pop C.1 C.2.1 dX5_haunts_104 rfl ?_
      refine lv_iload_n C.1 C.2.1 dX5_haunts_105 rfl (lv_at hl 2 rfl) ?_
      exact x_iret C hW h dX5_haunts_106
  · have h := h.2 c4
    refine lv_iload_n C.1 C.2.1 dX5_haunts_29 rfl (lv_at hl 3 rfl) ?_
    refine lv_iload_n C.1 C.2.1 dX5_haunts_30 rfl (lv_at hl 1 rfl) ?_
    refine x_Si (rest := []) C hW (c_X5_has l g h) km_X5_has qm_X5_125 ⟨rfl, rfl⟩ (by decide) rfl hl.1 rfl (Nat.le_of_ble_eq_true rfl) ⟨Nat.zero_le _, Nat.zero_le _⟩ dX5_haunts_31 (fun r8 u8 H locs h hW => ?_)
    refine lv_if_ne (tgt := 58) C.1 C.2.1 dX5_haunts_34 (by decide) (fun c9 => ?_) (fun c9 => ?_)
    · have h := h.1 c9
      exact k_X5_haunts_J58 C hK19 v2 v3 u8 _ _ _ h hW hl
    · have h := h.2 c9
      refine lv_iload_n C.1 C.2.1 dX5_haunts_37 rfl (lv_at hl 2 rfl) ?_
      refine lv_bipush (v := (-9)) C.1 C.2.1 dX5_haunts_38 (by decide) ?_
      refine lv_icmp_eq (tgt := 54) C.1 C.2.1 dX5_haunts_40 (by decide) (fun c10 => ?_) (fun c10 => ?_)
      · have h := h.1 c10
        exact k_X5_haunts_J54 C hK19 v2 v3 u8 _ _ _ h hW hl
      · have h := h.2 c10
        refine lv_iload_n C.1 C.2.1 dX5_haunts_43 rfl (lv_at hl 3 rfl) ?_
        refine x_Si (rest := []) C hW (c_X5_bitsOf l g h) km_X5_bitsOf qm_X5_156 ⟨rfl, rfl⟩ (by decide) rfl hl.1 rfl (Nat.le_of_ble_eq_true rfl) ⟨Nat.zero_le _, Nat.zero_le _⟩ dX5_haunts_44 (fun r11 u11 H locs h hW => ?_)
        refine lv_iload_n C.1 C.2.1 dX5_haunts_47 rfl (lv_at hl 2 rfl) ?_
        refine x_Si (rest := [.int r11]) C hW (c_X5_bitsOf l g h) km_X5_bitsOf qm_X5_156 ⟨rfl, rfl⟩ (by decide) rfl hl.1 rfl (Nat.le_of_ble_eq_true rfl) ⟨Nat.zero_le _, Nat.zero_le _⟩ dX5_haunts_48 (fun r12 u12 H locs h hW => ?_)
        refine lv_icmp_ge (tgt := 58) C.1 C.2.1 dX5_haunts_51 (by decide) (fun c13 => ?_) (fun c13 => ?_)
        · have h := h.1 c13
          exact k_X5_haunts_J58 C hK19 v2 v3 u12 _ _ _ h hW hl
        · have h := h.2 c13
          exact k_X5_haunts_J54 C hK19 v2 v3 u12 _ _ _ h hW hl
theorem k_X5_haunts_L19 {p : Program} {l : Launch} {e : Env} {s : State} {m : MethodId} {args : Array Value} {below : List Frame} {meth : Method} {c : Code} {g : GG} {A : Nat → Prop} {p1 : Int32} {Q : Int32 → St → Prop} (C : MC p s m args meth c cX5_haunts 5 RX5 (some .int) g A) : ∀ (n : Nat), ∀ (v2 : Int32) (v3 : Int32) (u : St) (H : Heap) (locs : List Loc) (ls : Array Slot), wp_X5_haunts_L19 p1 Q n v2 v3 u → WD g A s u H locs → lv_has ls 5 [(0, .ref (gad g 39)), (1, .int p1), (2, .int v2), (3, .int v3)] → W p l e rm_X5_haunts s m args below meth c H locs 0 0 (MQ below (va_Qi Q (WQ g) A) args s 0 0 A) (F0 m 19 ls []) := by
  intro n
  induction n with
  | zero => intro v2 v3 u H locs ls h; exact False.elim h
  | succ n ih => exact k_X5_haunts_B19 (p1 := p1) C ih
set_option maxRecDepth 100000 in
theorem c_X5_haunts (l : Launch) (g : GG) {p1 : Int32} {u : St} {Q : Int32 → St → Prop} (h : wp_X5_haunts p1 u Q) : CI l yX5_haunts cX5_haunts 5 (some .int) rm_X5_haunts g [.ref (gad g 39), .int p1] u Q := by
  refine ent (own := RX5) (Qc := va_Qi Q (WQ g)) (by decide) rfl (Nat.le_of_ble_eq_true rfl) ?_
  intro p e s m below meth c A ls C hl hW
  have hl : lv_has ls 5 [(0, .ref (gad g 39)), (1, .int p1)] := hl
  unfold wp_X5_haunts at h
  refine lv_aload_n C.1 C.2.1 dX5_haunts_0 rfl (lv_at hl 0 rfl) ?_
  refine lv_iload_n C.1 C.2.1 dX5_haunts_1 rfl (lv_at hl 1 rfl) ?_
  refine x_Vi (rest := []) C hW (c_X5_isKey l g h) km_X5_isKey oModel rfl qm_X5_149 ⟨rfl, rfl⟩ (by decide) rfl hl.1 rfl (Nat.le_of_ble_eq_true rfl) ⟨Nat.zero_le _, Nat.zero_le _⟩ dX5_haunts_2 (fun r1 u1 H locs h hW => ?_)
  refine lv_if_ne (tgt := 10) C.1 C.2.1 dX5_haunts_5 (by decide) (fun c2 => ?_) (fun c2 => ?_)
  · have h := h.1 c2
    refine lv_aload_n C.1 C.2.1 dX5_haunts_10 rfl (lv_at hl 0 rfl) ?_
    refine x_Vv (rest := []) C hW (c_X5_take l g h) km_X5_take oModel rfl qm_X5_139 ⟨rfl, rfl⟩ (by decide) rfl hl.1 rfl (Nat.le_of_ble_eq_true rfl) ⟨Nat.zero_le _, Nat.zero_le _⟩ dX5_haunts_11 (fun u3 H locs h hW => ?_)
    refine lv_bipush (v := (-9)) C.1 C.2.1 dX5_haunts_14 (by decide) ?_
    refine lv_istore_n (lv' := [(2, .int (-9)), (0, .ref (gad g 39)), (1, .int p1)]) C.1 C.2.1 dX5_haunts_16 rfl hl (by decide) rfl (fun ls hl => ?_)
    refine lv_iconst (v := 0) C.1 C.2.1 dX5_haunts_17 (by decide) ?_
    refine lv_istore_n (lv' := [(3, .int 0), (2, .int (-9)), (0, .ref (gad g 39)), (1, .int p1)]) C.1 C.2.1 dX5_haunts_18 rfl hl (by decide) rfl (fun ls hl => ?_)
    obtain ⟨n, h⟩ := h
    exact k_X5_haunts_L19 C n (-9) 0 u3 _ _ _ h hW (lv_sub hl [2, 3, 1, 0] rfl)
  · have h := h.2 c2
    refine lv_iconst (v := (-1)) C.1 C.2.1 dX5_haunts_8 (by decide) ?_
    exact x_iret C hW h dX5_haunts_9
set_option maxRecDepth 100000 in
theorem k_X5_isFree_J52 {p : Program} {l : Launch} {e : Env} {s : State} {m : MethodId} {args : Array Value} {below : List Frame} {meth : Method} {c : Code} {g : GG} {A : Nat → Prop} {p1 : Int32} {p2 : Int32} {p3 : Int32} {Q : Int32 → St → Prop} (C : MC p s m args meth c cX5_isFree 6 RX5 (some .boolean) g A) {K6 : Int32 → Int32 → St → Prop} (hK6 : ∀ (v4 : Int32) (v5 : Int32) (u : St) (H : Heap) (locs : List Loc) (ls : Array Slot), K6 v4 v5 u → WD g A s u H locs → lv_has ls 6 [(0, .ref (gad g 39)), (1, .int p1), (2, .int p2), (3, .int p3), (4, .int v4), (5, .int v5)] → W p l e rm_X5_isFree s m args below meth c H locs 0 0 (MQ below (va_Qi Q (WQ g) A) args s 0 0 A) (F0 m 6 ls [])) : ∀ (v5 : Int32) (u : St) (H : Heap) (locs : List Loc) (ls : Array Slot), wp_X5_isFree_J52 p1 p2 p3 Q K6 v5 u → WD g A s u H locs → lv_has ls 6 [(0, .ref (gad g 39)), (1, .int p1), (2, .int p2), (3, .int p3), (5, .int v5)] → W p l e rm_X5_isFree s m args below meth c H locs 0 0 (MQ below (va_Qi Q (WQ g) A) args s 0 0 A) (F0 m 52 ls []) := by
  intro v5 u H locs ls h hW hl
  refine lv_iconst (v := 0) C.1 C.2.1 dX5_isFree_52 (by decide) ?_
  refine lv_istore (lv' := [(4, .int 0), (0, .ref (gad g 39)), (1, .int p1), (2, .int p2), (3, .int p3), (5, .int v5)]) C.1 C.2.1 dX5_isFree_53 hl (by decide) rfl (fun ls hl => ?_)
  refine lv_iinc (v := (v5 + 1)) (lv' := [(5, .int (v5 + 1)), (4, .int 0), (0, .ref (gad g 39)), (1, .int p1), (2, .int p2), (3, .int p3)]) C.1 C.2.1 dX5_isFree_55 hl (k := 5) rfl rfl (by decide) rfl (fun ls hl => ?_)
  refine lv_goto (tgt := 6) C.1 C.2.1 dX5_isFree_58 (by decide) ?_
  exact hK6 0 (v5 + 1) u _ _ _ h hW (lv_sub hl [2, 3, 4, 5, 1, 0] rfl)
set_option maxRecDepth 100000 in
theorem k_X5_isFree_J48 {p : Program} {l : Launch} {e : Env} {s : State} {m : MethodId} {args : Array Value} {below : List Frame} {meth : Method} {c : Code} {g : GG} {A : Nat → Prop} {p1 : Int32} {p2 : Int32} {p3 : Int32} {Q : Int32 → St → Prop} (C : MC p s m args meth c cX5_isFree 6 RX5 (some .boolean) g A) {K6 : Int32 → Int32 → St → Prop} (hK6 : ∀ (v4 : Int32) (v5 : Int32) (u : St) (H : Heap) (locs : List Loc) (ls : Array Slot), K6 v4 v5 u → WD g A s u H locs → lv_has ls 6 [(0, .ref (gad g 39)), (1, .int p1), (2, .int p2), (3, .int p3), (4, .int v4), (5, .int v5)] → W p l e rm_X5_isFree s m args below meth c H locs 0 0 (MQ below (va_Qi Q (WQ g) A) args s 0 0 A) (F0 m 6 ls [])) : ∀ (v5 : Int32) (u : St) (H : Heap) (locs : List Loc) (ls : Array Slot), wp_X5_isFree_J48 p1 p2 p3 Q K6 v5 u → WD g A s u H locs → lv_has ls 6 [(0, .ref (gad g 39)), (1, .int p1), (2, .int p2), (3, .int p3), (5, .int v5)] → W p l e rm_X5_isFree s m args below meth c H locs 0 0 (MQ below (va_Qi Q (WQ g) A) args s 0 0 A) (F0 m 48 ls []) := by
  intro v5 u H locs ls h hW hl
  refine lv_iconst (v := 1) C.1 C.2.1 dX5_isFree_48 (by decide) ?_
  refine lv_goto (tgt := 53) C.1 C.2.1 dX5_isFree_49 (by decide) ?_
  refine lv_istore (lv' := [(4, .int 1), (0, .ref (gad g 39)), (1, .int p1), (2, .int p2), (3, .int p3), (5, .int v5)]) C.1 C.2.1 dX5_isFree_53 hl (by decide) rfl (fun ls hl => ?_)
  refine lv_iinc (v := (v5 + 1)) (lv' := [(5, .int (v5 + 1)), (4, .int 1), (0, .ref (gad g 39)), (1, .int p1), (2, .int p2), (3, .int p3)]) C.1 C.2.1 dX5_isFree_55 hl (k := 5) rfl rfl (by decide) rfl (fun ls hl => ?_)
  refine lv_goto (tgt := 6) C.1 C.2.1 dX5_isFree_58 (by decide) ?_
  exact hK6 1 (v5 + 1) u _ _ _ h hW (lv_sub hl [2, 3, 4, 5, 1, 0] rfl)
set_option maxRecDepth 100000 in
theorem k_X5_isFree_B6 {p : Program} {l : Launch} {e : Env} {s : State} {m : MethodId} {args : Array Value} {below : List Frame} {meth : Method} {c : Code} {g : GG} {A : Nat → Prop} {p1 : Int32} {p2 : Int32} {p3 : Int32} {Q : Int32 → St → Prop} (C : MC p s m args meth c cX5_isFree 6 RX5 (some .boolean) g A) {K6 : Int32 → Int32 → St → Prop} (hK6 : ∀ (v4 : Int32) (v5 : Int32) (u : St) (H : Heap) (locs : List Loc) (ls : Array Slot), K6 v4 v5 u → WD g A s u H locs → lv_has ls 6 [(0, .ref (gad g 39)), (1, .int p1), (2, .int p2), (3, .int p3), (4, .int v4), (5, .int v5)] → W p l e rm_X5_isFree s m args below meth c H locs 0 0 (MQ below (va_Qi Q (WQ g) A) args s 0 0 A) (F0 m 6 ls [])) : ∀ (v4 : Int32) (v5 : Int32) (u : St) (H : Heap) (locs : List Loc) (ls : Array Slot), wp_X5_isFree_B6 p1 p2 p3 Q K6 v4 v5 u → WD g A s u H locs → lv_has ls 6 [(0, .ref (gad g 39)), (1, .int p1), (2, .int p2), (3, .int p3), (4, .int v4), (5, .int v5)] → W p l e rm_X5_isFree s m args below meth c H locs 0 0 (MQ below (va_Qi Q (WQ g) A) args s 0 0 A) (F0 m 6 ls []) := by
  intro v4 v5 u H locs ls h hW hl
  refine lv_iload C.1 C.2.1 dX5_isFree_6 (lv_at hl 5 rfl) ?_
  refine lv_aload_n C.1 C.2.1 dX5_isFree_8 rfl (lv_at hl 0 rfl) ?_
  refine fg_X5_116 C hW dX5_isFree_9 ?_
  refine lv_icmp_ge (tgt := 61) C.1 C.2.1 dX5_isFree_12 (by decide) (fun c1 => ?_) (fun c1 => ?_)
  · have h := h.1 c1
    refine lv_iload C.1 C.2.1 dX5_isFree_61 (lv_at hl 4 rfl) ?_
    exact x_zret C hW h.1 h.2 dX5_isFree_63
  · have h := h.2 c1
    refine lv_iload C.1 C.2.1 dX5_isFree_15 (lv_at hl 4 rfl) ?_
    refine lv_if_eq (tgt := 52) C.1 C.2.1 dX5_isFree_17 (by decide) (fun c2 => ?_) (fun c2 => ?_)
    · have h := h.1 c2
      exact k_X5_isFree_J52 C hK6 v5 u _ _ _ h hW (lv_sub hl [0, 1, 2, 3, 5] rfl)
    · have h := h.2 c2
      refine lv_iload C.1 C.2.1 dX5_isFree_20 (lv_at hl 5 rfl) ?_
      refine lv_iload_n C.1 C.2.1 dX5_isFree_22 rfl (lv_at hl 1 rfl) ?_
      refine lv_icmp_eq (tgt := 48) C.1 C.2.1 dX5_isFree_23 (by decide) (fun c3 => ?_) (fun c3 => ?_)
      · have h := h.1 c3
        exact k_X5_isFree_J48 C hK6 v5 u _ _ _ h hW (lv_sub hl [0, 1, 2, 3, 5] rfl)
      · have h := h.2 c3
        refine lv_aload_n C.1 C.2.1 dX5_isFree_26 rfl (lv_at hl 0 rfl) ?_
        refine fg_X5_36 C hW dX5_isFree_27 ?_
        refine lv_iload C.1 C.2.1 dX5_isFree_30 (lv_at hl 5 rfl) ?_
        obtain ⟨h4, h⟩ := h
        refine x_iald C hW g_47 h4 dX5_isFree_32 ?_
        refine lv_iload_n C.1 C.2.1 dX5_isFree_33 rfl (lv_at hl 2 rfl) ?_
        refine lv_icmp_ne (tgt := 48) C.1 C.2.1 dX5_isFree_34 (by decide) (fun c5 => ?_) (fun c5 => ?_)
        · have h := h.1 c5
          exact k_X5_isFree_J48 C hK6 v5 u _ _ _ h hW (lv_sub hl [0, 1, 2, 3, 5] rfl)
        · have h := h.2 c5
          refine lv_aload_n C.1 C.2.1 dX5_isFree_37 rfl (lv_at hl 0 rfl) ?_
          refine fg_X5_39 C hW dX5_isFree_38 ?_
          refine lv_iload C.1 C.2.1 dX5_isFree_41 (lv_at hl 5 rfl) ?_
          obtain ⟨h6, h⟩ := h
          refine x_iald C hW g_48 h6 dX5_isFree_43 ?_
          refine lv_iload_n C.1 C.2.1 dX5_isFree_44 rfl (lv_at hl 3 rfl) ?_
          refine lv_icmp_eq (tgt := 52) C.1 C.2.1 dX5_isFree_45 (by decide) (fun c7 => ?_) (fun c7 => ?_)
          · have h := h.1 c7
            exact k_X5_isFree_J52 C hK6 v5 u _ _ _ h hW (lv_sub hl [0, 1, 2, 3, 5] rfl)
          · have h := h.2 c7
            exact k_X5_isFree_J48 C hK6 v5 u _ _ _ h hW (lv_sub hl [0, 1, 2, 3, 5] rfl)
theorem k_X5_isFree_L6 {p : Program} {l : Launch} {e : Env} {s : State} {m : MethodId} {args : Array Value} {below : List Frame} {meth : Method} {c : Code} {g : GG} {A : Nat → Prop} {p1 : Int32} {p2 : Int32} {p3 : Int32} {Q : Int32 → St → Prop} (C : MC p s m args meth c cX5_isFree 6 RX5 (some .boolean) g A) : ∀ (n : Nat), ∀ (v4 : Int32) (v5 : Int32) (u : St) (H : Heap) (locs : List Loc) (ls : Array Slot), wp_X5_isFree_L6 p1 p2 p3 Q n v4 v5 u → WD g A s u H locs → lv_has ls 6 [(0, .ref (gad g 39)), (1, .int p1), (2, .int p2), (3, .int p3), (4, .int v4), (5, .int v5)] → W p l e rm_X5_isFree s m args below meth c H locs 0 0 (MQ below (va_Qi Q (WQ g) A) args s 0 0 A) (F0 m 6 ls []) := by
  intro n
  induction n with
  | zero => intro v4 v5 u H locs ls h; exact False.elim h
  | succ n ih => exact k_X5_isFree_B6 (p1 := p1) (p2 := p2) (p3 := p3) C ih
set_option maxRecDepth 100000 in
theorem c_X5_isFree (l : Launch) (g : GG) {p1 : Int32} {p2 : Int32} {p3 : Int32} {u : St} {Q : Int32 → St → Prop} (h : wp_X5_isFree p1 p2 p3 u Q) : CI l yX5_isFree cX5_isFree 6 (some .boolean) rm_X5_isFree g [.ref (gad g 39), .int p1, .int p2, .int p3] u Q := by
  refine ent (own := RX5) (Qc := va_Qi Q (WQ g)) (by decide) rfl (Nat.le_of_ble_eq_true rfl) ?_
  intro p e s m below meth c A ls C hl hW
  have hl : lv_has ls 6 [(0, .ref (gad g 39)), (1, .int p1), (2, .int p2), (3, .int p3)] := hl
  unfold wp_X5_isFree at h
  refine lv_iconst (v := 1) C.1 C.2.1 dX5_isFree_0 (by decide) ?_
  refine lv_istore (lv' := [(4, .int 1), (0, .ref (gad g 39)), (1, .int p1), (2, .int p2), (3, .int p3)]) C.1 C.2.1 dX5_isFree_1 hl (by decide) rfl (fun ls hl => ?_)
  refine lv_iconst (v := 0) C.1 C.2.1 dX5_isFree_3 (by decide) ?_
  refine lv_istore (lv' := [(5, .int 0), (4, .int 1), (0, .ref (gad g 39)), (1, .int p1), (2, .int p2), (3, .int p3)]) C.1 C.2.1 dX5_isFree_4 hl (by decide) rfl (fun ls hl => ?_)
  obtain ⟨n, h⟩ := h
  exact k_X5_isFree_L6 C n 1 0 u _ _ _ h hW (lv_sub hl [2, 3, 4, 5, 1, 0] rfl)
set_option maxRecDepth 100000 in
theorem c_X5_isSet (l : Launch) (g : GG) {p1 : Int32} {u : St} {Q : Int32 → St → Prop} (h : wp_X5_isSet p1 u Q) : CI l yX5_isSet cX5_isSet 2 (some .boolean) rm_X5_isSet g [.ref (gad g 39), .int p1] u Q := by
  refine ent (own := RX5) (Qc := va_Qi Q (WQ g)) (by decide) rfl (Nat.le_of_ble_eq_true rfl) ?_
  intro p e s m below meth c A ls C hl hW
  have hl : lv_has ls 2 [(0, .ref (gad g 39)), (1, .int p1)] := hl
  unfold wp_X5_isSet at h
  refine lv_iload_n C.1 C.2.1 dX5_isSet_0 rfl (lv_at hl 1 rfl) ?_
  refine lv_iconst (v := 0) C.1 C.2.1 dX5_isSet_1 (by decide) ?_
  refine lv_iconst (v := 1) C.1 C.2.1 dX5_isSet_2 (by decide) ?_
  refine lv_aload_n C.1 C.2.1 dX5_isSet_3 rfl (lv_at hl 0 rfl) ?_
  refine fg_X5_116 C hW dX5_isSet_4 ?_
  refine lv_ishl C.1 C.2.1 dX5_isSet_7 ?_
  refine lv_iconst (v := 1) C.1 C.2.1 dX5_isSet_8 (by decide) ?_
  refine lv_isub C.1 C.2.1 dX5_isSet_9 ?_
  refine x_Si (rest := []) C hW (c_X5_in l g h) km_X5_in qm_X5_88 ⟨rfl, rfl⟩ (by decide) rfl hl.1 rfl (Nat.le_of_ble_eq_true rfl) ⟨Nat.zero_le _, Nat.zero_le _⟩ dX5_isSet_10 (fun r1 u1 H locs h hW => ?_)
  exact x_zret C hW h.1 h.2 dX5_isSet_13
set_option maxRecDepth 100000 in
theorem k_X5_isSo_B4 {p : Program} {l : Launch} {e : Env} {s : State} {m : MethodId} {args : Array Value} {below : List Frame} {meth : Method} {c : Code} {g : GG} {A : Nat → Prop} {p1 : Int32} {Q : Int32 → St → Prop} (C : MC p s m args meth c cX5_isSo 4 RX5 (some .boolean) g A) {K4 : Int32 → Int32 → St → Prop} (hK4 : ∀ (v2 : Int32) (v3 : Int32) (u : St) (H : Heap) (locs : List Loc) (ls : Array Slot), K4 v2 v3 u → WD g A s u H locs → lv_has ls 4 [(0, .ref (gad g 39)), (1, .int p1), (2, .int v2), (3, .int v3)] → W p l e rm_X5_isSo s m args below meth c H locs 0 0 (MQ below (va_Qi Q (WQ g) A) args s 0 0 A) (F0 m 4 ls [])) : ∀ (v2 : Int32) (v3 : Int32) (u : St) (H : Heap) (locs : List Loc) (ls : Array Slot), wp_X5_isSo_B4 p1 Q K4 v2 v3 u → WD g A s u H locs → lv_has ls 4 [(0, .ref (gad g 39)), (1, .int p1), (2, .int v2), (3, .int v3)] → W p l e rm_X5_isSo s m args below meth c H locs 0 0 (MQ below (va_Qi Q (WQ g) A) args s 0 0 A) (F0 m 4 ls []) := by
  intro v2 v3 u H locs ls h hW hl
  refine lv_iload_n C.1 C.2.1 dX5_isSo_4 rfl (lv_at hl 3 rfl) ?_
  refine lv_aload_n C.1 C.2.1 dX5_isSo_5 rfl (lv_at hl 0 rfl) ?_
  refine fg_X5_17 C hW dX5_isSo_6 ?_
  refine lv_iload_n C.1 C.2.1 dX5_isSo_9 rfl (lv_at hl 1 rfl) ?_
  obtain ⟨h1, h⟩ := h
  refine x_iald C hW g_41 h1 dX5_isSo_10 ?_
  refine lv_icmp_ge (tgt := 61) C.1 C.2.1 dX5_isSo_11 (by decide) (fun c2 => ?_) (fun c2 => ?_)
  · have h := h.1 c2
    refine lv_iload_n C.1 C.2.1 dX5_isSo_61 rfl (lv_at hl 2 rfl) ?_
    exact x_zret C hW h.1 h.2 dX5_isSo_62
  · have h := h.2 c2
    refine lv_iload_n C.1 C.2.1 dX5_isSo_14 rfl (lv_at hl 2 rfl) ?_
    refine lv_if_eq (tgt := 61) C.1 C.2.1 dX5_isSo_15 (by decide) (fun c3 => ?_) (fun c3 => ?_)
    · have h := h.1 c3
      refine lv_iload_n C.1 C.2.1 dX5_isSo_61 rfl (lv_at hl 2 rfl) ?_
      exact x_zret C hW h.1 h.2 dX5_isSo_62
    · have h := h.2 c3
      refine lv_aload_n C.1 C.2.1 dX5_isSo_18 rfl (lv_at hl 0 rfl) ?_
      refine lv_aload_n C.1 C.2.1 dX5_isSo_19 rfl (lv_at hl 0 rfl) ?_
      refine fg_X5_20 C hW dX5_isSo_20 ?_
      refine lv_bipush (v := 40) C.1 C.2.1 dX5_isSo_23 (by decide) ?_
      refine lv_iload_n C.1 C.2.1 dX5_isSo_25 rfl (lv_at hl 1 rfl) ?_
      refine lv_imul C.1 C.2.1 dX5_isSo_26 ?_
      refine lv_iload_n C.1 C.2.1 dX5_isSo_27 rfl (lv_at hl 3 rfl) ?_
      refine lv_iadd C.1 C.2.1 dX5_isSo_28 ?_
      obtain ⟨h4, h⟩ := h
      refine x_iald C hW g_42 h4 dX5_isSo_29 ?_
      refine x_Vi (rest := []) C hW (c_X5_toldOf l g h) km_X5_toldOf oModel rfl qm_X5_179 ⟨rfl, rfl⟩ (by decide) rfl hl.1 rfl (Nat.le_of_ble_eq_true rfl) ⟨Nat.zero_le _, Nat.zero_le _⟩ dX5_isSo_30 (fun r5 u5 H locs h hW => ?_)
      refine lv_aload_n C.1 C.2.1 dX5_isSo_33 rfl (lv_at hl 0 rfl) ?_
      refine fg_X5_20 C hW dX5_isSo_34 ?_
      refine lv_bipush (v := 40) C.1 C.2.1 dX5_isSo_37 (by decide) ?_
      refine lv_iload_n C.1 C.2.1 dX5_isSo_39 rfl (lv_at hl 1 rfl) ?_
      refine lv_imul C.1 C.2.1 dX5_isSo_40 ?_
      refine lv_iload_n C.1 C.2.1 dX5_isSo_41 rfl (lv_at hl 3 rfl) ?_
      refine lv_iadd C.1 C.2.1 dX5_isSo_42 ?_
      refine lv_iconst (v := 1) C.1 C.2.1 dX5_isSo_43 (by decide) ?_
      refine lv_iadd C.1 C.2.1 dX5_isSo_44 ?_
      obtain ⟨h6, h⟩ := h
      refine x_iald C hW g_42 h6 dX5_isSo_45 ?_
      refine lv_icmp_ne (tgt := 53) C.1 C.2.1 dX5_isSo_46 (by decide) (fun c7 => ?_) (fun c7 => ?_)
      · have h := h.1 c7
        refine lv_iconst (v := 0) C.1 C.2.1 dX5_isSo_53 (by decide) ?_
        refine lv_istore_n (lv' := [(2, .int 0), (0, .ref (gad g 39)), (1, .int p1), (3, .int v3)]) C.1 C.2.1 dX5_isSo_54 rfl hl (by decide) rfl (fun ls hl => ?_)
        refine lv_iinc (v := (v3 + 2)) (lv' := [(3, .int (v3 + 2)), (2, .int 0), (0, .ref (gad g 39)), (1, .int p1)]) C.1 C.2.1 dX5_isSo_55 hl (k := 3) rfl rfl (by decide) rfl (fun ls hl => ?_)
        refine lv_goto (tgt := 4) C.1 C.2.1 dX5_isSo_58 (by decide) ?_
        exact hK4 0 (v3 + 2) u5 _ _ _ h hW (lv_sub hl [2, 3, 1, 0] rfl)
      · have h := h.2 c7
        refine lv_iconst (v := 1) C.1 C.2.1 dX5_isSo_49 (by decide) ?_
        refine lv_goto (tgt := 54) C.1 C.2.1 dX5_isSo_50 (by decide) ?_
        refine lv_istore_n (lv' := [(2, .int 1), (0, .ref (gad g 39)), (1, .int p1), (3, .int v3)]) C.1 C.2.1 dX5_isSo_54 rfl hl (by decide) rfl (fun ls hl => ?_)
        refine lv_iinc (v := (v3 + 2)) (lv' := [(3, .int (v3 + 2)), (2, .int 1), (0, .ref (gad g 39)), (1, .int p1)]) C.1 C.2.1 dX5_isSo_55 hl (k := 3) rfl rfl (by decide) rfl (fun ls hl => ?_)
        refine lv_goto (tgt := 4) C.1 C.2.1 dX5_isSo_58 (by decide) ?_
        exact hK4 1 (v3 + 2) u5 _ _ _ h hW (lv_sub hl [2, 3, 1, 0] rfl)
theorem k_X5_isSo_L4 {p : Program} {l : Launch} {e : Env} {s : State} {m : MethodId} {args : Array Value} {below : List Frame} {meth : Method} {c : Code} {g : GG} {A : Nat → Prop} {p1 : Int32} {Q : Int32 → St → Prop} (C : MC p s m args meth c cX5_isSo 4 RX5 (some .boolean) g A) : ∀ (n : Nat), ∀ (v2 : Int32) (v3 : Int32) (u : St) (H : Heap) (locs : List Loc) (ls : Array Slot), wp_X5_isSo_L4 p1 Q n v2 v3 u → WD g A s u H locs → lv_has ls 4 [(0, .ref (gad g 39)), (1, .int p1), (2, .int v2), (3, .int v3)] → W p l e rm_X5_isSo s m args below meth c H locs 0 0 (MQ below (va_Qi Q (WQ g) A) args s 0 0 A) (F0 m 4 ls []) := by
  intro n
  induction n with
  | zero => intro v2 v3 u H locs ls h; exact False.elim h
  | succ n ih => exact k_X5_isSo_B4 (p1 := p1) C ih
set_option maxRecDepth 100000 in
theorem c_X5_isSo (l : Launch) (g : GG) {p1 : Int32} {u : St} {Q : Int32 → St → Prop} (h : wp_X5_isSo p1 u Q) : CI l yX5_isSo cX5_isSo 4 (some .boolean) rm_X5_isSo g [.ref (gad g 39), .int p1] u Q := by
  refine ent (own := RX5) (Qc := va_Qi Q (WQ g)) (by decide) rfl (Nat.le_of_ble_eq_true rfl) ?_
  intro p e s m below meth c A ls C hl hW
  have hl : lv_has ls 4 [(0, .ref (gad g 39)), (1, .int p1)] := hl
  unfold wp_X5_isSo at h
  refine lv_iconst (v := 1) C.1 C.2.1 dX5_isSo_0 (by decide) ?_
  refine lv_istore_n (lv' := [(2, .int 1), (0, .ref (gad g 39)), (1, .int p1)]) C.1 C.2.1 dX5_isSo_1 rfl hl (by decide) rfl (fun ls hl => ?_)
  refine lv_iconst (v := 0) C.1 C.2.1 dX5_isSo_2 (by decide) ?_
  refine lv_istore_n (lv' := [(3, .int 0), (2, .int 1), (0, .ref (gad g 39)), (1, .int p1)]) C.1 C.2.1 dX5_isSo_3 rfl hl (by decide) rfl (fun ls hl => ?_)
  obtain ⟨n, h⟩ := h
  exact k_X5_isSo_L4 C n 1 0 u _ _ _ h hW (lv_sub hl [2, 3, 1, 0] rfl)
set_option maxRecDepth 100000 in
theorem k_X5_keep_B23 {p : Program} {l : Launch} {e : Env} {s : State} {m : MethodId} {args : Array Value} {below : List Frame} {meth : Method} {c : Code} {g : GG} {A : Nat → Prop} {p1 : Int32} {Q : Int32 → St → Prop} (C : MC p s m args meth c cX5_keep 3 RX5 (some .int) g A) {K23 : Int32 → St → Prop} (hK23 : ∀ (v2 : Int32) (u : St) (H : Heap) (locs : List Loc) (ls : Array Slot), K23 v2 u → WD g A s u H locs → lv_has ls 3 [(0, .ref (gad g 39)), (1, .int p1), (2, .int v2)] → W p l e rm_X5_keep s m args below meth c H locs 0 0 (MQ below (va_Qi Q (WQ g) A) args s 0 0 A) (F0 m 23 ls [])) : ∀ (v2 : Int32) (u : St) (H : Heap) (locs : List Loc) (ls : Array Slot), wp_X5_keep_B23 p1 Q K23 v2 u → WD g A s u H locs → lv_has ls 3 [(0, .ref (gad g 39)), (1, .int p1), (2, .int v2)] → W p l e rm_X5_keep s m args below meth c H locs 0 0 (MQ below (va_Qi Q (WQ g) A) args s 0 0 A) (F0 m 23 ls []) := by
  intro v2 u H locs ls h hW hl
  refine lv_iload_n C.1 C.2.1 dX5_keep_23 rfl (lv_at hl 2 rfl) ?_
  refine lv_sipush (v := 410) C.1 C.2.1 dX5_keep_24 (by decide) ?_
  refine lv_icmp_ge (tgt := 54) C.1 C.2.1 dX5_keep_27 (by decide) (fun c4 => ?_) (fun c4 => ?_)
  · have h := h.1 c4
    refine lv_aload_n C.1 C.2.1 dX5_keep_54 rfl (lv_at hl 0 rfl) ?_
    refine fg_X5_51 C hW dX5_keep_55 ?_
    refine lv_iload_n C.1 C.2.1 dX5_keep_58 rfl (lv_at hl 1 rfl) ?_
    refine lv_aload_n C.1 C.2.1 dX5_keep_59 rfl (lv_at hl 0 rfl) ?_
    refine fg_X5_119 C hW dX5_keep_60 ?_
    obtain ⟨h5, h⟩ := h
    refine x_iast C hW g_52 h5 dX5_keep_63 (fun u6 H locs e6 hW => ?_)
    have h := nxt_get h e6
    refine lv_aload_n C.1 C.2.1 dX5_keep_64 rfl (lv_at hl 0 rfl) ?_
    refine fg_X5_119 C hW dX5_keep_65 ?_
    exact x_iret C hW h dX5_keep_68
  · have h := h.2 c4
    refine lv_aload_n C.1 C.2.1 dX5_keep_30 rfl (lv_at hl 0 rfl) ?_
    refine fg_X5_48 C hW dX5_keep_31 ?_
    refine lv_sipush (v := 410) C.1 C.2.1 dX5_keep_34 (by decide) ?_
    refine lv_iload_n C.1 C.2.1 dX5_keep_37 rfl (lv_at hl 1 rfl) ?_
    refine lv_imul C.1 C.2.1 dX5_keep_38 ?_
    refine lv_iload_n C.1 C.2.1 dX5_keep_39 rfl (lv_at hl 2 rfl) ?_
    refine lv_iadd C.1 C.2.1 dX5_keep_40 ?_
    refine lv_aload_n C.1 C.2.1 dX5_keep_41 rfl (lv_at hl 0 rfl) ?_
    refine fg_X5_45 C hW dX5_keep_42 ?_
    refine lv_iload_n C.1 C.2.1 dX5_keep_45 rfl (lv_at hl 2 rfl) ?_
    obtain ⟨h7, h⟩ := h
    refine x_iald C hW g_50 h7 dX5_keep_46 ?_
    obtain ⟨h8, h⟩ := h
    refine x_iast C hW g_51 h8 dX5_keep_47 (fun u9 H locs e9 hW => ?_)
    have h := nxt_get h e9
    refine lv_iinc (v := (v2 + 1)) (lv' := [(2, .int (v2 + 1)), (0, .ref (gad g 39)), (1, .int p1)]) C.1 C.2.1 dX5_keep_48 hl (k := 2) rfl rfl (by decide) rfl (fun ls hl => ?_)
    refine lv_goto (tgt := 23) C.1 C.2.1 dX5_keep_51 (by decide) ?_
    exact hK23 (v2 + 1) u9 _ _ _ h hW (lv_sub hl [1, 2, 0] rfl)
theorem k_X5_keep_L23 {p : Program} {l : Launch} {e : Env} {s : State} {m : MethodId} {args : Array Value} {below : List Frame} {meth : Method} {c : Code} {g : GG} {A : Nat → Prop} {p1 : Int32} {Q : Int32 → St → Prop} (C : MC p s m args meth c cX5_keep 3 RX5 (some .int) g A) : ∀ (n : Nat), ∀ (v2 : Int32) (u : St) (H : Heap) (locs : List Loc) (ls : Array Slot), wp_X5_keep_L23 p1 Q n v2 u → WD g A s u H locs → lv_has ls 3 [(0, .ref (gad g 39)), (1, .int p1), (2, .int v2)] → W p l e rm_X5_keep s m args below meth c H locs 0 0 (MQ below (va_Qi Q (WQ g) A) args s 0 0 A) (F0 m 23 ls []) := by
  intro n
  induction n with
  | zero => intro v2 u H locs ls h; exact False.elim h
  | succ n ih => exact k_X5_keep_B23 (p1 := p1) C ih
set_option maxRecDepth 100000 in
theorem c_X5_keep (l : Launch) (g : GG) {p1 : Int32} {u : St} {Q : Int32 → St → Prop} (h : wp_X5_keep p1 u Q) : CI l yX5_keep cX5_keep 3 (some .int) rm_X5_keep g [.ref (gad g 39), .int p1] u Q := by
  refine ent (own := RX5) (Qc := va_Qi Q (WQ g)) (by decide) rfl (Nat.le_of_ble_eq_true rfl) ?_
  intro p e s m below meth c A ls C hl hW
  have hl : lv_has ls 3 [(0, .ref (gad g 39)), (1, .int p1)] := hl
  unfold wp_X5_keep at h
  refine lv_iload_n C.1 C.2.1 dX5_keep_0 rfl (lv_at hl 1 rfl) ?_
  refine lv_iconst (v := 0) C.1 C.2.1 dX5_keep_1 (by decide) ?_
  refine lv_iconst (v := 2) C.1 C.2.1 dX5_keep_2 (by decide) ?_
  refine x_Si (rest := []) C hW (c_X5_in l g h) km_X5_in qm_X5_88 ⟨rfl, rfl⟩ (by decide) rfl hl.1 rfl (Nat.le_of_ble_eq_true rfl) ⟨Nat.zero_le _, Nat.zero_le _⟩ dX5_keep_3 (fun r1 u1 H locs h hW => ?_)
  refine lv_if_ne (tgt := 11) C.1 C.2.1 dX5_keep_6 (by decide) (fun c2 => ?_) (fun c2 => ?_)
  · have h := h.1 c2
    refine lv_aload_n C.1 C.2.1 dX5_keep_11 rfl (lv_at hl 0 rfl) ?_
    refine fg_X5_116 C hW dX5_keep_12 ?_
    refine lv_if_ne (tgt := 21) C.1 C.2.1 dX5_keep_15 (by decide) (fun c3 => ?_) (fun c3 => ?_)
    · have h := h.1 c3
      refine lv_iconst (v := 0) C.1 C.2.1 dX5_keep_21 (by decide) ?_
      refine lv_istore_n (lv' := [(2, .int 0), (0, .ref (gad g 39)), (1, .int p1)]) C.1 C.2.1 dX5_keep_22 rfl hl (by decide) rfl (fun ls hl => ?_)
      obtain ⟨n, h⟩ := h
      exact k_X5_keep_L23 C n 0 u1 _ _ _ h hW (lv_sub hl [1, 2, 0] rfl)
    · have h := h.2 c3
      refine lv_bipush (v := (-4)) C.1 C.2.1 dX5_keep_18 (by decide) ?_
      exact x_iret C hW h dX5_keep_20
  · have h := h.2 c2
    refine lv_iconst (v := (-1)) C.1 C.2.1 dX5_keep_9 (by decide) ?_
    exact x_iret C hW h dX5_keep_10
set_option maxRecDepth 100000 in
theorem c_X5_key (l : Launch) (g : GG) {p1 : Int32} {p2 : Int32} {u : St} {Q : Int32 → St → Prop} (h : wp_X5_key p1 p2 u Q) : CI l yX5_key cX5_key 3 (some .int) rm_X5_key g [.ref (gad g 39), .int p1, .int p2] u Q := by
  refine ent (own := RX5) (Qc := va_Qi Q (WQ g)) (by decide) rfl (Nat.le_of_ble_eq_true rfl) ?_
  intro p e s m below meth c A ls C hl hW
  have hl : lv_has ls 3 [(0, .ref (gad g 39)), (1, .int p1), (2, .int p2)] := hl
  unfold wp_X5_key at h
  refine lv_aload_n C.1 C.2.1 dX5_key_0 rfl (lv_at hl 0 rfl) ?_
  refine lv_iload_n C.1 C.2.1 dX5_key_1 rfl (lv_at hl 1 rfl) ?_
  refine x_Vi (rest := []) C hW (c_X5_isKey l g h) km_X5_isKey oModel rfl qm_X5_149 ⟨rfl, rfl⟩ (by decide) rfl hl.1 rfl (Nat.le_of_ble_eq_true rfl) ⟨Nat.zero_le _, Nat.zero_le _⟩ dX5_key_2 (fun r1 u1 H locs h hW => ?_)
  refine lv_if_eq (tgt := 31) C.1 C.2.1 dX5_key_5 (by decide) (fun c2 => ?_) (fun c2 => ?_)
  · have h := h.1 c2
    refine lv_iconst (v := (-1)) C.1 C.2.1 dX5_key_31 (by decide) ?_
    exact x_iret C hW h dX5_key_32
  · have h := h.2 c2
    refine lv_iload_n C.1 C.2.1 dX5_key_8 rfl (lv_at hl 2 rfl) ?_
    refine lv_iconst (v := 0) C.1 C.2.1 dX5_key_9 (by decide) ?_
    refine lv_bipush (v := 7) C.1 C.2.1 dX5_key_10 (by decide) ?_
    refine x_Si (rest := []) C hW (c_X5_in l g h) km_X5_in qm_X5_88 ⟨rfl, rfl⟩ (by decide) rfl hl.1 rfl (Nat.le_of_ble_eq_true rfl) ⟨Nat.zero_le _, Nat.zero_le _⟩ dX5_key_12 (fun r3 u3 H locs h hW => ?_)
    refine lv_if_eq (tgt := 31) C.1 C.2.1 dX5_key_15 (by decide) (fun c4 => ?_) (fun c4 => ?_)
    · have h := h.1 c4
      refine lv_iconst (v := (-1)) C.1 C.2.1 dX5_key_31 (by decide) ?_
      exact x_iret C hW h dX5_key_32
    · have h := h.2 c4
      refine lv_aload_n C.1 C.2.1 dX5_key_18 rfl (lv_at hl 0 rfl) ?_
      refine lv_aload_n C.1 C.2.1 dX5_key_19 rfl (lv_at hl 0 rfl) ?_
      refine lv_iload_n C.1 C.2.1 dX5_key_20 rfl (lv_at hl 1 rfl) ?_
      refine lv_iload_n C.1 C.2.1 dX5_key_21 rfl (lv_at hl 2 rfl) ?_
      refine x_Vi (rest := [.ref (gad g 39)]) C hW (c_X5_factOf l g h) km_X5_factOf oModel rfl qm_X5_152 ⟨rfl, rfl⟩ (by decide) rfl hl.1 rfl (Nat.le_of_ble_eq_true rfl) ⟨Nat.zero_le _, Nat.zero_le _⟩ dX5_key_22 (fun r5 u5 H locs h hW => ?_)
      refine x_Vi (rest := []) C hW (c_X5_tellAsked l g h) km_X5_tellAsked oModel rfl qm_X5_100 ⟨rfl, rfl⟩ (by decide) rfl hl.1 rfl (Nat.le_of_ble_eq_true rfl) ⟨Nat.zero_le _, Nat.zero_le _⟩ dX5_key_25 (fun r6 u6 H locs h hW => ?_)
      refine lv_goto (tgt := 32) C.1 C.2.1 dX5_key_28 (by decide) ?_
      exact x_iret C hW h dX5_key_32
set_option maxRecDepth 100000 in
theorem k_X5_kindsBy_J40 {p : Program} {l : Launch} {e : Env} {s : State} {m : MethodId} {args : Array Value} {below : List Frame} {meth : Method} {c : Code} {g : GG} {A : Nat → Prop} {p1 : Int32} {p2 : Int32} {Q : Int32 → St → Prop} (C : MC p s m args meth c cX5_kindsBy 5 RX5 (some .int) g A) {K5 : Int32 → Int32 → St → Prop} (hK5 : ∀ (v3 : Int32) (v4 : Int32) (u : St) (H : Heap) (locs : List Loc) (ls : Array Slot), K5 v3 v4 u → WD g A s u H locs → lv_has ls 5 [(0, .ref (gad g 39)), (1, .int p1), (2, .int p2), (3, .int v3), (4, .int v4)] → W p l e rm_X5_kindsBy s m args below meth c H locs 0 0 (MQ below (va_Qi Q (WQ g) A) args s 0 0 A) (F0 m 5 ls [])) : ∀ (v4 : Int32) (t0 : Int32) (t1 : Int32) (u : St) (H : Heap) (locs : List Loc) (ls : Array Slot), wp_X5_kindsBy_J40 p1 p2 Q K5 v4 t0 t1 u → WD g A s u H locs → lv_has ls 5 [(0, .ref (gad g 39)), (1, .int p1), (2, .int p2), (4, .int v4)] → W p l e rm_X5_kindsBy s m args below meth c H locs 0 0 (MQ below (va_Qi Q (WQ g) A) args s 0 0 A) (F0 m 40 ls [.int t0, .int t1]) := by
  intro v4 t0 t1 u H locs ls h hW hl
  refine lv_ior C.1 C.2.1 dX5_kindsBy_40 ?_
  refine lv_istore_n (lv' := [(3, .int (t1 ||| t0)), (0, .ref (gad g 39)), (1, .int p1), (2, .int p2), (4, .int v4)]) C.1 C.2.1 dX5_kindsBy_41 rfl hl (by decide) rfl (fun ls hl => ?_)
  refine lv_iinc (v := (v4 + 1)) (lv' := [(4, .int (v4 + 1)), (3, .int (t1 ||| t0)), (0, .ref (gad g 39)), (1, .int p1), (2, .int p2)]) C.1 C.2.1 dX5_kindsBy_42 hl (k := 4) rfl rfl (by decide) rfl (fun ls hl => ?_)
  refine lv_goto (tgt := 5) C.1 C.2.1 dX5_kindsBy_45 (by decide) ?_
  exact hK5 (t1 ||| t0) (v4 + 1) u _ _ _ h hW (lv_sub hl [2, 3, 4, 1, 0] rfl)
set_option maxRecDepth 100000 in
theorem k_X5_kindsBy_B5 {p : Program} {l : Launch} {e : Env} {s : State} {m : MethodId} {args : Array Value} {below : List Frame} {meth : Method} {c : Code} {g : GG} {A : Nat → Prop} {p1 : Int32} {p2 : Int32} {Q : Int32 → St → Prop} (C : MC p s m args meth c cX5_kindsBy 5 RX5 (some .int) g A) {K5 : Int32 → Int32 → St → Prop} (hK5 : ∀ (v3 : Int32) (v4 : Int32) (u : St) (H : Heap) (locs : List Loc) (ls : Array Slot), K5 v3 v4 u → WD g A s u H locs → lv_has ls 5 [(0, .ref (gad g 39)), (1, .int p1), (2, .int p2), (3, .int v3), (4, .int v4)] → W p l e rm_X5_kindsBy s m args below meth c H locs 0 0 (MQ below (va_Qi Q (WQ g) A) args s 0 0 A) (F0 m 5 ls [])) : ∀ (v3 : Int32) (v4 : Int32) (u : St) (H : Heap) (locs : List Loc) (ls : Array Slot), wp_X5_kindsBy_B5 p1 p2 Q K5 v3 v4 u → WD g A s u H locs → lv_has ls 5 [(0, .ref (gad g 39)), (1, .int p1), (2, .int p2), (3, .int v3), (4, .int v4)] → W p l e rm_X5_kindsBy s m args below meth c H locs 0 0 (MQ below (va_Qi Q (WQ g) A) args s 0 0 A) (F0 m 5 ls []) := by
  intro v3 v4 u H locs ls h hW hl
  refine lv_iload C.1 C.2.1 dX5_kindsBy_5 (lv_at hl 4 rfl) ?_
  refine lv_iconst (v := 5) C.1 C.2.1 dX5_kindsBy_7 (by decide) ?_
  refine lv_icmp_gt (tgt := 48) C.1 C.2.1 dX5_kindsBy_8 (by decide) (fun c1 => ?_) (fun c1 => ?_)
  · have h := h.1 c1
    refine lv_iload_n C.1 C.2.1 dX5_kindsBy_48 rfl (lv_at hl 3 rfl) ?_
    exact x_iret C hW h dX5_kindsBy_49
  · have h := h.2 c1
    refine lv_aload_n C.1 C.2.1 dX5_kindsBy_11 rfl (lv_at hl 0 rfl) ?_
    refine x_Vv (rest := []) C hW (c_X5_take l g h) km_X5_take oModel rfl qm_X5_139 ⟨rfl, rfl⟩ (by decide) rfl hl.1 rfl (Nat.le_of_ble_eq_true rfl) ⟨Nat.zero_le _, Nat.zero_le _⟩ dX5_kindsBy_12 (fun u2 H locs h hW => ?_)
    refine lv_aload_n C.1 C.2.1 dX5_kindsBy_15 rfl (lv_at hl 0 rfl) ?_
    refine fg_X5_57 C hW dX5_kindsBy_16 ?_
    refine lv_iload_n C.1 C.2.1 dX5_kindsBy_19 rfl (lv_at hl 1 rfl) ?_
    refine lv_iload C.1 C.2.1 dX5_kindsBy_20 (lv_at hl 4 rfl) ?_
    obtain ⟨h3, h⟩ := h
    refine x_iast C hW g_54 h3 dX5_kindsBy_22 (fun u4 H locs e4 hW => ?_)
    have h := nxt_get h e4
    refine lv_iload_n C.1 C.2.1 dX5_kindsBy_23 rfl (lv_at hl 3 rfl) ?_
    refine lv_aload_n C.1 C.2.1 dX5_kindsBy_24 rfl (lv_at hl 0 rfl) ?_
    refine lv_iload_n C.1 C.2.1 dX5_kindsBy_25 rfl (lv_at hl 2 rfl) ?_
    refine x_Vi (rest := [.int v3]) C hW (c_X5_isSo l g h) km_X5_isSo oModel rfl qm_X5_185 ⟨rfl, rfl⟩ (by decide) rfl hl.1 rfl (Nat.le_of_ble_eq_true rfl) ⟨Nat.zero_le _, Nat.zero_le _⟩ dX5_kindsBy_26 (fun r5 u5 H locs h hW => ?_)
    refine lv_if_eq (tgt := 39) C.1 C.2.1 dX5_kindsBy_29 (by decide) (fun c6 => ?_) (fun c6 => ?_)
    · have h := h.1 c6
      refine lv_iconst (v := 0) C.1 C.2.1 dX5_kindsBy_39 (by decide) ?_
      exact k_X5_kindsBy_J40 C hK5 v4 0 v3 u5 _ _ _ h hW (lv_sub hl [0, 1, 2, 4] rfl)
    · have h := h.2 c6
      refine lv_iconst (v := 1) C.1 C.2.1 dX5_kindsBy_32 (by decide) ?_
      refine lv_iload C.1 C.2.1 dX5_kindsBy_33 (lv_at hl 4 rfl) ?_
      refine lv_ishl C.1 C.2.1 dX5_kindsBy_35 ?_
      refine lv_goto (tgt := 40) C.1 C.2.1 dX5_kindsBy_36 (by decide) ?_
      exact k_X5_kindsBy_J40 C hK5 v4 (1 <<< (v4 &&& 31)) v3 u5 _ _ _ h hW (lv_sub hl [0, 1, 2, 4] rfl)
theorem k_X5_kindsBy_L5 {p : Program} {l : Launch} {e : Env} {s : State} {m : MethodId} {args : Array Value} {below : List Frame} {meth : Method} {c : Code} {g : GG} {A : Nat → Prop} {p1 : Int32} {p2 : Int32} {Q : Int32 → St → Prop} (C : MC p s m args meth c cX5_kindsBy 5 RX5 (some .int) g A) : ∀ (n : Nat), ∀ (v3 : Int32) (v4 : Int32) (u : St) (H : Heap) (locs : List Loc) (ls : Array Slot), wp_X5_kindsBy_L5 p1 p2 Q n v3 v4 u → WD g A s u H locs → lv_has ls 5 [(0, .ref (gad g 39)), (1, .int p1), (2, .int p2), (3, .int v3), (4, .int v4)] → W p l e rm_X5_kindsBy s m args below meth c H locs 0 0 (MQ below (va_Qi Q (WQ g) A) args s 0 0 A) (F0 m 5 ls []) := by
  intro n
  induction n with
  | zero => intro v3 v4 u H locs ls h; exact False.elim h
  | succ n ih => exact k_X5_kindsBy_B5 (p1 := p1) (p2 := p2) C ih
set_option maxRecDepth 100000 in
theorem c_X5_kindsBy (l : Launch) (g : GG) {p1 : Int32} {p2 : Int32} {u : St} {Q : Int32 → St → Prop} (h : wp_X5_kindsBy p1 p2 u Q) : CI l yX5_kindsBy cX5_kindsBy 5 (some .int) rm_X5_kindsBy g [.ref (gad g 39), .int p1, .int p2] u Q := by
  refine ent (own := RX5) (Qc := va_Qi Q (WQ g)) (by decide) rfl (Nat.le_of_ble_eq_true rfl) ?_
  intro p e s m below meth c A ls C hl hW
  have hl : lv_has ls 5 [(0, .ref (gad g 39)), (1, .int p1), (2, .int p2)] := hl
  unfold wp_X5_kindsBy at h
  refine lv_iconst (v := 0) C.1 C.2.1 dX5_kindsBy_0 (by decide) ?_
  refine lv_istore_n (lv' := [(3, .int 0), (0, .ref (gad g 39)), (1, .int p1), (2, .int p2)]) C.1 C.2.1 dX5_kindsBy_1 rfl hl (by decide) rfl (fun ls hl => ?_)
  refine lv_iconst (v := 0) C.1 C.2.1 dX5_kindsBy_2 (by decide) ?_
  refine lv_istore (lv' := [(4, .int 0), (3, .int 0), (0, .ref (gad g 39)), (1, .int p1), (2, .int p2)]) C.1 C.2.1 dX5_kindsBy_3 hl (by decide) rfl (fun ls hl => ?_)
  obtain ⟨n, h⟩ := h
  exact k_X5_kindsBy_L5 C n 0 0 u _ _ _ h hW (lv_sub hl [2, 3, 4, 1, 0] rfl)
