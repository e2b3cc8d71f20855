set_option maxRecDepth 100000 in
theorem k_X0_readFrom_J84 {p : Program} {l : Launch} {e : Env} {s : State} {m : MethodId} {args : Array Value} {below : List Frame} {meth : Method} {c : Code} {g : GG} {A : Nat → Prop} {b0 : Nat} {b1 : Nat} {p2 : Int32} (hb0 : isLay b0) (hb1 : isShf b1) {Q : Int32 → St → Prop} (C : MC p s m args meth c cX0_readFrom 7 RX0 (some .int) g A) : ∀ (v3 : Int32) (v4 : Int32) (u : St) (H : Heap) (locs : List Loc) (ls : Array Slot), wp_X0_readFrom_J84 b0 b1 p2 Q v3 v4 u → WD g A s u H locs → lv_has ls 7 [(0, .ref (gad g b0)), (3, .int v3), (4, .int v4)] → W p l e rm_X0_readFrom s m args below meth c H locs 0 0 (MQ below (va_Qi Q (WQ g) A) args s 0 0 A) (F0 m 84 ls []) := by
  intro v3 v4 u H locs ls h hW hl
  refine lv_iload C.1 C.2.1 dX0_readFrom_84 (lv_at hl 2 rfl) ?_
  refine lv_iload_n C.1 C.2.1 dX0_readFrom_86 rfl (lv_at hl 1 rfl) ?_
  refine lv_icmp_ge (tgt := 93) C.1 C.2.1 dX0_readFrom_87 (by decide) (fun c10 => ?_) (fun c10 => ?_)
  · have h := h.1 c10
    refine lv_aload_n C.1 C.2.1 dX0_readFrom_93 rfl (lv_at hl 0 rfl) ?_
    refine fg_X0_24 C hW hb0 dX0_readFrom_94 ?_
    refine lv_iconst (v := 2) C.1 C.2.1 dX0_readFrom_97 (by decide) ?_
    refine lv_icmp_ge (tgt := 105) C.1 C.2.1 dX0_readFrom_98 (by decide) (fun c11 => ?_) (fun c11 => ?_)
    · have h := h.1 c11
      refine lv_bipush (v := (-9)) C.1 C.2.1 dX0_readFrom_105 (by decide) ?_
      exact x_iret C hW h dX0_readFrom_107
    · have h := h.2 c11
      refine lv_iload_n C.1 C.2.1 dX0_readFrom_101 rfl (lv_at hl 1 rfl) ?_
      refine lv_goto (tgt := 107) C.1 C.2.1 dX0_readFrom_102 (by decide) ?_
      exact x_iret C hW h dX0_readFrom_107
  · have h := h.2 c10
    refine lv_iload C.1 C.2.1 dX0_readFrom_90 (lv_at hl 2 rfl) ?_
    exact x_iret C hW h dX0_readFrom_92
set_option maxRecDepth 100000 in
theorem k_X0_readFrom_B22 {p : Program} {l : Launch} {e : Env} {s : State} {m : MethodId} {args : Array Value} {below : List Frame} {meth : Method} {c : Code} {g : GG} {A : Nat → Prop} {b0 : Nat} {b1 : Nat} {p2 : Int32} (hb0 : isLay b0) (hb1 : isShf b1) {Q : Int32 → St → Prop} (C : MC p s m args meth c cX0_readFrom 7 RX0 (some .int) g A) {K22 : Int32 → Int32 → Int32 → St → Prop} (hK22 : ∀ (v3 : Int32) (v4 : Int32) (v5 : Int32) (u : St) (H : Heap) (locs : List Loc) (ls : Array Slot), K22 v3 v4 v5 u → WD g A s u H locs → lv_has ls 7 [(0, .ref (gad g b0)), (1, .ref (gad g b1)), (2, .int p2), (3, .int v3), (4, .int v4), (5, .int v5)] → W p l e rm_X0_readFrom s m args below meth c H locs 0 0 (MQ below (va_Qi Q (WQ g) A) args s 0 0 A) (F0 m 22 ls [])) : ∀ (v3 : Int32) (v4 : Int32) (v5 : Int32) (u : St) (H : Heap) (locs : List Loc) (ls : Array Slot), wp_X0_readFrom_B22 b0 b1 p2 Q K22 v3 v4 v5 u → WD g A s u H locs → lv_has ls 7 [(0, .ref (gad g b0)), (1, .ref (gad g b1)), (2, .int p2), (3, .int v3), (4, .int v4), (5, .int v5)] → W p l e rm_X0_readFrom s m args below meth c H locs 0 0 (MQ below (va_Qi Q (WQ g) A) args s 0 0 A) (F0 m 22 ls []) := by
  intro v3 v4 v5 u H locs ls h hW hl
  refine lv_iload C.1 C.2.1 dX0_readFrom_22 (lv_at hl 5 rfl) ?_
  refine lv_bipush (v := 7) C.1 C.2.1 dX0_readFrom_24 (by decide) ?_
  refine lv_icmp_ge (tgt := 84) C.1 C.2.1 dX0_readFrom_26 (by decide) (fun c4 => ?_) (fun c4 => ?_)
  · have h := h.1 c4
    exact k_X0_readFrom_J84 hb0 hb1 C v3 v4 u _ _ _ h hW (lv_sub hl [0, 3, 4] rfl)
  · have h := h.2 c4
    refine lv_iload C.1 C.2.1 dX0_readFrom_29 (lv_at hl 4 rfl) ?_
    refine lv_iload_n C.1 C.2.1 dX0_readFrom_31 rfl (lv_at hl 3 rfl) ?_
    refine lv_icmp_ge (tgt := 84) C.1 C.2.1 dX0_readFrom_32 (by decide) (fun c5 => ?_) (fun c5 => ?_)
    · have h := h.1 c5
      exact k_X0_readFrom_J84 hb0 hb1 C v3 v4 u _ _ _ h hW (lv_sub hl [0, 3, 4] rfl)
    · have h := h.2 c5
      refine lv_aload_n C.1 C.2.1 dX0_readFrom_35 rfl (lv_at hl 0 rfl) ?_
      refine lv_aload_n C.1 C.2.1 dX0_readFrom_36 rfl (lv_at hl 1 rfl) ?_
      refine lv_iload_n C.1 C.2.1 dX0_readFrom_37 rfl (lv_at hl 2 rfl) ?_
      refine lv_iload C.1 C.2.1 dX0_readFrom_38 (lv_at hl 4 rfl) ?_
      refine x_Vi (rest := []) C hW (c_X0_rightSigns l g hb0 hb1 h) km_X0_rightSigns (oLay hb0) rfl qm_X0_62 ⟨rfl, rfl⟩ (by decide) rfl hl.1 rfl (Nat.le_of_ble_eq_true rfl) ⟨Nat.zero_le _, Nat.zero_le _⟩ dX0_readFrom_40 (fun r6 u6 H locs h hW => ?_)
      refine lv_istore (lv' := [(6, .int r6), (0, .ref (gad g b0)), (1, .ref (gad g b1)), (2, .int p2), (3, .int v3), (4, .int v4), (5, .int v5)]) C.1 C.2.1 dX0_readFrom_43 hl (by decide) rfl (fun ls hl => ?_)
      refine lv_iload C.1 C.2.1 dX0_readFrom_45 (lv_at hl 0 rfl) ?_
      refine lv_iconst (v := 4) C.1 C.2.1 dX0_readFrom_47 (by decide) ?_
      refine lv_icmp_ge (tgt := 57) C.1 C.2.1 dX0_readFrom_48 (by decide) (fun c7 => ?_) (fun c7 => ?_)
      · have h := h.1 c7
        refine lv_aload_n C.1 C.2.1 dX0_readFrom_57 rfl (lv_at hl 1 rfl) ?_
        refine lv_dup C.1 C.2.1 dX0_readFrom_58 rfl ?_
        refine fg_X0_24 C hW hb0 dX0_readFrom_59 ?_
        refine lv_iconst (v := 1) C.1 C.2.1 dX0_readFrom_62 (by decide) ?_
        refine lv_iadd C.1 C.2.1 dX0_readFrom_63 ?_
        refine fp_X0_24 C hW hb0 dX0_readFrom_64 (fun u8 H locs e8 hW => ?_)
        have h := nxt_get h e8
        refine lv_aload_n C.1 C.2.1 dX0_readFrom_67 rfl (lv_at hl 2 rfl) ?_
        refine lv_iload_n C.1 C.2.1 dX0_readFrom_68 rfl (lv_at hl 3 rfl) ?_
        refine lv_iload C.1 C.2.1 dX0_readFrom_69 (lv_at hl 5 rfl) ?_
        refine lv_iconst (v := 4) C.1 C.2.1 dX0_readFrom_71 (by decide) ?_
        refine lv_iadd C.1 C.2.1 dX0_readFrom_72 ?_
        refine x_Si (rest := []) C hW (c_X0_behindBlanks l g hb1 h) km_X0_behindBlanks qm_X0_58 ⟨rfl, rfl⟩ (by decide) rfl hl.1 rfl (Nat.le_of_ble_eq_true rfl) ⟨Nat.zero_le _, Nat.zero_le _⟩ dX0_readFrom_73 (fun r9 u9 H locs h hW => ?_)
        refine lv_istore (lv' := [(4, .int r9), (6, .int r6), (0, .ref (gad g b0)), (1, .ref (gad g b1)), (2, .int p2), (3, .int v3), (5, .int v5)]) C.1 C.2.1 dX0_readFrom_76 hl (by decide) rfl (fun ls hl => ?_)
        refine lv_iinc (v := (v5 + 1)) (lv' := [(5, .int (v5 + 1)), (4, .int r9), (6, .int r6), (0, .ref (gad g b0)), (1, .ref (gad g b1)), (2, .int p2), (3, .int v3)]) C.1 C.2.1 dX0_readFrom_78 hl (k := 6) rfl rfl (by decide) rfl (fun ls hl => ?_)
        refine lv_goto (tgt := 22) C.1 C.2.1 dX0_readFrom_81 (by decide) ?_
        exact hK22 v3 r9 (v5 + 1) u9 _ _ _ h hW (lv_sub hl [3, 4, 5, 6, 1, 0] rfl)
      · have h := h.2 c7
        refine lv_iload C.1 C.2.1 dX0_readFrom_51 (lv_at hl 5 rfl) ?_
        refine lv_iload C.1 C.2.1 dX0_readFrom_53 (lv_at hl 0 rfl) ?_
        refine lv_iadd C.1 C.2.1 dX0_readFrom_55 ?_
        exact x_iret C hW h dX0_readFrom_56
theorem k_X0_readFrom_L22 {p : Program} {l : Launch} {e : Env} {s : State} {m : MethodId} {args : Array Value} {below : List Frame} {meth : Method} {c : Code} {g : GG} {A : Nat → Prop} {b0 : Nat} {b1 : Nat} {p2 : Int32} (hb0 : isLay b0) (hb1 : isShf b1) {Q : Int32 → St → Prop} (C : MC p s m args meth c cX0_readFrom 7 RX0 (some .int) g A) : ∀ (n : Nat), ∀ (v3 : Int32) (v4 : Int32) (v5 : Int32) (u : St) (H : Heap) (locs : List Loc) (ls : Array Slot), wp_X0_readFrom_L22 b0 b1 p2 Q n v3 v4 v5 u → WD g A s u H locs → lv_has ls 7 [(0, .ref (gad g b0)), (1, .ref (gad g b1)), (2, .int p2), (3, .int v3), (4, .int v4), (5, .int v5)] → W p l e rm_X0_readFrom s m args below meth c H locs 0 0 (MQ below (va_Qi Q (WQ g) A) args s 0 0 A) (F0 m 22 ls []) := by
  intro n
  induction n with
  | zero => intro v3 v4 v5 u H locs ls h; exact False.elim h
  | succ n ih => exact k_X0_readFrom_B22 (b0 := b0) (b1 := b1) (p2 := p2) hb0 hb1 C ih
set_option maxRecDepth 100000 in
theorem c_X0_readFrom (l : Launch) (g : GG) {b0 : Nat} {b1 : Nat} {p2 : Int32} (hb0 : isLay b0) (hb1 : isShf b1) {u : St} {Q : Int32 → St → Prop} (h : wp_X0_readFrom b0 b1 p2 u Q) : CI l yX0_readFrom cX0_readFrom 7 (some .int) rm_X0_readFrom g [.ref (gad g b0), .ref (gad g b1), .int p2] u Q := by
  refine ent (own := RX0) (Qc := va_Qi Q (WQ g)) (by decide) rfl (Nat.le_of_ble_eq_true rfl) ?_
  intro p e s m below meth c A ls C hl hW
  have hl : lv_has ls 7 [(0, .ref (gad g b0)), (1, .ref (gad g b1)), (2, .int p2)] := hl
  unfold wp_X0_readFrom at h
  refine lv_aload_n C.1 C.2.1 dX0_readFrom_0 rfl (lv_at hl 0 rfl) ?_
  refine lv_iconst (v := 0) C.1 C.2.1 dX0_readFrom_1 (by decide) ?_
  refine fp_X0_24 C hW hb0 dX0_readFrom_2 (fun u1 H locs e1 hW => ?_)
  have h := nxt_get h e1
  refine lv_aload_n C.1 C.2.1 dX0_readFrom_5 rfl (lv_at hl 1 rfl) ?_
  refine lv_iload_n C.1 C.2.1 dX0_readFrom_6 rfl (lv_at hl 2 rfl) ?_
  refine x_Vi (rest := []) C hW (c_X2_size l g hb1 h) km_X2_size (oShf hb1) rfl qm_X0_54 ⟨rfl, rfl⟩ (by decide) rfl hl.1 rfl (Nat.le_of_ble_eq_true rfl) ⟨Nat.zero_le _, Nat.zero_le _⟩ dX0_readFrom_7 (fun r2 u2 H locs h hW => ?_)
  refine lv_istore_n (lv' := [(3, .int r2), (0, .ref (gad g b0)), (1, .ref (gad g b1)), (2, .int p2)]) C.1 C.2.1 dX0_readFrom_10 rfl hl (by decide) rfl (fun ls hl => ?_)
  refine lv_aload_n C.1 C.2.1 dX0_readFrom_11 rfl (lv_at hl 2 rfl) ?_
  refine lv_iload_n C.1 C.2.1 dX0_readFrom_12 rfl (lv_at hl 3 rfl) ?_
  refine lv_iconst (v := 0) C.1 C.2.1 dX0_readFrom_13 (by decide) ?_
  refine x_Si (rest := []) C hW (c_X0_behindBlanks l g hb1 h) km_X0_behindBlanks qm_X0_58 ⟨rfl, rfl⟩ (by decide) rfl hl.1 rfl (Nat.le_of_ble_eq_true rfl) ⟨Nat.zero_le _, Nat.zero_le _⟩ dX0_readFrom_14 (fun r3 u3 H locs h hW => ?_)
  refine lv_istore (lv' := [(4, .int r3), (3, .int r2), (0, .ref (gad g b0)), (1, .ref (gad g b1)), (2, .int p2)]) C.1 C.2.1 dX0_readFrom_17 hl (by decide) rfl (fun ls hl => ?_)
  refine lv_iconst (v := 0) C.1 C.2.1 dX0_readFrom_19 (by decide) ?_
  refine lv_istore (lv' := [(5, .int 0), (4, .int r3), (3, .int r2), (0, .ref (gad g b0)), (1, .ref (gad g b1)), (2, .int p2)]) C.1 C.2.1 dX0_readFrom_20 hl (by decide) rfl (fun ls hl => ?_)
  obtain ⟨n, h⟩ := h
  exact k_X0_readFrom_L22 hb0 hb1 C n r2 r3 0 u3 _ _ _ h hW (lv_sub hl [3, 4, 5, 2, 1, 0] rfl)
set_option maxRecDepth 100000 in
theorem c_X0_seat (l : Launch) (g : GG) {b0 : Nat} {p1 : Int32} {p2 : Int32} {p3 : Int32} (hb0 : isLay b0) {u : St} {Q : St → Prop} (h : wp_X0_seat b0 p1 p2 p3 u Q) : CV l yX0_seat cX0_seat 4 none rm_X0_seat g [.ref (gad g b0), .int p1, .int p2, .int p3] u Q := by
  refine ent (own := RX0) (Qc := va_Qv Q (WQ g)) (by decide) rfl (Nat.le_of_ble_eq_true rfl) ?_
  intro p e s m below meth c A ls C hl hW
  have hl : lv_has ls 4 [(0, .ref (gad g b0)), (1, .int p1), (2, .int p2), (3, .int p3)] := hl
  unfold wp_X0_seat at h
  refine lv_aload_n C.1 C.2.1 dX0_seat_0 rfl (lv_at hl 0 rfl) ?_
  refine lv_iload_n C.1 C.2.1 dX0_seat_1 rfl (lv_at hl 1 rfl) ?_
  refine x_Vi (rest := []) C hW (c_X0_has l g hb0 h) km_X0_has (oLay hb0) rfl qm_X0_34 ⟨rfl, rfl⟩ (by decide) rfl hl.1 rfl (Nat.le_of_ble_eq_true rfl) ⟨Nat.zero_le _, Nat.zero_le _⟩ dX0_seat_2 (fun r1 u1 H locs h hW => ?_)
  refine lv_if_eq (tgt := 22) C.1 C.2.1 dX0_seat_5 (by decide) (fun c2 => ?_) (fun c2 => ?_)
  · have h := h.1 c2
    exact x_vret C hW h dX0_seat_22
  · have h := h.2 c2
    refine lv_aload_n C.1 C.2.1 dX0_seat_8 rfl (lv_at hl 0 rfl) ?_
    refine fg_X0_15 C hW hb0 dX0_seat_9 ?_
    refine lv_iload_n C.1 C.2.1 dX0_seat_12 rfl (lv_at hl 1 rfl) ?_
    refine lv_iload_n C.1 C.2.1 dX0_seat_13 rfl (lv_at hl 2 rfl) ?_
    obtain ⟨h3, h⟩ := h
    refine x_iast C hW (gLay2 hb0) h3 dX0_seat_14 (fun u4 H locs e4 hW => ?_)
    have h := nxt_get h e4
    refine lv_aload_n C.1 C.2.1 dX0_seat_15 rfl (lv_at hl 0 rfl) ?_
    refine fg_X0_18 C hW hb0 dX0_seat_16 ?_
    refine lv_iload_n C.1 C.2.1 dX0_seat_19 rfl (lv_at hl 1 rfl) ?_
    refine lv_iload_n C.1 C.2.1 dX0_seat_20 rfl (lv_at hl 3 rfl) ?_
    obtain ⟨h5, h⟩ := h
    refine x_iast C hW (gLay3 hb0) h5 dX0_seat_21 (fun u6 H locs e6 hW => ?_)
    have h := nxt_get h e6
    exact x_vret C hW h dX0_seat_22
set_option maxRecDepth 100000 in
theorem c_X0_sets (l : Launch) (g : GG) {b0 : Nat} (hb0 : isLay b0) {u : St} {Q : Int32 → St → Prop} (h : wp_X0_sets b0 u Q) : CI l yX0_sets cX0_sets 1 (some .int) rm_X0_sets g [.ref (gad g b0)] u Q := by
  refine ent (own := RX0) (Qc := va_Qi Q (WQ g)) (by decide) rfl (Nat.le_of_ble_eq_true rfl) ?_
  intro p e s m below meth c A ls C hl hW
  have hl : lv_has ls 1 [(0, .ref (gad g b0))] := hl
  unfold wp_X0_sets at h
  refine lv_sipush (v := 128) C.1 C.2.1 dX0_sets_0 (by decide) ?_
  refine lv_iconst (v := 1) C.1 C.2.1 dX0_sets_3 (by decide) ?_
  refine lv_aload_n C.1 C.2.1 dX0_sets_4 rfl (lv_at hl 0 rfl) ?_
  refine fg_X0_24 C hW hb0 dX0_sets_5 ?_
  refine lv_ishl C.1 C.2.1 dX0_sets_8 ?_
  refine x_mmin C hl.1 qm_X0_28 (by decide) (Nat.le_of_ble_eq_true rfl) ⟨Nat.zero_le _, Nat.zero_le _⟩ dX0_sets_9 ?_
  exact x_iret C hW h dX0_sets_12
set_option maxRecDepth 100000 in
theorem c_X0_turnInto (l : Launch) (g : GG) {b0 : Nat} {p1 : Int32} {p2 : Int32} (hb0 : isLay b0) {u : St} {Q : St → Prop} (h : wp_X0_turnInto b0 p1 p2 u Q) : CV l yX0_turnInto cX0_turnInto 3 none rm_X0_turnInto g [.ref (gad g b0), .int p1, .int p2] u Q := by
  refine ent (own := RX0) (Qc := va_Qv Q (WQ g)) (by decide) rfl (Nat.le_of_ble_eq_true rfl) ?_
  intro p e s m below meth c A ls C hl hW
  have hl : lv_has ls 3 [(0, .ref (gad g b0)), (1, .int p1), (2, .int p2)] := hl
  unfold wp_X0_turnInto at h
  refine lv_aload_n C.1 C.2.1 dX0_turnInto_0 rfl (lv_at hl 0 rfl) ?_
  refine lv_iload_n C.1 C.2.1 dX0_turnInto_1 rfl (lv_at hl 1 rfl) ?_
  refine x_Vi (rest := []) C hW (c_X0_has l g hb0 h) km_X0_has (oLay hb0) rfl qm_X0_34 ⟨rfl, rfl⟩ (by decide) rfl hl.1 rfl (Nat.le_of_ble_eq_true rfl) ⟨Nat.zero_le _, Nat.zero_le _⟩ dX0_turnInto_2 (fun r1 u1 H locs h hW => ?_)
  refine lv_if_eq (tgt := 15) C.1 C.2.1 dX0_turnInto_5 (by decide) (fun c2 => ?_) (fun c2 => ?_)
  · have h := h.1 c2
    exact x_vret C hW h dX0_turnInto_15
  · have h := h.2 c2
    refine lv_aload_n C.1 C.2.1 dX0_turnInto_8 rfl (lv_at hl 0 rfl) ?_
    refine fg_X0_9 C hW hb0 dX0_turnInto_9 ?_
    refine lv_iload_n C.1 C.2.1 dX0_turnInto_12 rfl (lv_at hl 1 rfl) ?_
    refine lv_iload_n C.1 C.2.1 dX0_turnInto_13 rfl (lv_at hl 2 rfl) ?_
    obtain ⟨h3, h⟩ := h
    refine x_iast C hW (gLay1 hb0) h3 dX0_turnInto_14 (fun u4 H locs e4 hW => ?_)
    have h := nxt_get h e4
    exact x_vret C hW h dX0_turnInto_15
set_option maxRecDepth 100000 in
theorem k_X3_attach_J178 {p : Program} {l : Launch} {e : Env} {s : State} {m : MethodId} {args : Array Value} {below : List Frame} {meth : Method} {c : Code} {g : GG} {A : Nat → Prop} {b1 : Nat} {b2 : Nat} (hb1 : isLay b1) (hb2 : isMom b2) {Q : St → Prop} (C : MC p s m args meth c cX3_attach 6 RX3 none g A) {K25 : Int32 → St → Prop} (hK25 : ∀ (v3 : Int32) (u : St) (H : Heap) (locs : List Loc) (ls : Array Slot), K25 v3 u → WD g A s u H locs → lv_has ls 6 [(0, .ref (gad g 24)), (1, .ref (gad g b1)), (2, .ref (gad g b2)), (3, .int v3)] → W p l e rm_X3_attach s m args below meth c H locs 0 0 (MQ below (va_Qv Q (WQ g) A) args s 0 0 A) (F0 m 25 ls [])) : ∀ (v3 : Int32) (t0 : Int32) (t1 : Int32) (u : St) (H : Heap) (locs : List Loc) (ls : Array Slot), wp_X3_attach_J178 b1 b2 Q K25 v3 t0 t1 u → WD g A s u H locs → lv_has ls 6 [(0, .ref (gad g 24)), (1, .ref (gad g b1)), (2, .ref (gad g b2)), (3, .int v3)] → W p l e rm_X3_attach s m args below meth c H locs 0 0 (MQ below (va_Qv Q (WQ g) A) args s 0 0 A) (F0 m 178 ls [.int t0, .int t1, .ref (gad g 24)]) := by
  intro v3 t0 t1 u H locs ls h hW hl
  refine lv_ior C.1 C.2.1 dX3_attach_178 ?_
  refine fp_X3_37 C hW dX3_attach_179 (fun u27 H locs e27 hW => ?_)
  have h := nxt_get h e27
  refine lv_iinc (v := (v3 + 1)) (lv' := [(3, .int (v3 + 1)), (0, .ref (gad g 24)), (1, .ref (gad g b1)), (2, .ref (gad g b2))]) C.1 C.2.1 dX3_attach_182 hl (k := 3) rfl rfl (by decide) rfl (fun ls hl => ?_)
  refine lv_goto (tgt := 25) C.1 C.2.1 dX3_attach_185 (by decide) ?_
  exact hK25 (v3 + 1) u27 _ _ _ h hW (lv_sub hl [1, 2, 3, 0] rfl)
set_option maxRecDepth 100000 in
theorem k_X3_attach_J150 {p : Program} {l : Launch} {e : Env} {s : State} {m : MethodId} {args : Array Value} {below : List Frame} {meth : Method} {c : Code} {g : GG} {A : Nat → Prop} {b1 : Nat} {b2 : Nat} (hb1 : isLay b1) (hb2 : isMom b2) {Q : St → Prop} (C : MC p s m args meth c cX3_attach 6 RX3 none g A) {K25 : Int32 → St → Prop} (hK25 : ∀ (v3 : Int32) (u : St) (H : Heap) (locs : List Loc) (ls : Array Slot), K25 v3 u → WD g A s u H locs → lv_has ls 6 [(0, .ref (gad g 24)), (1, .ref (gad g b1)), (2, .ref (gad g b2)), (3, .int v3)] → W p l e rm_X3_attach s m args below meth c H locs 0 0 (MQ below (va_Qv Q (WQ g) A) args s 0 0 A) (F0 m 25 ls [])) : ∀ (v3 : Int32) (v4 : Int32) (t0 : Int32) (t1 : Int32) (u : St) (H : Heap) (locs : List Loc) (ls : Array Slot), wp_X3_attach_J150 b1 b2 Q K25 v3 v4 t0 t1 u → WD g A s u H locs → lv_has ls 6 [(0, .ref (gad g 24)), (1, .ref (gad g b1)), (2, .ref (gad g b2)), (3, .int v3), (4, .int v4)] → W p l e rm_X3_attach s m args below meth c H locs 0 0 (MQ below (va_Qv Q (WQ g) A) args s 0 0 A) (F0 m 150 ls [.int t0, .int t1, .ref (gad g 24)]) := by
  intro v3 v4 t0 t1 u H locs ls h hW hl
  refine lv_ior C.1 C.2.1 dX3_attach_150 ?_
  refine fp_X3_34 C hW dX3_attach_151 (fun u23 H locs e23 hW => ?_)
  have h := nxt_get h e23
  refine lv_aload_n C.1 C.2.1 dX3_attach_154 rfl (lv_at hl 0 rfl) ?_
  refine lv_dup C.1 C.2.1 dX3_attach_155 rfl ?_
  refine fg_X3_37 C hW dX3_attach_156 ?_
  refine lv_aload_n C.1 C.2.1 dX3_attach_159 rfl (lv_at hl 1 rfl) ?_
  refine fg_X3_60 C hW hb1 dX3_attach_160 ?_
  refine lv_iload_n C.1 C.2.1 dX3_attach_163 rfl (lv_at hl 3 rfl) ?_
  obtain ⟨h24, h⟩ := h
  refine x_iald C hW (gLay1 hb1) h24 dX3_attach_164 ?_
  refine lv_iconst (v := 1) C.1 C.2.1 dX3_attach_165 (by decide) ?_
  refine x_SNi (rest := [.int (gi u23 24 8), .ref (gad g 24)]) C hW (c_X4_isOf l g h) km_X4_isOf qmn_X3_63 ⟨rfl, rfl⟩ (by decide) rfl hl.1 rfl (Nat.le_of_ble_eq_true rfl) ⟨Nat.zero_le _, Nat.zero_le _⟩ dX3_attach_166 (fun r25 u25 H locs h hW => ?_)
  refine lv_if_eq (tgt := 177) C.1 C.2.1 dX3_attach_169 (by decide) (fun c26 => ?_) (fun c26 => ?_)
  · have h := h.1 c26
    refine lv_iconst (v := 0) C.1 C.2.1 dX3_attach_177 (by decide) ?_
    exact k_X3_attach_J178 hb1 hb2 C hK25 v3 0 (gi u23 24 8) u25 _ _ _ h hW (lv_sub hl [0, 1, 2, 3] rfl)
  · have h := h.2 c26
    refine lv_iload C.1 C.2.1 dX3_attach_172 (lv_at hl 4 rfl) ?_
    refine lv_goto (tgt := 178) C.1 C.2.1 dX3_attach_174 (by decide) ?_
    exact k_X3_attach_J178 hb1 hb2 C hK25 v3 v4 (gi u23 24 8) u25 _ _ _ h hW (lv_sub hl [0, 1, 2, 3] rfl)
set_option maxRecDepth 100000 in
theorem k_X3_attach_J149 {p : Program} {l : Launch} {e : Env} {s : State} {m : MethodId} {args : Array Value} {below : List Frame} {meth : Method} {c : Code} {g : GG} {A : Nat → Prop} {b1 : Nat} {b2 : Nat} (hb1 : isLay b1) (hb2 : isMom b2) {Q : St → Prop} (C : MC p s m args meth c cX3_attach 6 RX3 none g A) {K25 : Int32 → St → Prop} (hK25 : ∀ (v3 : Int32) (u : St) (H : Heap) (locs : List Loc) (ls : Array Slot), K25 v3 u → WD g A s u H locs → lv_has ls 6 [(0, .ref (gad g 24)), (1, .ref (gad g b1)), (2, .ref (gad g b2)), (3, .int v3)] → W p l e rm_X3_attach s m args below meth c H locs 0 0 (MQ below (va_Qv Q (WQ g) A) args s 0 0 A) (F0 m 25 ls [])) : ∀ (v3 : Int32) (v4 : Int32) (t0 : Int32) (u : St) (H : Heap) (locs : List Loc) (ls : Array Slot), wp_X3_attach_J149 b1 b2 Q K25 v3 v4 t0 u → WD g A s u H locs → lv_has ls 6 [(0, .ref (gad g 24)), (1, .ref (gad g b1)), (2, .ref (gad g b2)), (3, .int v3), (4, .int v4)] → W p l e rm_X3_attach s m args below meth c H locs 0 0 (MQ below (va_Qv Q (WQ g) A) args s 0 0 A) (F0 m 149 ls [.int t0, .ref (gad g 24)]) := by
  intro v3 v4 t0 u H locs ls h hW hl
  refine lv_iconst (v := 0) C.1 C.2.1 dX3_attach_149 (by decide) ?_
  exact k_X3_attach_J150 hb1 hb2 C hK25 v3 v4 0 t0 u _ _ _ h hW hl
set_option maxRecDepth 100000 in
theorem k_X3_attach_J120 {p : Program} {l : Launch} {e : Env} {s : State} {m : MethodId} {args : Array Value} {below : List Frame} {meth : Method} {c : Code} {g : GG} {A : Nat → Prop} {b1 : Nat} {b2 : Nat} (hb1 : isLay b1) (hb2 : isMom b2) {Q : St → Prop} (C : MC p s m args meth c cX3_attach 6 RX3 none g A) {K25 : Int32 → St → Prop} (hK25 : ∀ (v3 : Int32) (u : St) (H : Heap) (locs : List Loc) (ls : Array Slot), K25 v3 u → WD g A s u H locs → lv_has ls 6 [(0, .ref (gad g 24)), (1, .ref (gad g b1)), (2, .ref (gad g b2)), (3, .int v3)] → W p l e rm_X3_attach s m args below meth c H locs 0 0 (MQ below (va_Qv Q (WQ g) A) args s 0 0 A) (F0 m 25 ls [])) : ∀ (v3 : Int32) (v4 : Int32) (v5 : Int32) (t0 : Int32) (t1 : Int32) (u : St) (H : Heap) (locs : List Loc) (ls : Array Slot), wp_X3_attach_J120 b1 b2 Q K25 v3 v4 v5 t0 t1 u → WD g A s u H locs → lv_has ls 6 [(0, .ref (gad g 24)), (1, .ref (gad g b1)), (2, .ref (gad g b2)), (3, .int v3), (4, .int v4), (5, .int v5)] → W p l e rm_X3_attach s m args below meth c H locs 0 0 (MQ below (va_Qv Q (WQ g) A) args s 0 0 A) (F0 m 120 ls [.int t0, .int t1, .ref (gad g 24)]) := by
  intro v3 v4 v5 t0 t1 u H locs ls h hW hl
  refine lv_ior C.1 C.2.1 dX3_attach_120 ?_
  refine fp_X3_31 C hW dX3_attach_121 (fun u19 H locs e19 hW => ?_)
  have h := nxt_get h e19
  refine lv_aload_n C.1 C.2.1 dX3_attach_124 rfl (lv_at hl 0 rfl) ?_
  refine lv_dup C.1 C.2.1 dX3_attach_125 rfl ?_
  refine fg_X3_34 C hW dX3_attach_126 ?_
  refine lv_iload C.1 C.2.1 dX3_attach_129 (lv_at hl 5 rfl) ?_
  refine lv_if_eq (tgt := 149) C.1 C.2.1 dX3_attach_131 (by decide) (fun c20 => ?_) (fun c20 => ?_)
  · have h := h.1 c20
    exact k_X3_attach_J149 hb1 hb2 C hK25 v3 v4 (gi u19 24 7) u19 _ _ _ h hW (lv_sub hl [0, 1, 2, 3, 4] rfl)
  · have h := h.2 c20
    refine lv_aload_n C.1 C.2.1 dX3_attach_134 rfl (lv_at hl 1 rfl) ?_
    refine lv_iload_n C.1 C.2.1 dX3_attach_135 rfl (lv_at hl 3 rfl) ?_
    refine lv_aload_n C.1 C.2.1 dX3_attach_136 rfl (lv_at hl 2 rfl) ?_
    refine lv_iconst (v := 0) C.1 C.2.1 dX3_attach_137 (by decide) ?_
    refine x_Vi (rest := [.int (gi u19 24 7), .ref (gad g 24)]) C hW (c_X0_conducts l g hb1 hb2 h) km_X0_conducts (oLay hb1) rfl qm_X3_56 ⟨rfl, rfl⟩ (by decide) rfl hl.1 rfl (Nat.le_of_ble_eq_true rfl) ⟨Nat.zero_le _, Nat.zero_le _⟩ dX3_attach_138 (fun r21 u21 H locs h hW => ?_)
    refine lv_if_eq (tgt := 149) C.1 C.2.1 dX3_attach_141 (by decide) (fun c22 => ?_) (fun c22 => ?_)
    · have h := h.1 c22
      exact k_X3_attach_J149 hb1 hb2 C hK25 v3 v4 (gi u19 24 7) u21 _ _ _ h hW (lv_sub hl [0, 1, 2, 3, 4] rfl)
    · have h := h.2 c22
      refine lv_iload C.1 C.2.1 dX3_attach_144 (lv_at hl 4 rfl) ?_
      refine lv_goto (tgt := 150) C.1 C.2.1 dX3_attach_146 (by decide) ?_
      exact k_X3_attach_J150 hb1 hb2 C hK25 v3 v4 v4 (gi u19 24 7) u21 _ _ _ h hW (lv_sub hl [0, 1, 2, 3, 4] rfl)
set_option maxRecDepth 100000 in
theorem k_X3_attach_J119 {p : Program} {l : Launch} {e : Env} {s : State} {m : MethodId} {args : Array Value} {below : List Frame} {meth : Method} {c : Code} {g : GG} {A : Nat → Prop} {b1 : Nat} {b2 : Nat} (hb1 : isLay b1) (hb2 : isMom b2) {Q : St → Prop} (C : MC p s m args meth c cX3_attach 6 RX3 none g A) {K25 : Int32 → St → Prop} (hK25 : ∀ (v3 : Int32) (u : St) (H : Heap) (locs : List Loc) (ls : Array Slot), K25 v3 u → WD g A s u H locs → lv_has ls 6 [(0, .ref (gad g 24)), (1, .ref (gad g b1)), (2, .ref (gad g b2)), (3, .int v3)] → W p l e rm_X3_attach s m args below meth c H locs 0 0 (MQ below (va_Qv Q (WQ g) A) args s 0 0 A) (F0 m 25 ls [])) : ∀ (v3 : Int32) (v4 : Int32) (v5 : Int32) (t0 : Int32) (u : St) (H : Heap) (locs : List Loc) (ls : Array Slot), wp_X3_attach_J119 b1 b2 Q K25 v3 v4 v5 t0 u → WD g A s u H locs → lv_has ls 6 [(0, .ref (gad g 24)), (1, .ref (gad g b1)), (2, .ref (gad g b2)), (3, .int v3), (4, .int v4), (5, .int v5)] → W p l e rm_X3_attach s m args below meth c H locs 0 0 (MQ below (va_Qv Q (WQ g) A) args s 0 0 A) (F0 m 119 ls [.int t0, .ref (gad g 24)]) := by
  intro v3 v4 v5 t0 u H locs ls h hW hl
  refine lv_iconst (v := 0) C.1 C.2.1 dX3_attach_119 (by decide) ?_
  exact k_X3_attach_J120 hb1 hb2 C hK25 v3 v4 v5 0 t0 u _ _ _ h hW hl
set_option maxRecDepth 100000 in
theorem k_X3_attach_J91 {p : Program} {l : Launch} {e : Env} {s : State} {m : MethodId} {args : Array Value} {below : List Frame} {meth : Method} {c : Code} {g : GG} {A : Nat → Prop} {b1 : Nat} {b2 : Nat} (hb1 : isLay b1) (hb2 : isMom b2) {Q : St → Prop} (C : MC p s m args meth c cX3_attach 6 RX3 none g A) {K25 : Int32 → St → Prop} (hK25 : ∀ (v3 : Int32) (u : St) (H : Heap) (locs : List Loc) (ls : Array Slot), K25 v3 u → WD g A s u H locs → lv_has ls 6 [(0, .ref (gad g 24)), (1, .ref (gad g b1)), (2, .ref (gad g b2)), (3, .int v3)] → W p l e rm_X3_attach s m args below meth c H locs 0 0 (MQ below (va_Qv Q (WQ g) A) args s 0 0 A) (F0 m 25 ls [])) : ∀ (v3 : Int32) (v4 : Int32) (t0 : Int32) (u : St) (H : Heap) (locs : List Loc) (ls : Array Slot), wp_X3_attach_J91 b1 b2 Q K25 v3 v4 t0 u → WD g A s u H locs → lv_has ls 6 [(0, .ref (gad g 24)), (1, .ref (gad g b1)), (2, .ref (gad g b2)), (3, .int v3), (4, .int v4)] → W p l e rm_X3_attach s m args below meth c H locs 0 0 (MQ below (va_Qv Q (WQ g) A) args s 0 0 A) (F0 m 91 ls [.int t0]) := by
  intro v3 v4 t0 u H locs ls h hW hl
  refine lv_istore (lv' := [(5, .int t0), (0, .ref (gad g 24)), (1, .ref (gad g b1)), (2, .ref (gad g b2)), (3, .int v3), (4, .int v4)]) C.1 C.2.1 dX3_attach_91 hl (by decide) rfl (fun ls hl => ?_)
  refine lv_aload_n C.1 C.2.1 dX3_attach_93 rfl (lv_at hl 1 rfl) ?_
  refine lv_dup C.1 C.2.1 dX3_attach_94 rfl ?_
  refine fg_X3_31 C hW dX3_attach_95 ?_
  refine lv_iload C.1 C.2.1 dX3_attach_98 (lv_at hl 0 rfl) ?_
  refine lv_if_eq (tgt := 119) C.1 C.2.1 dX3_attach_100 (by decide) (fun c16 => ?_) (fun c16 => ?_)
  · have h := h.1 c16
    exact k_X3_attach_J119 hb1 hb2 C hK25 v3 v4 t0 (gi u 24 6) u _ _ _ h hW (lv_sub hl [1, 2, 3, 4, 5, 0] rfl)
  · have h := h.2 c16
    refine lv_aload_n C.1 C.2.1 dX3_attach_103 rfl (lv_at hl 2 rfl) ?_
    refine lv_iload_n C.1 C.2.1 dX3_attach_104 rfl (lv_at hl 4 rfl) ?_
    refine lv_aload_n C.1 C.2.1 dX3_attach_105 rfl (lv_at hl 3 rfl) ?_
    refine lv_iload C.1 C.2.1 dX3_attach_106 (lv_at hl 5 rfl) ?_
    refine x_Vi (rest := [.int (gi u 24 6), .ref (gad g 24)]) C hW (c_X0_conducts l g hb1 hb2 h) km_X0_conducts (oLay hb1) rfl qm_X3_56 ⟨rfl, rfl⟩ (by decide) rfl hl.1 rfl (Nat.le_of_ble_eq_true rfl) ⟨Nat.zero_le _, Nat.zero_le _⟩ dX3_attach_108 (fun r17 u17 H locs h hW => ?_)
    refine lv_if_eq (tgt := 119) C.1 C.2.1 dX3_attach_111 (by decide) (fun c18 => ?_) (fun c18 => ?_)
    · have h := h.1 c18
      exact k_X3_attach_J119 hb1 hb2 C hK25 v3 v4 t0 (gi u 24 6) u17 _ _ _ h hW (lv_sub hl [1, 2, 3, 4, 5, 0] rfl)
    · have h := h.2 c18
      refine lv_iload C.1 C.2.1 dX3_attach_114 (lv_at hl 5 rfl) ?_
      refine lv_goto (tgt := 120) C.1 C.2.1 dX3_attach_116 (by decide) ?_
      exact k_X3_attach_J120 hb1 hb2 C hK25 v3 v4 t0 v4 (gi u 24 6) u17 _ _ _ h hW (lv_sub hl [1, 2, 3, 4, 5, 0] rfl)
set_option maxRecDepth 100000 in
theorem k_X3_attach_B25 {p : Program} {l : Launch} {e : Env} {s : State} {m : MethodId} {args : Array Value} {below : List Frame} {meth : Method} {c : Code} {g : GG} {A : Nat → Prop} {b1 : Nat} {b2 : Nat} (hb1 : isLay b1) (hb2 : isMom b2) {Q : St → Prop} (C : MC p s m args meth c cX3_attach 6 RX3 none g A) {K25 : Int32 → St → Prop} (hK25 : ∀ (v3 : Int32) (u : St) (H : Heap) (locs : List Loc) (ls : Array Slot), K25 v3 u → WD g A s u H locs → lv_has ls 6 [(0, .ref (gad g 24)), (1, .ref (gad g b1)), (2, .ref (gad g b2)), (3, .int v3)] → W p l e rm_X3_attach s m args below meth c H locs 0 0 (MQ below (va_Qv Q (WQ g) A) args s 0 0 A) (F0 m 25 ls [])) : ∀ (v3 : Int32) (u : St) (H : Heap) (locs : List Loc) (ls : Array Slot), wp_X3_attach_B25 b1 b2 Q K25 v3 u → WD g A s u H locs → lv_has ls 6 [(0, .ref (gad g 24)), (1, .ref (gad g b1)), (2, .ref (gad g b2)), (3, .int v3)] → W p l e rm_X3_attach s m args below meth c H locs 0 0 (MQ below (va_Qv Q (WQ g) A) args s 0 0 A) (F0 m 25 ls []) := by
  intro v3 u H locs ls h hW hl
  refine lv_iload_n C.1 C.2.1 dX3_attach_25 rfl (lv_at hl 3 rfl) ?_
  refine lv_aload_n C.1 C.2.1 dX3_attach_26 rfl (lv_at hl 0 rfl) ?_
  refine fg_X3_27 C hW dX3_attach_27 ?_
  refine lv_icmp_ge (tgt := 188) C.1 C.2.1 dX3_attach_30 (by decide) (fun c5 => ?_) (fun c5 => ?_)
  · have h := h.1 c5
    exact x_vret C hW h dX3_attach_188
  · have h := h.2 c5
    refine lv_iload_n C.1 C.2.1 dX3_attach_33 rfl (lv_at hl 3 rfl) ?_
    refine lv_bipush (v := 7) C.1 C.2.1 dX3_attach_34 (by decide) ?_
    refine lv_icmp_ge (tgt := 188) C.1 C.2.1 dX3_attach_36 (by decide) (fun c6 => ?_) (fun c6 => ?_)
    · have h := h.1 c6
      exact x_vret C hW h dX3_attach_188
    · have h := h.2 c6
      refine lv_iconst (v := 1) C.1 C.2.1 dX3_attach_39 (by decide) ?_
      refine lv_iload_n C.1 C.2.1 dX3_attach_40 rfl (lv_at hl 3 rfl) ?_
      refine lv_ishl C.1 C.2.1 dX3_attach_41 ?_
      refine lv_istore (lv' := [(4, .int (1 <<< (v3 &&& 31))), (0, .ref (gad g 24)), (1, .ref (gad g b1)), (2, .ref (gad g b2)), (3, .int v3)]) C.1 C.2.1 dX3_attach_42 hl (by decide) rfl (fun ls hl => ?_)
      refine lv_aload_n C.1 C.2.1 dX3_attach_44 rfl (lv_at hl 1 rfl) ?_
      refine fg_X3_9 C hW dX3_attach_45 ?_
      refine lv_iload_n C.1 C.2.1 dX3_attach_48 rfl (lv_at hl 4 rfl) ?_
      refine lv_aload_n C.1 C.2.1 dX3_attach_49 rfl (lv_at hl 2 rfl) ?_
      refine fg_X3_43 C hW hb1 dX3_attach_50 ?_
      refine lv_iload_n C.1 C.2.1 dX3_attach_53 rfl (lv_at hl 4 rfl) ?_
      obtain ⟨h7, h⟩ := h
      refine x_iald C hW (gLay2 hb1) h7 dX3_attach_54 ?_
      obtain ⟨h8, h⟩ := h
      refine x_iast C hW g_25 h8 dX3_attach_55 (fun u9 H locs e9 hW => ?_)
      have h := nxt_get h e9
      refine lv_aload_n C.1 C.2.1 dX3_attach_56 rfl (lv_at hl 1 rfl) ?_
      refine fg_X3_15 C hW dX3_attach_57 ?_
      refine lv_iload_n C.1 C.2.1 dX3_attach_60 rfl (lv_at hl 4 rfl) ?_
      refine lv_iconst (v := 1) C.1 C.2.1 dX3_attach_61 (by decide) ?_
      refine lv_aload_n C.1 C.2.1 dX3_attach_62 rfl (lv_at hl 2 rfl) ?_
      refine fg_X3_44 C hW hb1 dX3_attach_63 ?_
      refine lv_iload_n C.1 C.2.1 dX3_attach_66 rfl (lv_at hl 4 rfl) ?_
      obtain ⟨h10, h⟩ := h
      refine x_iald C hW (gLay3 hb1) h10 dX3_attach_67 ?_
      refine lv_ishl C.1 C.2.1 dX3_attach_68 ?_
      obtain ⟨h11, h⟩ := h
      refine x_iast C hW g_26 h11 dX3_attach_69 (fun u12 H locs e12 hW => ?_)
      have h := nxt_get h e12
      refine lv_aload_n C.1 C.2.1 dX3_attach_70 rfl (lv_at hl 3 rfl) ?_
      refine fg_X3_47 C hW hb2 dX3_attach_71 ?_
      refine lv_aload_n C.1 C.2.1 dX3_attach_74 rfl (lv_at hl 1 rfl) ?_
      refine fg_X3_9 C hW dX3_attach_75 ?_
      refine lv_iload_n C.1 C.2.1 dX3_attach_78 rfl (lv_at hl 4 rfl) ?_
      obtain ⟨h13, h⟩ := h
      refine x_iald C hW g_25 h13 dX3_attach_79 ?_
      refine x_SNi (rest := []) C hW (c_X4_holds l g h) km_X4_holds qmn_X3_52 ⟨rfl, rfl⟩ (by decide) rfl hl.1 rfl (Nat.le_of_ble_eq_true rfl) ⟨Nat.zero_le _, Nat.zero_le _⟩ dX3_attach_80 (fun r14 u14 H locs h hW => ?_)
      refine lv_if_ne (tgt := 90) C.1 C.2.1 dX3_attach_83 (by decide) (fun c15 => ?_) (fun c15 => ?_)
      · have h := h.1 c15
        refine lv_iconst (v := 0) C.1 C.2.1 dX3_attach_90 (by decide) ?_
        exact k_X3_attach_J91 hb1 hb2 C hK25 v3 (1 <<< (v3 &&& 31)) 0 u14 _ _ _ h hW (lv_sub hl [1, 2, 3, 4, 0] rfl)
      · have h := h.2 c15
        refine lv_iconst (v := 1) C.1 C.2.1 dX3_attach_86 (by decide) ?_
        refine lv_goto (tgt := 91) C.1 C.2.1 dX3_attach_87 (by decide) ?_
        exact k_X3_attach_J91 hb1 hb2 C hK25 v3 (1 <<< (v3 &&& 31)) 1 u14 _ _ _ h hW (lv_sub hl [1, 2, 3, 4, 0] rfl)
theorem k_X3_attach_L25 {p : Program} {l : Launch} {e : Env} {s : State} {m : MethodId} {args : Array Value} {below : List Frame} {meth : Method} {c : Code} {g : GG} {A : Nat → Prop} {b1 : Nat} {b2 : Nat} (hb1 : isLay b1) (hb2 : isMom b2) {Q : St → Prop} (C : MC p s m args meth c cX3_attach 6 RX3 none g A) : ∀ (n : Nat), ∀ (v3 : Int32) (u : St) (H : Heap) (locs : List Loc) (ls : Array Slot), wp_X3_attach_L25 b1 b2 Q n v3 u → WD g A s u H locs → lv_has ls 6 [(0, .ref (gad g 24)), (1, .ref (gad g b1)), (2, .ref (gad g b2)), (3, .int v3)] → W p l e rm_X3_attach s m args below meth c H locs 0 0 (MQ below (va_Qv Q (WQ g) A) args s 0 0 A) (F0 m 25 ls []) := by
  intro n
  induction n with
  | zero => intro v3 u H locs ls h; exact False.elim h
  | succ n ih => exact k_X3_attach_B25 (b1 := b1) (b2 := b2) hb1 hb2 C ih
set_option maxRecDepth 100000 in
theorem c_X3_attach (l : Launch) (g : GG) {b1 : Nat} {b2 : Nat} (hb1 : isLay b1) (hb2 : isMom b2) {u : St} {Q : St → Prop} (h : wp_X3_attach b1 b2 u Q) : CV l yX3_attach cX3_attach 6 none rm_X3_attach g [.ref (gad g 24), .ref (gad g b1), .ref (gad g b2)] u Q := by
  refine ent (own := RX3) (Qc := va_Qv Q (WQ g)) (by decide) rfl (Nat.le_of_ble_eq_true rfl) ?_
  intro p e s m below meth c A ls C hl hW
  have hl : lv_has ls 6 [(0, .ref (gad g 24)), (1, .ref (gad g b1)), (2, .ref (gad g b2))] := hl
  unfold wp_X3_attach at h
  refine lv_aload_n C.1 C.2.1 dX3_attach_0 rfl (lv_at hl 0 rfl) ?_
  refine lv_aload_n C.1 C.2.1 dX3_attach_1 rfl (lv_at hl 1 rfl) ?_
  refine fg_X3_40 C hW hb1 dX3_attach_2 ?_
  refine fp_X3_27 C hW dX3_attach_5 (fun u1 H locs e1 hW => ?_)
  have h := nxt_get h e1
  refine lv_aload_n C.1 C.2.1 dX3_attach_8 rfl (lv_at hl 0 rfl) ?_
  refine lv_iconst (v := 0) C.1 C.2.1 dX3_attach_9 (by decide) ?_
  refine fp_X3_31 C hW dX3_attach_10 (fun u2 H locs e2 hW => ?_)
  have h := nxt_get h e2
  refine lv_aload_n C.1 C.2.1 dX3_attach_13 rfl (lv_at hl 0 rfl) ?_
  refine lv_iconst (v := 0) C.1 C.2.1 dX3_attach_14 (by decide) ?_
  refine fp_X3_34 C hW dX3_attach_15 (fun u3 H locs e3 hW => ?_)
  have h := nxt_get h e3
  refine lv_aload_n C.1 C.2.1 dX3_attach_18 rfl (lv_at hl 0 rfl) ?_
  refine lv_iconst (v := 0) C.1 C.2.1 dX3_attach_19 (by decide) ?_
  refine fp_X3_37 C hW dX3_attach_20 (fun u4 H locs e4 hW => ?_)
  have h := nxt_get h e4
  refine lv_iconst (v := 0) C.1 C.2.1 dX3_attach_23 (by decide) ?_
  refine lv_istore_n (lv' := [(3, .int 0), (0, .ref (gad g 24)), (1, .ref (gad g b1)), (2, .ref (gad g b2))]) C.1 C.2.1 dX3_attach_24 rfl hl (by decide) rfl (fun ls hl => ?_)
  obtain ⟨n, h⟩ := h
  exact k_X3_attach_L25 hb1 hb2 C n 0 u4 _ _ _ h hW (lv_sub hl [1, 2, 3, 0] rfl)
set_option maxRecDepth 100000 in
theorem k_X3_columnsFrom_B49 {p : Program} {l : Launch} {e : Env} {s : State} {m : MethodId} {args : Array Value} {below : List Frame} {meth : Method} {c : Code} {g : GG} {A : Nat → Prop} {p1 : Int32} {Q : Int32 → St → Prop} (C : MC p s m args meth c cX3_columnsFrom 7 RX3 (some .int) g A) {K27 : Int32 → Int32 → Int32 → Int32 → St → Prop} (hK27 : ∀ (v2 : Int32) (v3 : Int32) (v4 : Int32) (v5 : Int32) (u : St) (H : Heap) (locs : List Loc) (ls : Array Slot), K27 v2 v3 v4 v5 u → WD g A s u H locs → lv_has ls 7 [(0, .ref (gad g 24)), (2, .int v2), (3, .int v3), (4, .int v4), (5, .int v5)] → W p l e rm_X3_columnsFrom s m args below meth c H locs 0 0 (MQ below (va_Qi Q (WQ g) A) args s 0 0 A) (F0 m 27 ls [])) {K49 : Int32 → Int32 → Int32 → Int32 → Int32 → St → Prop} (hK49 : ∀ (v2 : Int32) (v3 : Int32) (v4 : Int32) (v5 : Int32) (v6 : Int32) (u : St) (H : Heap) (locs : List Loc) (ls : Array Slot), K49 v2 v3 v4 v5 v6 u → WD g A s u H locs → lv_has ls 7 [(0, .ref (gad g 24)), (2, .int v2), (3, .int v3), (4, .int v4), (5, .int v5), (6, .int v6)] → W p l e rm_X3_columnsFrom s m args below meth c H locs 0 0 (MQ below (va_Qi Q (WQ g) A) args s 0 0 A) (F0 m 49 ls [])) : ∀ (v2 : Int32) (v3 : Int32) (v4 : Int32) (v5 : Int32) (v6 : Int32) (u : St) (H : Heap) (locs : List Loc) (ls : Array Slot), wp_X3_columnsFrom_B49 p1 Q K27 K49 v2 v3 v4 v5 v6 u → WD g A s u H locs → lv_has ls 7 [(0, .ref (gad g 24)), (2, .int v2), (3, .int v3), (4, .int v4), (5, .int v5), (6, .int v6)] → W p l e rm_X3_columnsFrom s m args below meth c H locs 0 0 (MQ below (va_Qi Q (WQ g) A) args s 0 0 A) (F0 m 49 ls []) := by
  intro v2 v3 v4 v5 v6 u H locs ls h hW hl
  refine lv_iload C.1 C.2.1 dX3_columnsFrom_49 (lv_at hl 5 rfl) ?_
  refine lv_iconst (v := 4) C.1 C.2.1 dX3_columnsFrom_51 (by decide) ?_
  refine lv_icmp_ge (tgt := 99) C.1 C.2.1 dX3_columnsFrom_52 (by decide) (fun c7 => ?_) (fun c7 => ?_)
  · have h := h.1 c7
    refine lv_iinc (v := (v5 + 1)) (lv' := [(5, .int (v5 + 1)), (0, .ref (gad g 24)), (2, .int v2), (3, .int v3), (4, .int v4), (6, .int v6)]) C.1 C.2.1 dX3_columnsFrom_99 hl (k := 4) rfl rfl (by decide) rfl (fun ls hl => ?_)
    refine lv_goto (tgt := 27) C.1 C.2.1 dX3_columnsFrom_102 (by decide) ?_
    exact hK27 v2 v3 v4 (v5 + 1) u _ _ _ h hW (lv_sub hl [1, 2, 3, 4, 0] rfl)
  · have h := h.2 c7
    refine lv_iload_n C.1 C.2.1 dX3_columnsFrom_55 rfl (lv_at hl 2 rfl) ?_
    refine lv_iload C.1 C.2.1 dX3_columnsFrom_56 (lv_at hl 5 rfl) ?_
    refine lv_ishr C.1 C.2.1 dX3_columnsFrom_58 ?_
    refine lv_iconst (v := 1) C.1 C.2.1 dX3_columnsFrom_59 (by decide) ?_
    refine lv_iand C.1 C.2.1 dX3_columnsFrom_60 ?_
    refine lv_if_ne (tgt := 93) C.1 C.2.1 dX3_columnsFrom_61 (by decide) (fun c8 => ?_) (fun c8 => ?_)
    · have h := h.1 c8
      refine lv_iinc (v := (v6 + 1)) (lv' := [(6, .int (v6 + 1)), (0, .ref (gad g 24)), (2, .int v2), (3, .int v3), (4, .int v4), (5, .int v5)]) C.1 C.2.1 dX3_columnsFrom_93 hl (k := 5) rfl rfl (by decide) rfl (fun ls hl => ?_)
      refine lv_goto (tgt := 49) C.1 C.2.1 dX3_columnsFrom_96 (by decide) ?_
      exact hK49 v2 v3 v4 v5 (v6 + 1) u _ _ _ h hW (lv_sub hl [1, 2, 3, 4, 5, 0] rfl)
    · have h := h.2 c8
      refine lv_aload_n C.1 C.2.1 dX3_columnsFrom_64 rfl (lv_at hl 0 rfl) ?_
      refine fg_X3_21 C hW dX3_columnsFrom_65 ?_
      refine lv_iload C.1 C.2.1 dX3_columnsFrom_68 (lv_at hl 5 rfl) ?_
      obtain ⟨h9, h⟩ := h
      refine x_iald C hW g_28 h9 dX3_columnsFrom_70 ?_
      refine lv_iload_n C.1 C.2.1 dX3_columnsFrom_71 rfl (lv_at hl 1 rfl) ?_
      refine lv_iand C.1 C.2.1 dX3_columnsFrom_72 ?_
      refine lv_if_eq (tgt := 93) C.1 C.2.1 dX3_columnsFrom_73 (by decide) (fun c10 => ?_) (fun c10 => ?_)
      · have h := h.1 c10
        refine lv_iinc (v := (v6 + 1)) (lv' := [(6, .int (v6 + 1)), (0, .ref (gad g 24)), (2, .int v2), (3, .int v3), (4, .int v4), (5, .int v5)]) C.1 C.2.1 dX3_columnsFrom_93 hl (k := 5) rfl rfl (by decide) rfl (fun ls hl => ?_)
        refine lv_goto (tgt := 49) C.1 C.2.1 dX3_columnsFrom_96 (by decide) ?_
        exact hK49 v2 v3 v4 v5 (v6 + 1) u _ _ _ h hW (lv_sub hl [1, 2, 3, 4, 5, 0] rfl)
      · have h := h.2 c10
        refine lv_iload_n C.1 C.2.1 dX3_columnsFrom_76 rfl (lv_at hl 2 rfl) ?_
        refine lv_iconst (v := 1) C.1 C.2.1 dX3_columnsFrom_77 (by decide) ?_
        refine lv_iload C.1 C.2.1 dX3_columnsFrom_78 (lv_at hl 5 rfl) ?_
        refine lv_ishl C.1 C.2.1 dX3_columnsFrom_80 ?_
        refine lv_ior C.1 C.2.1 dX3_columnsFrom_81 ?_
        refine lv_istore_n (lv' := [(3, .int (v3 ||| (1 <<< (v6 &&& 31)))), (0, .ref (gad g 24)), (2, .int v2), (4, .int v4), (5, .int v5), (6, .int v6)]) C.1 C.2.1 dX3_columnsFrom_82 rfl hl (by decide) rfl (fun ls hl => ?_)
        refine lv_iload_n C.1 C.2.1 dX3_columnsFrom_83 rfl (lv_at hl 2 rfl) ?_
        refine lv_aload_n C.1 C.2.1 dX3_columnsFrom_84 rfl (lv_at hl 1 rfl) ?_
        refine fg_X3_18 C hW dX3_columnsFrom_85 ?_
        refine lv_iload C.1 C.2.1 dX3_columnsFrom_88 (lv_at hl 5 rfl) ?_
        obtain ⟨h11, h⟩ := h
        refine x_iald C hW g_27 h11 dX3_columnsFrom_90 ?_
        refine lv_ior C.1 C.2.1 dX3_columnsFrom_91 ?_
        refine lv_istore_n (lv' := [(2, .int (v2 ||| (gi u 27 (Int32.toNatClampNeg v6)))), (3, .int (v3 ||| (1 <<< (v6 &&& 31)))), (0, .ref (gad g 24)), (4, .int v4), (5, .int v5), (6, .int v6)]) C.1 C.2.1 dX3_columnsFrom_92 rfl hl (by decide) rfl (fun ls hl => ?_)
        refine lv_iinc (v := (v6 + 1)) (lv' := [(6, .int (v6 + 1)), (2, .int (v2 ||| (gi u 27 (Int32.toNatClampNeg v6)))), (3, .int (v3 ||| (1 <<< (v6 &&& 31)))), (0, .ref (gad g 24)), (4, .int v4), (5, .int v5)]) C.1 C.2.1 dX3_columnsFrom_93 hl (k := 5) rfl rfl (by decide) rfl (fun ls hl => ?_)
        refine lv_goto (tgt := 49) C.1 C.2.1 dX3_columnsFrom_96 (by decide) ?_
        exact hK49 (v2 ||| (gi u 27 (Int32.toNatClampNeg v6))) (v3 ||| (1 <<< (v6 &&& 31))) v4 v5 (v6 + 1) u _ _ _ h hW (lv_sub hl [3, 1, 2, 4, 5, 0] rfl)
theorem k_X3_columnsFrom_L49 {p : Program} {l : Launch} {e : Env} {s : State} {m : MethodId} {args : Array Value} {below : List Frame} {meth : Method} {c : Code} {g : GG} {A : Nat → Prop} {p1 : Int32} {Q : Int32 → St → Prop} (C : MC p s m args meth c cX3_columnsFrom 7 RX3 (some .int) g A) {K27 : Int32 → Int32 → Int32 → Int32 → St → Prop} (hK27 : ∀ (v2 : Int32) (v3 : Int32) (v4 : Int32) (v5 : Int32) (u : St) (H : Heap) (locs : List Loc) (ls : Array Slot), K27 v2 v3 v4 v5 u → WD g A s u H locs → lv_has ls 7 [(0, .ref (gad g 24)), (2, .int v2), (3, .int v3), (4, .int v4), (5, .int v5)] → W p l e rm_X3_columnsFrom s m args below meth c H locs 0 0 (MQ below (va_Qi Q (WQ g) A) args s 0 0 A) (F0 m 27 ls [])) : ∀ (n : Nat), ∀ (v2 : Int32) (v3 : Int32) (v4 : Int32) (v5 : Int32) (v6 : Int32) (u : St) (H : Heap) (locs : List Loc) (ls : Array Slot), wp_X3_columnsFrom_L49 p1 Q K27 n v2 v3 v4 v5 v6 u → WD g A s u H locs → lv_has ls 7 [(0, .ref (gad g 24)), (2, .int v2), (3, .int v3), (4, .int v4), (5, .int v5), (6, .int v6)] → W p l e rm_X3_columnsFrom s m args below meth c H locs 0 0 (MQ below (va_Qi Q (WQ g) A) args s 0 0 A) (F0 m 49 ls []) := by
  intro n
  induction n with
  | zero => intro v2 v3 v4 v5 v6 u H locs ls h; exact False.elim h
  | succ n ih => exact k_X3_columnsFrom_B49 (p1 := p1) C hK27 ih
set_option maxRecDepth 100000 in
theorem k_X3_columnsFrom_B27 {p : Program} {l : Launch} {e : Env} {s : State} {m : MethodId} {args : Array Value} {below : List Frame} {meth : Method} {c : Code} {g : GG} {A : Nat → Prop} {p1 : Int32} {Q : Int32 → St → Prop} (C : MC p s m args meth c cX3_columnsFrom 7 RX3 (some .int) g A) {K27 : Int32 → Int32 → Int32 → Int32 → St → Prop} (hK27 : ∀ (v2 : Int32) (v3 : Int32) (v4 : Int32) (v5 : Int32) (u : St) (H : Heap) (locs : List Loc) (ls : Array Slot), K27 v2 v3 v4 v5 u → WD g A s u H locs → lv_has ls 7 [(0, .ref (gad g 24)), (2, .int v2), (3, .int v3), (4, .int v4), (5, .int v5)] → W p l e rm_X3_columnsFrom s m args below meth c H locs 0 0 (MQ below (va_Qi Q (WQ g) A) args s 0 0 A) (F0 m 27 ls [])) : ∀ (v2 : Int32) (v3 : Int32) (v4 : Int32) (v5 : Int32) (u : St) (H : Heap) (locs : List Loc) (ls : Array Slot), wp_X3_columnsFrom_B27 p1 Q K27 v2 v3 v4 v5 u → WD g A s u H locs → lv_has ls 7 [(0, .ref (gad g 24)), (2, .int v2), (3, .int v3), (4, .int v4), (5, .int v5)] → W p l e rm_X3_columnsFrom s m args below meth c H locs 0 0 (MQ below (va_Qi Q (WQ g) A) args s 0 0 A) (F0 m 27 ls []) := by
  intro v2 v3 v4 v5 u H locs ls h hW hl
  refine lv_iload C.1 C.2.1 dX3_columnsFrom_27 (lv_at hl 4 rfl) ?_
  refine lv_iconst (v := 4) C.1 C.2.1 dX3_columnsFrom_29 (by decide) ?_
  refine lv_icmp_ge (tgt := 105) C.1 C.2.1 dX3_columnsFrom_30 (by decide) (fun c4 => ?_) (fun c4 => ?_)
  · have h := h.1 c4
    refine lv_iload_n C.1 C.2.1 dX3_columnsFrom_105 rfl (lv_at hl 1 rfl) ?_
    exact x_iret C hW h dX3_columnsFrom_106
  · have h := h.2 c4
    refine lv_iload_n C.1 C.2.1 dX3_columnsFrom_33 rfl (lv_at hl 1 rfl) ?_
    refine lv_if_eq (tgt := 105) C.1 C.2.1 dX3_columnsFrom_34 (by decide) (fun c5 => ?_) (fun c5 => ?_)
    · have h := h.1 c5
      refine lv_iload_n C.1 C.2.1 dX3_columnsFrom_105 rfl (lv_at hl 1 rfl) ?_
      exact x_iret C hW h dX3_columnsFrom_106
    · have h := h.2 c5
      refine lv_iload_n C.1 C.2.1 dX3_columnsFrom_37 rfl (lv_at hl 2 rfl) ?_
      refine lv_iload C.1 C.2.1 dX3_columnsFrom_38 (lv_at hl 3 rfl) ?_
      refine lv_icmp_eq (tgt := 105) C.1 C.2.1 dX3_columnsFrom_40 (by decide) (fun c6 => ?_) (fun c6 => ?_)
      · have h := h.1 c6
        refine lv_iload_n C.1 C.2.1 dX3_columnsFrom_105 rfl (lv_at hl 1 rfl) ?_
        exact x_iret C hW h dX3_columnsFrom_106
      · have h := h.2 c6
        refine lv_iload_n C.1 C.2.1 dX3_columnsFrom_43 rfl (lv_at hl 2 rfl) ?_
        refine lv_istore (lv' := [(4, .int v3), (0, .ref (gad g 24)), (2, .int v2), (3, .int v3), (5, .int v5)]) C.1 C.2.1 dX3_columnsFrom_44 hl (by decide) rfl (fun ls hl => ?_)
        refine lv_iconst (v := 0) C.1 C.2.1 dX3_columnsFrom_46 (by decide) ?_
        refine lv_istore (lv' := [(6, .int 0), (4, .int v3), (0, .ref (gad g 24)), (2, .int v2), (3, .int v3), (5, .int v5)]) C.1 C.2.1 dX3_columnsFrom_47 hl (by decide) rfl (fun ls hl => ?_)
        obtain ⟨n, h⟩ := h
        exact k_X3_columnsFrom_L49 C hK27 n v2 v3 v3 v5 0 u _ _ _ h hW (lv_sub hl [2, 3, 4, 1, 5, 0] rfl)
theorem k_X3_columnsFrom_L27 {p : Program} {l : Launch} {e : Env} {s : State} {m : MethodId} {args : Array Value} {below : List Frame} {meth : Method} {c : Code} {g : GG} {A : Nat → Prop} {p1 : Int32} {Q : Int32 → St → Prop} (C : MC p s m args meth c cX3_columnsFrom 7 RX3 (some .int) g A) : ∀ (n : Nat), ∀ (v2 : Int32) (v3 : Int32) (v4 : Int32) (v5 : Int32) (u : St) (H : Heap) (locs : List Loc) (ls : Array Slot), wp_X3_columnsFrom_L27 p1 Q n v2 v3 v4 v5 u → WD g A s u H locs → lv_has ls 7 [(0, .ref (gad g 24)), (2, .int v2), (3, .int v3), (4, .int v4), (5, .int v5)] → W p l e rm_X3_columnsFrom s m args below meth c H locs 0 0 (MQ below (va_Qi Q (WQ g) A) args s 0 0 A) (F0 m 27 ls []) := by
  intro n
  induction n with
  | zero => intro v2 v3 v4 v5 u H locs ls h; exact False.elim h
  | succ n ih => exact k_X3_columnsFrom_B27 (p1 := p1) C ih
set_option maxRecDepth 100000 in
theorem c_X3_columnsFrom (l : Launch) (g : GG) {p1 : Int32} {u : St} {Q : Int32 → St → Prop} (h : wp_X3_columnsFrom p1 u Q) : CI l yX3_columnsFrom cX3_columnsFrom 7 (some .int) rm_X3_columnsFrom g [.ref (gad g 24), .int p1] u Q := by
  refine ent (own := RX3) (Qc := va_Qi Q (WQ g)) (by decide) rfl (Nat.le_of_ble_eq_true rfl) ?_
  intro p e s m below meth c A ls C hl hW
  have hl : lv_has ls 7 [(0, .ref (gad g 24)), (1, .int p1)] := hl
  unfold wp_X3_columnsFrom at h
  refine lv_iload_n C.1 C.2.1 dX3_columnsFrom_0 rfl (lv_at hl 1 rfl) ?_
  refine lv_iconst (v := 4) C.1 C.2.1 dX3_columnsFrom_1 (by decide) ?_
  refine x_SNi (rest := []) C hW (c_X4_within l g h) km_X4_within qmn_X3_66 ⟨rfl, rfl⟩ (by decide) rfl hl.1 rfl (Nat.le_of_ble_eq_true rfl) ⟨Nat.zero_le _, Nat.zero_le _⟩ dX3_columnsFrom_2 (fun r1 u1 H locs h hW => ?_)
  refine lv_if_ne (tgt := 10) C.1 C.2.1 dX3_columnsFrom_5 (by decide) (fun c2 => ?_) (fun c2 => ?_)
  · have h := h.1 c2
    refine lv_aload_n C.1 C.2.1 dX3_columnsFrom_10 rfl (lv_at hl 0 rfl) ?_
    refine fg_X3_18 C hW dX3_columnsFrom_11 ?_
    refine lv_iload_n C.1 C.2.1 dX3_columnsFrom_14 rfl (lv_at hl 1 rfl) ?_
    obtain ⟨h3, h⟩ := h
    refine x_iald C hW g_27 h3 dX3_columnsFrom_15 ?_
    refine lv_istore_n (lv' := [(2, .int (gi u1 27 (Int32.toNatClampNeg p1))), (0, .ref (gad g 24)), (1, .int p1)]) C.1 C.2.1 dX3_columnsFrom_16 rfl hl (by decide) rfl (fun ls hl => ?_)
    refine lv_iconst (v := 1) C.1 C.2.1 dX3_columnsFrom_17 (by decide) ?_
    refine lv_iload_n C.1 C.2.1 dX3_columnsFrom_18 rfl (lv_at hl 2 rfl) ?_
    refine lv_ishl C.1 C.2.1 dX3_columnsFrom_19 ?_
    refine lv_istore_n (lv' := [(3, .int (1 <<< (p1 &&& 31))), (2, .int (gi u1 27 (Int32.toNatClampNeg p1))), (0, .ref (gad g 24)), (1, .int p1)]) C.1 C.2.1 dX3_columnsFrom_20 rfl hl (by decide) rfl (fun ls hl => ?_)
    refine lv_iconst (v := 0) C.1 C.2.1 dX3_columnsFrom_21 (by decide) ?_
    refine lv_istore (lv' := [(4, .int 0), (3, .int (1 <<< (p1 &&& 31))), (2, .int (gi u1 27 (Int32.toNatClampNeg p1))), (0, .ref (gad g 24)), (1, .int p1)]) C.1 C.2.1 dX3_columnsFrom_22 hl (by decide) rfl (fun ls hl => ?_)
    refine lv_iconst (v := 0) C.1 C.2.1 dX3_columnsFrom_24 (by decide) ?_
    refine lv_istore (lv' := [(5, .int 0), (4, .int 0), (3, .int (1 <<< (p1 &&& 31))), (2, .int (gi u1 27 (Int32.toNatClampNeg p1))), (0, .ref (gad g 24)), (1, .int p1)]) C.1 C.2.1 dX3_columnsFrom_25 hl (by decide) rfl (fun ls hl => ?_)
    obtain ⟨n, h⟩ := h
    exact k_X3_columnsFrom_L27 C n (gi u1 27 (Int32.toNatClampNeg p1)) (1 <<< (p1 &&& 31)) 0 0 u1 _ _ _ h hW (lv_sub hl [4, 3, 2, 1, 0] rfl)
  · have h := h.2 c2
    refine lv_iconst (v := 0) C.1 C.2.1 dX3_columnsFrom_8 (by decide) ?_
    exact x_iret C hW h dX3_columnsFrom_9
set_option maxRecDepth 100000 in
theorem k_X3_connect_J127 {p : Program} {l : Launch} {e : Env} {s : State} {m : MethodId} {args : Array Value} {below : List Frame} {meth : Method} {c : Code} {g : GG} {A : Nat → Prop} {p1 : Int32} {Q : St → Prop} (C : MC p s m args meth c cX3_connect 5 RX3 none g A) {K41 : Int32 → Int32 → St → Prop} (hK41 : ∀ (v2 : Int32) (v3 : Int32) (u : St) (H : Heap) (locs : List Loc) (ls : Array Slot), K41 v2 v3 u → WD g A s u H locs → lv_has ls 5 [(0, .ref (gad g 24)), (2, .int v2), (3, .int v3)] → W p l e rm_X3_connect s m args below meth c H locs 0 0 (MQ below (va_Qv Q (WQ g) A) args s 0 0 A) (F0 m 41 ls [])) : ∀ (v2 : Int32) (v3 : Int32) (t0 : Int32) (t1 : Int32) (t2 : Int32) (u : St) (H : Heap) (locs : List Loc) (ls : Array Slot), wp_X3_connect_J127 p1 Q K41 v2 v3 t0 t1 t2 u → WD g A s u H locs → lv_has ls 5 [(0, .ref (gad g 24)), (2, .int v2), (3, .int v3)] → W p l e rm_X3_connect s m args below meth c H locs 0 0 (MQ below (va_Qv Q (WQ g) A) args s 0 0 A) (F0 m 127 ls [.int t0, .int t1, .int t2, .ref (gad g 28)]) := by
  intro v2 v3 t0 t1 t2 u H locs ls h hW hl
  refine lv_ior C.1 C.2.1 dX3_connect_127 ?_
  obtain ⟨h19, h⟩ := h
  refine x_iast C hW g_28 h19 dX3_connect_128 (fun u20 H locs e20 hW => ?_)
  have h := nxt_get h e20
  refine lv_iinc (v := (v3 + 1)) (lv' := [(3, .int (v3 + 1)), (0, .ref (gad g 24)), (2, .int v2)]) C.1 C.2.1 dX3_connect_129 hl (k := 2) rfl rfl (by decide) rfl (fun ls hl => ?_)
  refine lv_goto (tgt := 41) C.1 C.2.1 dX3_connect_132 (by decide) ?_
  exact hK41 v2 (v3 + 1) u20 _ _ _ h hW (lv_sub hl [1, 2, 0] rfl)
set_option maxRecDepth 100000 in
theorem k_X3_connect_B41 {p : Program} {l : Launch} {e : Env} {s : State} {m : MethodId} {args : Array Value} {below : List Frame} {meth : Method} {c : Code} {g : GG} {A : Nat → Prop} {p1 : Int32} {Q : St → Prop} (C : MC p s m args meth c cX3_connect 5 RX3 none g A) {K41 : Int32 → Int32 → St → Prop} (hK41 : ∀ (v2 : Int32) (v3 : Int32) (u : St) (H : Heap) (locs : List Loc) (ls : Array Slot), K41 v2 v3 u → WD g A s u H locs → lv_has ls 5 [(0, .ref (gad g 24)), (2, .int v2), (3, .int v3)] → W p l e rm_X3_connect s m args below meth c H locs 0 0 (MQ below (va_Qv Q (WQ g) A) args s 0 0 A) (F0 m 41 ls [])) : ∀ (v2 : Int32) (v3 : Int32) (u : St) (H : Heap) (locs : List Loc) (ls : Array Slot), wp_X3_connect_B41 p1 Q K41 v2 v3 u → WD g A s u H locs → lv_has ls 5 [(0, .ref (gad g 24)), (2, .int v2), (3, .int v3)] → W p l e rm_X3_connect s m args below meth c H locs 0 0 (MQ below (va_Qv Q (WQ g) A) args s 0 0 A) (F0 m 41 ls []) := by
  intro v2 v3 u H locs ls h hW hl
  refine lv_iload_n C.1 C.2.1 dX3_connect_41 rfl (lv_at hl 2 rfl) ?_
  refine lv_aload_n C.1 C.2.1 dX3_connect_42 rfl (lv_at hl 0 rfl) ?_
  refine fg_X3_27 C hW dX3_connect_43 ?_
  refine lv_icmp_ge (tgt := 135) C.1 C.2.1 dX3_connect_46 (by decide) (fun c6 => ?_) (fun c6 => ?_)
  · have h := h.1 c6
    exact x_vret C hW h dX3_connect_135
  · have h := h.2 c6
    refine lv_iload_n C.1 C.2.1 dX3_connect_49 rfl (lv_at hl 2 rfl) ?_
    refine lv_bipush (v := 7) C.1 C.2.1 dX3_connect_50 (by decide) ?_
    refine lv_icmp_ge (tgt := 135) C.1 C.2.1 dX3_connect_52 (by decide) (fun c7 => ?_) (fun c7 => ?_)
    · have h := h.1 c7
      exact x_vret C hW h dX3_connect_135
    · have h := h.2 c7
      refine lv_aload_n C.1 C.2.1 dX3_connect_55 rfl (lv_at hl 0 rfl) ?_
      refine fg_X3_9 C hW dX3_connect_56 ?_
      refine lv_iload_n C.1 C.2.1 dX3_connect_59 rfl (lv_at hl 2 rfl) ?_
      obtain ⟨h8, h⟩ := h
      refine x_iald C hW g_25 h8 dX3_connect_60 ?_
      refine lv_istore (lv' := [(4, .int (gi u 25 (Int32.toNatClampNeg v3))), (0, .ref (gad g 24)), (2, .int v2), (3, .int v3)]) C.1 C.2.1 dX3_connect_61 hl (by decide) rfl (fun ls hl => ?_)
      refine lv_iload_n C.1 C.2.1 dX3_connect_63 rfl (lv_at hl 2 rfl) ?_
      refine lv_iload_n C.1 C.2.1 dX3_connect_64 rfl (lv_at hl 3 rfl) ?_
      refine lv_ishr C.1 C.2.1 dX3_connect_65 ?_
      refine lv_iconst (v := 1) C.1 C.2.1 dX3_connect_66 (by decide) ?_
      refine lv_iand C.1 C.2.1 dX3_connect_67 ?_
      refine lv_if_eq (tgt := 129) C.1 C.2.1 dX3_connect_68 (by decide) (fun c9 => ?_) (fun c9 => ?_)
      · have h := h.1 c9
        refine lv_iinc (v := (v3 + 1)) (lv' := [(3, .int (v3 + 1)), (4, .int (gi u 25 (Int32.toNatClampNeg v3))), (0, .ref (gad g 24)), (2, .int v2)]) C.1 C.2.1 dX3_connect_129 hl (k := 3) rfl rfl (by decide) rfl (fun ls hl => ?_)
        refine lv_goto (tgt := 41) C.1 C.2.1 dX3_connect_132 (by decide) ?_
        exact hK41 v2 (v3 + 1) u _ _ _ h hW (lv_sub hl [2, 3, 0] rfl)
      · have h := h.2 c9
        refine lv_iload C.1 C.2.1 dX3_connect_71 (lv_at hl 0 rfl) ?_
        refine lv_if_lt (tgt := 129) C.1 C.2.1 dX3_connect_73 (by decide) (fun c10 => ?_) (fun c10 => ?_)
        · have h := h.1 c10
          refine lv_iinc (v := (v3 + 1)) (lv' := [(3, .int (v3 + 1)), (4, .int (gi u 25 (Int32.toNatClampNeg v3))), (0, .ref (gad g 24)), (2, .int v2)]) C.1 C.2.1 dX3_connect_129 hl (k := 3) rfl rfl (by decide) rfl (fun ls hl => ?_)
          refine lv_goto (tgt := 41) C.1 C.2.1 dX3_connect_132 (by decide) ?_
          exact hK41 v2 (v3 + 1) u _ _ _ h hW (lv_sub hl [2, 3, 0] rfl)
        · have h := h.2 c10
          refine lv_iload C.1 C.2.1 dX3_connect_76 (lv_at hl 0 rfl) ?_
          refine lv_iconst (v := 4) C.1 C.2.1 dX3_connect_78 (by decide) ?_
          refine lv_icmp_ge (tgt := 129) C.1 C.2.1 dX3_connect_79 (by decide) (fun c11 => ?_) (fun c11 => ?_)
          · have h := h.1 c11
            refine lv_iinc (v := (v3 + 1)) (lv' := [(3, .int (v3 + 1)), (4, .int (gi u 25 (Int32.toNatClampNeg v3))), (0, .ref (gad g 24)), (2, .int v2)]) C.1 C.2.1 dX3_connect_129 hl (k := 3) rfl rfl (by decide) rfl (fun ls hl => ?_)
            refine lv_goto (tgt := 41) C.1 C.2.1 dX3_connect_132 (by decide) ?_
            exact hK41 v2 (v3 + 1) u _ _ _ h hW (lv_sub hl [2, 3, 0] rfl)
          · have h := h.2 c11
            refine lv_aload_n C.1 C.2.1 dX3_connect_82 rfl (lv_at hl 1 rfl) ?_
            refine fg_X3_18 C hW dX3_connect_83 ?_
            refine lv_iload C.1 C.2.1 dX3_connect_86 (lv_at hl 0 rfl) ?_
            refine lv_dup2_11 C.1 C.2.1 dX3_connect_88 rfl rfl ?_
            obtain ⟨h12, h⟩ := h
            refine x_iald C hW g_27 h12 dX3_connect_89 ?_
            refine lv_aload_n C.1 C.2.1 dX3_connect_90 rfl (lv_at hl 1 rfl) ?_
            refine fg_X3_15 C hW dX3_connect_91 ?_
            refine lv_iload_n C.1 C.2.1 dX3_connect_94 rfl (lv_at hl 3 rfl) ?_
            obtain ⟨h13, h⟩ := h
            refine x_iald C hW g_26 h13 dX3_connect_95 ?_
            refine lv_ior C.1 C.2.1 dX3_connect_96 ?_
            obtain ⟨h14, h⟩ := h
            refine x_iast C hW g_27 h14 dX3_connect_97 (fun u15 H locs e15 hW => ?_)
            have h := nxt_get h e15
            refine lv_aload_n C.1 C.2.1 dX3_connect_98 rfl (lv_at hl 1 rfl) ?_
            refine fg_X3_21 C hW dX3_connect_99 ?_
            refine lv_iload C.1 C.2.1 dX3_connect_102 (lv_at hl 0 rfl) ?_
            refine lv_dup2_11 C.1 C.2.1 dX3_connect_104 rfl rfl ?_
            obtain ⟨h16, h⟩ := h
            refine x_iald C hW g_28 h16 dX3_connect_105 ?_
            refine lv_aload_n C.1 C.2.1 dX3_connect_106 rfl (lv_at hl 1 rfl) ?_
            refine fg_X3_37 C hW dX3_connect_107 ?_
            refine lv_iload_n C.1 C.2.1 dX3_connect_110 rfl (lv_at hl 3 rfl) ?_
            refine lv_ishr C.1 C.2.1 dX3_connect_111 ?_
            refine lv_iconst (v := 1) C.1 C.2.1 dX3_connect_112 (by decide) ?_
            refine lv_iand C.1 C.2.1 dX3_connect_113 ?_
            refine lv_if_eq (tgt := 121) C.1 C.2.1 dX3_connect_114 (by decide) (fun c17 => ?_) (fun c17 => ?_)
            · have h := h.1 c17
              refine lv_aload_n C.1 C.2.1 dX3_connect_121 rfl (lv_at hl 1 rfl) ?_
              refine fg_X3_15 C hW dX3_connect_122 ?_
              refine lv_iload_n C.1 C.2.1 dX3_connect_125 rfl (lv_at hl 3 rfl) ?_
              obtain ⟨h18, h⟩ := h
              refine x_iald C hW g_26 h18 dX3_connect_126 ?_
              exact k_X3_connect_J127 C hK41 v2 v3 (gi u15 26 (Int32.toNatClampNeg v3)) (gi u15 28 (Int32.toNatClampNeg (gi u 25 (Int32.toNatClampNeg v3)))) (gi u 25 (Int32.toNatClampNeg v3)) u15 _ _ _ h hW (lv_sub hl [1, 2, 3] rfl)
            · have h := h.2 c17
              refine lv_iconst (v := 0) C.1 C.2.1 dX3_connect_117 (by decide) ?_
              refine lv_goto (tgt := 127) C.1 C.2.1 dX3_connect_118 (by decide) ?_
              exact k_X3_connect_J127 C hK41 v2 v3 0 (gi u15 28 (Int32.toNatClampNeg (gi u 25 (Int32.toNatClampNeg v3)))) (gi u 25 (Int32.toNatClampNeg v3)) u15 _ _ _ h hW (lv_sub hl [1, 2, 3] rfl)
theorem k_X3_connect_L41 {p : Program} {l : Launch} {e : Env} {s : State} {m : MethodId} {args : Array Value} {below : List Frame} {meth : Method} {c : Code} {g : GG} {A : Nat → Prop} {p1 : Int32} {Q : St → Prop} (C : MC p s m args meth c cX3_connect 5 RX3 none g A) : ∀ (n : Nat), ∀ (v2 : Int32) (v3 : Int32) (u : St) (H : Heap) (locs : List Loc) (ls : Array Slot), wp_X3_connect_L41 p1 Q n v2 v3 u → WD g A s u H locs → lv_has ls 5 [(0, .ref (gad g 24)), (2, .int v2), (3, .int v3)] → W p l e rm_X3_connect s m args below meth c H locs 0 0 (MQ below (va_Qv Q (WQ g) A) args s 0 0 A) (F0 m 41 ls []) := by
  intro n
  induction n with
  | zero => intro v2 v3 u H locs ls h; exact False.elim h
  | succ n ih => exact k_X3_connect_B41 (p1 := p1) C ih
set_option maxRecDepth 100000 in
theorem k_X3_connect_B14 {p : Program} {l : Launch} {e : Env} {s : State} {m : MethodId} {args : Array Value} {below : List Frame} {meth : Method} {c : Code} {g : GG} {A : Nat → Prop} {p1 : Int32} {Q : St → Prop} (C : MC p s m args meth c cX3_connect 5 RX3 none g A) {K14 : Int32 → Int32 → St → Prop} (hK14 : ∀ (v2 : Int32) (v3 : Int32) (u : St) (H : Heap) (locs : List Loc) (ls : Array Slot), K14 v2 v3 u → WD g A s u H locs → lv_has ls 5 [(0, .ref (gad g 24)), (2, .int v2), (3, .int v3)] → W p l e rm_X3_connect s m args below meth c H locs 0 0 (MQ below (va_Qv Q (WQ g) A) args s 0 0 A) (F0 m 14 ls [])) : ∀ (v2 : Int32) (v3 : Int32) (u : St) (H : Heap) (locs : List Loc) (ls : Array Slot), wp_X3_connect_B14 p1 Q K14 v2 v3 u → WD g A s u H locs → lv_has ls 5 [(0, .ref (gad g 24)), (2, .int v2), (3, .int v3)] → W p l e rm_X3_connect s m args below meth c H locs 0 0 (MQ below (va_Qv Q (WQ g) A) args s 0 0 A) (F0 m 14 ls []) := by
  intro v2 v3 u H locs ls h hW hl
  refine lv_iload_n C.1 C.2.1 dX3_connect_14 rfl (lv_at hl 2 rfl) ?_
  refine lv_iconst (v := 4) C.1 C.2.1 dX3_connect_15 (by decide) ?_
  refine lv_icmp_ge (tgt := 39) C.1 C.2.1 dX3_connect_16 (by decide) (fun c1 => ?_) (fun c1 => ?_)
  · have h := h.1 c1
    refine lv_iconst (v := 0) C.1 C.2.1 dX3_connect_39 (by decide) ?_
    refine lv_istore_n (lv' := [(3, .int 0), (0, .ref (gad g 24)), (2, .int v2)]) C.1 C.2.1 dX3_connect_40 rfl hl (by decide) rfl (fun ls hl => ?_)
    obtain ⟨n, h⟩ := h
    exact k_X3_connect_L41 C n v2 0 u _ _ _ h hW (lv_sub hl [1, 2, 0] rfl)
  · have h := h.2 c1
    refine lv_aload_n C.1 C.2.1 dX3_connect_19 rfl (lv_at hl 0 rfl) ?_
    refine fg_X3_18 C hW dX3_connect_20 ?_
    refine lv_iload_n C.1 C.2.1 dX3_connect_23 rfl (lv_at hl 2 rfl) ?_
    refine lv_iconst (v := 0) C.1 C.2.1 dX3_connect_24 (by decide) ?_
    obtain ⟨h2, h⟩ := h
    refine x_iast C hW g_27 h2 dX3_connect_25 (fun u3 H locs e3 hW => ?_)
    have h := nxt_get h e3
    refine lv_aload_n C.1 C.2.1 dX3_connect_26 rfl (lv_at hl 0 rfl) ?_
    refine fg_X3_21 C hW dX3_connect_27 ?_
    refine lv_iload_n C.1 C.2.1 dX3_connect_30 rfl (lv_at hl 2 rfl) ?_
    refine lv_iconst (v := 0) C.1 C.2.1 dX3_connect_31 (by decide) ?_
    obtain ⟨h4, h⟩ := h
    refine x_iast C hW g_28 h4 dX3_connect_32 (fun u5 H locs e5 hW => ?_)
    have h := nxt_get h e5
    refine lv_iinc (v := (v3 + 1)) (lv' := [(3, .int (v3 + 1)), (0, .ref (gad g 24)), (2, .int v2)]) C.1 C.2.1 dX3_connect_33 hl (k := 2) rfl rfl (by decide) rfl (fun ls hl => ?_)
    refine lv_goto (tgt := 14) C.1 C.2.1 dX3_connect_36 (by decide) ?_
    exact hK14 v2 (v3 + 1) u5 _ _ _ h hW (lv_sub hl [1, 2, 0] rfl)
theorem k_X3_connect_L14 {p : Program} {l : Launch} {e : Env} {s : State} {m : MethodId} {args : Array Value} {below : List Frame} {meth : Method} {c : Code} {g : GG} {A : Nat → Prop} {p1 : Int32} {Q : St → Prop} (C : MC p s m args meth c cX3_connect 5 RX3 none g A) : ∀ (n : Nat), ∀ (v2 : Int32) (v3 : Int32) (u : St) (H : Heap) (locs : List Loc) (ls : Array Slot), wp_X3_connect_L14 p1 Q n v2 v3 u → WD g A s u H locs → lv_has ls 5 [(0, .ref (gad g 24)), (2, .int v2), (3, .int v3)] → W p l e rm_X3_connect s m args below meth c H locs 0 0 (MQ below (va_Qv Q (WQ g) A) args s 0 0 A) (F0 m 14 ls []) := by
  intro n
  induction n with
  | zero => intro v2 v3 u H locs ls h; exact False.elim h
  | succ n ih => exact k_X3_connect_B14 (p1 := p1) C ih
set_option maxRecDepth 100000 in
theorem c_X3_connect (l : Launch) (g : GG) {p1 : Int32} {u : St} {Q : St → Prop} (h : wp_X3_connect p1 u Q) : CV l yX3_connect cX3_connect 5 none rm_X3_connect g [.ref (gad g 24), .int p1] u Q := by
  refine ent (own := RX3) (Qc := va_Qv Q (WQ g)) (by decide) rfl (Nat.le_of_ble_eq_true rfl) ?_
  intro p e s m below meth c A ls C hl hW
  have hl : lv_has ls 5 [(0, .ref (gad g 24)), (1, .int p1)] := hl
  unfold wp_X3_connect at h
  refine lv_iload_n C.1 C.2.1 dX3_connect_0 rfl (lv_at hl 1 rfl) ?_
  refine lv_aload_n C.1 C.2.1 dX3_connect_1 rfl (lv_at hl 0 rfl) ?_
  refine fg_X3_31 C hW dX3_connect_2 ?_
  refine lv_iand C.1 C.2.1 dX3_connect_5 ?_
  refine lv_aload_n C.1 C.2.1 dX3_connect_6 rfl (lv_at hl 0 rfl) ?_
  refine fg_X3_34 C hW dX3_connect_7 ?_
  refine lv_ior C.1 C.2.1 dX3_connect_10 ?_
  refine lv_istore_n (lv' := [(2, .int ((p1 &&& (gi u 24 6)) ||| (gi u 24 7))), (0, .ref (gad g 24)), (1, .int p1)]) C.1 C.2.1 dX3_connect_11 rfl hl (by decide) rfl (fun ls hl => ?_)
  refine lv_iconst (v := 0) C.1 C.2.1 dX3_connect_12 (by decide) ?_
  refine lv_istore_n (lv' := [(3, .int 0), (2, .int ((p1 &&& (gi u 24 6)) ||| (gi u 24 7))), (0, .ref (gad g 24)), (1, .int p1)]) C.1 C.2.1 dX3_connect_13 rfl hl (by decide) rfl (fun ls hl => ?_)
  obtain ⟨n, h⟩ := h
  exact k_X3_connect_L14 C n ((p1 &&& (gi u 24 6)) ||| (gi u 24 7)) 0 u _ _ _ h hW (lv_sub hl [2, 1, 0] rfl)
set_option maxRecDepth 100000 in
theorem c_X3_columnsReadBy (l : Launch) (g : GG) {p1 : Int32} {p2 : Int32} {u : St} {Q : Int32 → St → Prop} (h : wp_X3_columnsReadBy p1 p2 u Q) : CI l yX3_columnsReadBy cX3_columnsReadBy 3 (some .int) rm_X3_columnsReadBy g [.ref (gad g 24), .int p1, .int p2] u Q := by
  refine ent (own := RX3) (Qc := va_Qi Q (WQ g)) (by decide) rfl (Nat.le_of_ble_eq_true rfl) ?_
  intro p e s m below meth c A ls C hl hW
  have hl : lv_has ls 3 [(0, .ref (gad g 24)), (1, .int p1), (2, .int p2)] := hl
  unfold wp_X3_columnsReadBy at h
  refine lv_aload_n C.1 C.2.1 dX3_columnsReadBy_0 rfl (lv_at hl 0 rfl) ?_
  refine lv_iload_n C.1 C.2.1 dX3_columnsReadBy_1 rfl (lv_at hl 2 rfl) ?_
  refine x_Vv (rest := []) C hW (c_X3_connect l g h) km_X3_connect oWires rfl qm_X3_69 ⟨rfl, rfl⟩ (by decide) rfl hl.1 rfl (Nat.le_of_ble_eq_true rfl) ⟨Nat.zero_le _, Nat.zero_le _⟩ dX3_columnsReadBy_2 (fun u1 H locs h hW => ?_)
  refine lv_aload_n C.1 C.2.1 dX3_columnsReadBy_5 rfl (lv_at hl 0 rfl) ?_
  refine lv_iload_n C.1 C.2.1 dX3_columnsReadBy_6 rfl (lv_at hl 1 rfl) ?_
  refine x_Vi (rest := []) C hW (c_X3_columnsFrom l g h) km_X3_columnsFrom oWires rfl qm_X3_73 ⟨rfl, rfl⟩ (by decide) rfl hl.1 rfl (Nat.le_of_ble_eq_true rfl) ⟨Nat.zero_le _, Nat.zero_le _⟩ dX3_columnsReadBy_7 (fun r2 u2 H locs h hW => ?_)
  exact x_iret C hW h dX3_columnsReadBy_10
set_option maxRecDepth 100000 in
theorem k_X3_toldOf_B33 {p : Program} {l : Launch} {e : Env} {s : State} {m : MethodId} {args : Array Value} {below : List Frame} {meth : Method} {c : Code} {g : GG} {A : Nat → Prop} {p1 : Int32} {Q : Int32 → St → Prop} (C : MC p s m args meth c cX3_toldOf 5 RX3 (some .int) g A) {K33 : Int32 → Int32 → St → Prop} (hK33 : ∀ (v2 : Int32) (v3 : Int32) (u : St) (H : Heap) (locs : List Loc) (ls : Array Slot), K33 v2 v3 u → WD g A s u H locs → lv_has ls 5 [(0, .ref (gad g 24)), (2, .int v2), (3, .int v3)] → W p l e rm_X3_toldOf s m args below meth c H locs 0 0 (MQ below (va_Qi Q (WQ g) A) args s 0 0 A) (F0 m 33 ls [])) : ∀ (v2 : Int32) (v3 : Int32) (u : St) (H : Heap) (locs : List Loc) (ls : Array Slot), wp_X3_toldOf_B33 p1 Q K33 v2 v3 u → WD g A s u H locs → lv_has ls 5 [(0, .ref (gad g 24)), (2, .int v2), (3, .int v3)] → W p l e rm_X3_toldOf s m args below meth c H locs 0 0 (MQ below (va_Qi Q (WQ g) A) args s 0 0 A) (F0 m 33 ls []) := by
  intro v2 v3 u H locs ls h hW hl
  refine lv_iload_n C.1 C.2.1 dX3_toldOf_33 rfl (lv_at hl 2 rfl) ?_
  refine lv_aload_n C.1 C.2.1 dX3_toldOf_34 rfl (lv_at hl 0 rfl) ?_
  refine fg_X3_27 C hW dX3_toldOf_35 ?_
  refine lv_icmp_ge (tgt := 95) C.1 C.2.1 dX3_toldOf_38 (by decide) (fun c6 => ?_) (fun c6 => ?_)
  · have h := h.1 c6
    refine lv_iload_n C.1 C.2.1 dX3_toldOf_95 rfl (lv_at hl 1 rfl) ?_
    exact x_iret C hW h dX3_toldOf_96
  · have h := h.2 c6
    refine lv_iload_n C.1 C.2.1 dX3_toldOf_41 rfl (lv_at hl 2 rfl) ?_
    refine lv_bipush (v := 7) C.1 C.2.1 dX3_toldOf_42 (by decide) ?_
    refine lv_icmp_ge (tgt := 95) C.1 C.2.1 dX3_toldOf_44 (by decide) (fun c7 => ?_) (fun c7 => ?_)
    · have h := h.1 c7
      refine lv_iload_n C.1 C.2.1 dX3_toldOf_95 rfl (lv_at hl 1 rfl) ?_
      exact x_iret C hW h dX3_toldOf_96
    · have h := h.2 c7
      refine lv_aload_n C.1 C.2.1 dX3_toldOf_47 rfl (lv_at hl 0 rfl) ?_
      refine fg_X3_9 C hW dX3_toldOf_48 ?_
      refine lv_iload_n C.1 C.2.1 dX3_toldOf_51 rfl (lv_at hl 2 rfl) ?_
      obtain ⟨h8, h⟩ := h
      refine x_iald C hW g_25 h8 dX3_toldOf_52 ?_
      refine lv_istore (lv' := [(4, .int (gi u 25 (Int32.toNatClampNeg v3))), (0, .ref (gad g 24)), (2, .int v2), (3, .int v3)]) C.1 C.2.1 dX3_toldOf_53 hl (by decide) rfl (fun ls hl => ?_)
      refine lv_iload C.1 C.2.1 dX3_toldOf_55 (lv_at hl 0 rfl) ?_
      refine lv_if_lt (tgt := 89) C.1 C.2.1 dX3_toldOf_57 (by decide) (fun c9 => ?_) (fun c9 => ?_)
      · have h := h.1 c9
        refine lv_iinc (v := (v3 + 1)) (lv' := [(3, .int (v3 + 1)), (4, .int (gi u 25 (Int32.toNatClampNeg v3))), (0, .ref (gad g 24)), (2, .int v2)]) C.1 C.2.1 dX3_toldOf_89 hl (k := 3) rfl rfl (by decide) rfl (fun ls hl => ?_)
        refine lv_goto (tgt := 33) C.1 C.2.1 dX3_toldOf_92 (by decide) ?_
        exact hK33 v2 (v3 + 1) u _ _ _ h hW (lv_sub hl [2, 3, 0] rfl)
      · have h := h.2 c9
        refine lv_iload C.1 C.2.1 dX3_toldOf_60 (lv_at hl 0 rfl) ?_
        refine lv_iconst (v := 4) C.1 C.2.1 dX3_toldOf_62 (by decide) ?_
        refine lv_icmp_ge (tgt := 89) C.1 C.2.1 dX3_toldOf_63 (by decide) (fun c10 => ?_) (fun c10 => ?_)
        · have h := h.1 c10
          refine lv_iinc (v := (v3 + 1)) (lv' := [(3, .int (v3 + 1)), (4, .int (gi u 25 (Int32.toNatClampNeg v3))), (0, .ref (gad g 24)), (2, .int v2)]) C.1 C.2.1 dX3_toldOf_89 hl (k := 3) rfl rfl (by decide) rfl (fun ls hl => ?_)
          refine lv_goto (tgt := 33) C.1 C.2.1 dX3_toldOf_92 (by decide) ?_
          exact hK33 v2 (v3 + 1) u _ _ _ h hW (lv_sub hl [2, 3, 0] rfl)
        · have h := h.2 c10
          refine lv_aload_n C.1 C.2.1 dX3_toldOf_66 rfl (lv_at hl 1 rfl) ?_
          refine fg_X3_24 C hW dX3_toldOf_67 ?_
          refine lv_iload C.1 C.2.1 dX3_toldOf_70 (lv_at hl 0 rfl) ?_
          obtain ⟨h11, h⟩ := h
          refine x_iald C hW g_29 h11 dX3_toldOf_72 ?_
          refine lv_aload_n C.1 C.2.1 dX3_toldOf_73 rfl (lv_at hl 1 rfl) ?_
          refine fg_X3_15 C hW dX3_toldOf_74 ?_
          refine lv_iload_n C.1 C.2.1 dX3_toldOf_77 rfl (lv_at hl 3 rfl) ?_
          obtain ⟨h12, h⟩ := h
          refine x_iald C hW g_26 h12 dX3_toldOf_78 ?_
          refine lv_iand C.1 C.2.1 dX3_toldOf_79 ?_
          refine lv_if_eq (tgt := 89) C.1 C.2.1 dX3_toldOf_80 (by decide) (fun c13 => ?_) (fun c13 => ?_)
          · have h := h.1 c13
            refine lv_iinc (v := (v3 + 1)) (lv' := [(3, .int (v3 + 1)), (4, .int (gi u 25 (Int32.toNatClampNeg v3))), (0, .ref (gad g 24)), (2, .int v2)]) C.1 C.2.1 dX3_toldOf_89 hl (k := 3) rfl rfl (by decide) rfl (fun ls hl => ?_)
            refine lv_goto (tgt := 33) C.1 C.2.1 dX3_toldOf_92 (by decide) ?_
            exact hK33 v2 (v3 + 1) u _ _ _ h hW (lv_sub hl [2, 3, 0] rfl)
          · have h := h.2 c13
            refine lv_iload_n C.1 C.2.1 dX3_toldOf_83 rfl (lv_at hl 2 rfl) ?_
            refine lv_iconst (v := 1) C.1 C.2.1 dX3_toldOf_84 (by decide) ?_
            refine lv_iload_n C.1 C.2.1 dX3_toldOf_85 rfl (lv_at hl 3 rfl) ?_
            refine lv_ishl C.1 C.2.1 dX3_toldOf_86 ?_
            refine lv_ior C.1 C.2.1 dX3_toldOf_87 ?_
            refine lv_istore_n (lv' := [(2, .int (v2 ||| (1 <<< (v3 &&& 31)))), (4, .int (gi u 25 (Int32.toNatClampNeg v3))), (0, .ref (gad g 24)), (3, .int v3)]) C.1 C.2.1 dX3_toldOf_88 rfl hl (by decide) rfl (fun ls hl => ?_)
            refine lv_iinc (v := (v3 + 1)) (lv' := [(3, .int (v3 + 1)), (2, .int (v2 ||| (1 <<< (v3 &&& 31)))), (4, .int (gi u 25 (Int32.toNatClampNeg v3))), (0, .ref (gad g 24))]) C.1 C.2.1 dX3_toldOf_89 hl (k := 3) rfl rfl (by decide) rfl (fun ls hl => ?_)
            refine lv_goto (tgt := 33) C.1 C.2.1 dX3_toldOf_92 (by decide) ?_
            exact hK33 (v2 ||| (1 <<< (v3 &&& 31))) (v3 + 1) u _ _ _ h hW (lv_sub hl [3, 1, 0] rfl)
theorem k_X3_toldOf_L33 {p : Program} {l : Launch} {e : Env} {s : State} {m : MethodId} {args : Array Value} {below : List Frame} {meth : Method} {c : Code} {g : GG} {A : Nat → Prop} {p1 : Int32} {Q : Int32 → St → Prop} (C : MC p s m args meth c cX3_toldOf 5 RX3 (some .int) g A) : ∀ (n : Nat), ∀ (v2 : Int32) (v3 : Int32) (u : St) (H : Heap) (locs : List Loc) (ls : Array Slot), wp_X3_toldOf_L33 p1 Q n v2 v3 u → WD g A s u H locs → lv_has ls 5 [(0, .ref (gad g 24)), (2, .int v2), (3, .int v3)] → W p l e rm_X3_toldOf s m args below meth c H locs 0 0 (MQ below (va_Qi Q (WQ g) A) args s 0 0 A) (F0 m 33 ls []) := by
  intro n
  induction n with
  | zero => intro v2 v3 u H locs ls h; exact False.elim h
  | succ n ih => exact k_X3_toldOf_B33 (p1 := p1) C ih
set_option maxRecDepth 100000 in
theorem k_X3_toldOf_B7 {p : Program} {l : Launch} {e : Env} {s : State} {m : MethodId} {args : Array Value} {below : List Frame} {meth : Method} {c : Code} {g : GG} {A : Nat → Prop} {p1 : Int32} {Q : Int32 → St → Prop} (C : MC p s m args meth c cX3_toldOf 5 RX3 (some .int) g A) {K7 : Int32 → St → Prop} (hK7 : ∀ (v2 : Int32) (u : St) (H : Heap) (locs : List Loc) (ls : Array Slot), K7 v2 u → WD g A s u H locs → lv_has ls 5 [(0, .ref (gad g 24)), (2, .int v2)] → W p l e rm_X3_toldOf s m args below meth c H locs 0 0 (MQ below (va_Qi Q (WQ g) A) args s 0 0 A) (F0 m 7 ls [])) : ∀ (v2 : Int32) (u : St) (H : Heap) (locs : List Loc) (ls : Array Slot), wp_X3_toldOf_B7 p1 Q K7 v2 u → WD g A s u H locs → lv_has ls 5 [(0, .ref (gad g 24)), (2, .int v2)] → W p l e rm_X3_toldOf s m args below meth c H locs 0 0 (MQ below (va_Qi Q (WQ g) A) args s 0 0 A) (F0 m 7 ls []) := by
  intro v2 u H locs ls h hW hl
  refine lv_iload_n C.1 C.2.1 dX3_toldOf_7 rfl (lv_at hl 1 rfl) ?_
  refine lv_iconst (v := 4) C.1 C.2.1 dX3_toldOf_8 (by decide) ?_
  refine lv_icmp_ge (tgt := 29) C.1 C.2.1 dX3_toldOf_9 (by decide) (fun c2 => ?_) (fun c2 => ?_)
  · have h := h.1 c2
    refine lv_iconst (v := 0) C.1 C.2.1 dX3_toldOf_29 (by decide) ?_
    refine lv_istore_n (lv' := [(2, .int 0), (0, .ref (gad g 24))]) C.1 C.2.1 dX3_toldOf_30 rfl hl (by decide) rfl (fun ls hl => ?_)
    refine lv_iconst (v := 0) C.1 C.2.1 dX3_toldOf_31 (by decide) ?_
    refine lv_istore_n (lv' := [(3, .int 0), (2, .int 0), (0, .ref (gad g 24))]) C.1 C.2.1 dX3_toldOf_32 rfl hl (by decide) rfl (fun ls hl => ?_)
    obtain ⟨n, h⟩ := h
    exact k_X3_toldOf_L33 C n 0 0 u _ _ _ h hW (lv_sub hl [2, 1, 0] rfl)
  · have h := h.2 c2
    refine lv_aload_n C.1 C.2.1 dX3_toldOf_12 rfl (lv_at hl 0 rfl) ?_
    refine fg_X3_24 C hW dX3_toldOf_13 ?_
    refine lv_iload_n C.1 C.2.1 dX3_toldOf_16 rfl (lv_at hl 1 rfl) ?_
    refine lv_aload_n C.1 C.2.1 dX3_toldOf_17 rfl (lv_at hl 0 rfl) ?_
    refine lv_iload_n C.1 C.2.1 dX3_toldOf_18 rfl (lv_at hl 1 rfl) ?_
    refine x_Vi (rest := [.int v2, .ref (gad g 29)]) C hW (c_X3_columnsFrom l g h) km_X3_columnsFrom oWires rfl qm_X3_73 ⟨rfl, rfl⟩ (by decide) rfl hl.1 rfl (Nat.le_of_ble_eq_true rfl) ⟨Nat.zero_le _, Nat.zero_le _⟩ dX3_toldOf_19 (fun r3 u3 H locs h hW => ?_)
    obtain ⟨h4, h⟩ := h
    refine x_iast C hW g_29 h4 dX3_toldOf_22 (fun u5 H locs e5 hW => ?_)
    have h := nxt_get h e5
    refine lv_iinc (v := (v2 + 1)) (lv' := [(2, .int (v2 + 1)), (0, .ref (gad g 24))]) C.1 C.2.1 dX3_toldOf_23 hl (k := 1) rfl rfl (by decide) rfl (fun ls hl => ?_)
    refine lv_goto (tgt := 7) C.1 C.2.1 dX3_toldOf_26 (by decide) ?_
    exact hK7 (v2 + 1) u5 _ _ _ h hW (lv_sub hl [1, 0] rfl)
theorem k_X3_toldOf_L7 {p : Program} {l : Launch} {e : Env} {s : State} {m : MethodId} {args : Array Value} {below : List Frame} {meth : Method} {c : Code} {g : GG} {A : Nat → Prop} {p1 : Int32} {Q : Int32 → St → Prop} (C : MC p s m args meth c cX3_toldOf 5 RX3 (some .int) g A) : ∀ (n : Nat), ∀ (v2 : Int32) (u : St) (H : Heap) (locs : List Loc) (ls : Array Slot), wp_X3_toldOf_L7 p1 Q n v2 u → WD g A s u H locs → lv_has ls 5 [(0, .ref (gad g 24)), (2, .int v2)] → W p l e rm_X3_toldOf s m args below meth c H locs 0 0 (MQ below (va_Qi Q (WQ g) A) args s 0 0 A) (F0 m 7 ls []) := by
  intro n
  induction n with
  | zero => intro v2 u H locs ls h; exact False.elim h
  | succ n ih => exact k_X3_toldOf_B7 (p1 := p1) C ih
set_option maxRecDepth 100000 in
theorem c_X3_toldOf (l : Launch) (g : GG) {p1 : Int32} {u : St} {Q : Int32 → St → Prop} (h : wp_X3_toldOf p1 u Q) : CI l yX3_toldOf cX3_toldOf 5 (some .int) rm_X3_toldOf g [.ref (gad g 24), .int p1] u Q := by
  refine ent (own := RX3) (Qc := va_Qi Q (WQ g)) (by decide) rfl (Nat.le_of_ble_eq_true rfl) ?_
  intro p e s m below meth c A ls C hl hW
  have hl : lv_has ls 5 [(0, .ref (gad g 24)), (1, .int p1)] := hl
  unfold wp_X3_toldOf at h
  refine lv_aload_n C.1 C.2.1 dX3_toldOf_0 rfl (lv_at hl 0 rfl) ?_
  refine lv_iload_n C.1 C.2.1 dX3_toldOf_1 rfl (lv_at hl 1 rfl) ?_
  refine x_Vv (rest := []) C hW (c_X3_connect l g h) km_X3_connect oWires rfl qm_X3_69 ⟨rfl, rfl⟩ (by decide) rfl hl.1 rfl (Nat.le_of_ble_eq_true rfl) ⟨Nat.zero_le _, Nat.zero_le _⟩ dX3_toldOf_2 (fun u1 H locs h hW => ?_)
  refine lv_iconst (v := 0) C.1 C.2.1 dX3_toldOf_5 (by decide) ?_
  refine lv_istore_n (lv' := [(2, .int 0), (0, .ref (gad g 24)), (1, .int p1)]) C.1 C.2.1 dX3_toldOf_6 rfl hl (by decide) rfl (fun ls hl => ?_)
  obtain ⟨n, h⟩ := h
  exact k_X3_toldOf_L7 C n 0 u1 _ _ _ h hW (lv_sub hl [1, 0] rfl)
set_option maxRecDepth 100000 in
theorem k_X4_fillBySet_B25 {p : Program} {l : Launch} {e : Env} {s : State} {m : MethodId} {args : Array Value} {below : List Frame} {meth : Method} {c : Code} {g : GG} {A : Nat → Prop} {Q : St → Prop} (C : MC p s m args meth c cX4_fillBySet 3 RX4 none g A) {K25 : Int32 → Int32 → St → Prop} (hK25 : ∀ (v1 : Int32) (v2 : Int32) (u : St) (H : Heap) (locs : List Loc) (ls : Array Slot), K25 v1 v2 u → WD g A s u H locs → lv_has ls 3 [(0, .ref (gad g 0)), (1, .int v1), (2, .int v2)] → W p l e rm_X4_fillBySet s m args below meth c H locs 0 0 (MQ below (va_Qv Q (WQ g) A) args s 0 0 A) (F0 m 25 ls [])) : ∀ (v1 : Int32) (v2 : Int32) (u : St) (H : Heap) (locs : List Loc) (ls : Array Slot), wp_X4_fillBySet_B25 Q K25 v1 v2 u → WD g A s u H locs → lv_has ls 3 [(0, .ref (gad g 0)), (1, .int v1), (2, .int v2)] → W p l e rm_X4_fillBySet s m args below meth c H locs 0 0 (MQ below (va_Qv Q (WQ g) A) args s 0 0 A) (F0 m 25 ls []) := by
  intro v1 v2 u H locs ls h hW hl
  refine lv_iload_n C.1 C.2.1 dX4_fillBySet_25 rfl (lv_at hl 2 rfl) ?_
  refine lv_iload_n C.1 C.2.1 dX4_fillBySet_26 rfl (lv_at hl 1 rfl) ?_
  refine lv_icmp_ge (tgt := 50) C.1 C.2.1 dX4_fillBySet_27 (by decide) (fun c3 => ?_) (fun c3 => ?_)
  · have h := h.1 c3
    exact x_vret C hW h dX4_fillBySet_50
  · have h := h.2 c3
    refine lv_aload_n C.1 C.2.1 dX4_fillBySet_30 rfl (lv_at hl 0 rfl) ?_
    refine fg_X4_51 C hW dX4_fillBySet_31 ?_
    refine lv_iload_n C.1 C.2.1 dX4_fillBySet_34 rfl (lv_at hl 2 rfl) ?_
    refine lv_aload_n C.1 C.2.1 dX4_fillBySet_35 rfl (lv_at hl 0 rfl) ?_
    refine fg_X4_47 C hW dX4_fillBySet_36 ?_
    refine lv_iload_n C.1 C.2.1 dX4_fillBySet_39 rfl (lv_at hl 2 rfl) ?_
    refine x_Vi (rest := [.int v2, .ref (gad g 30)]) C hW (c_X3_toldOf l g h) km_X3_toldOf oWires rfl qm_X4_219 ⟨rfl, rfl⟩ (by decide) rfl hl.1 rfl (Nat.le_of_ble_eq_true rfl) ⟨Nat.zero_le _, Nat.zero_le _⟩ dX4_fillBySet_40 (fun r4 u4 H locs h hW => ?_)
    obtain ⟨h5, h⟩ := h
    refine x_iast C hW g_30 h5 dX4_fillBySet_43 (fun u6 H locs e6 hW => ?_)
    have h := nxt_get h e6
    refine lv_iinc (v := (v2 + 1)) (lv' := [(2, .int (v2 + 1)), (0, .ref (gad g 0)), (1, .int v1)]) C.1 C.2.1 dX4_fillBySet_44 hl (k := 2) rfl rfl (by decide) rfl (fun ls hl => ?_)
    refine lv_goto (tgt := 25) C.1 C.2.1 dX4_fillBySet_47 (by decide) ?_
    exact hK25 v1 (v2 + 1) u6 _ _ _ h hW (lv_sub hl [1, 2, 0] rfl)
theorem k_X4_fillBySet_L25 {p : Program} {l : Launch} {e : Env} {s : State} {m : MethodId} {args : Array Value} {below : List Frame} {meth : Method} {c : Code} {g : GG} {A : Nat → Prop} {Q : St → Prop} (C : MC p s m args meth c cX4_fillBySet 3 RX4 none g A) : ∀ (n : Nat), ∀ (v1 : Int32) (v2 : Int32) (u : St) (H : Heap) (locs : List Loc) (ls : Array Slot), wp_X4_fillBySet_L25 Q n v1 v2 u → WD g A s u H locs → lv_has ls 3 [(0, .ref (gad g 0)), (1, .int v1), (2, .int v2)] → W p l e rm_X4_fillBySet s m args below meth c H locs 0 0 (MQ below (va_Qv Q (WQ g) A) args s 0 0 A) (F0 m 25 ls []) := by
  intro n
  induction n with
  | zero => intro v1 v2 u H locs ls h; exact False.elim h
  | succ n ih => exact k_X4_fillBySet_B25 C ih
set_option maxRecDepth 100000 in
theorem c_X4_fillBySet (l : Launch) (g : GG) {u : St} {Q : St → Prop} (h : wp_X4_fillBySet u Q) : CV l yX4_fillBySet cX4_fillBySet 3 none rm_X4_fillBySet g [.ref (gad g 0)] u Q := by
  refine ent (own := RX4) (Qc := va_Qv Q (WQ g)) (by decide) rfl (Nat.le_of_ble_eq_true rfl) ?_
  intro p e s m below meth c A ls C hl hW
  have hl : lv_has ls 3 [(0, .ref (gad g 0))] := hl
  unfold wp_X4_fillBySet at h
  refine lv_aload_n C.1 C.2.1 dX4_fillBySet_0 rfl (lv_at hl 0 rfl) ?_
  refine fg_X4_47 C hW dX4_fillBySet_1 ?_
  refine lv_aload_n C.1 C.2.1 dX4_fillBySet_4 rfl (lv_at hl 0 rfl) ?_
  refine fg_X4_27 C hW dX4_fillBySet_5 ?_
  refine lv_aload_n C.1 C.2.1 dX4_fillBySet_8 rfl (lv_at hl 0 rfl) ?_
  refine fg_X4_37 C hW dX4_fillBySet_9 ?_
  refine x_Vv (rest := []) C hW (c_X3_attach l g (Or.inl rfl) (Or.inl rfl) h) km_X3_attach oWires rfl qm_X4_175 ⟨rfl, rfl⟩ (by decide) rfl hl.1 rfl (Nat.le_of_ble_eq_true rfl) ⟨Nat.zero_le _, Nat.zero_le _⟩ dX4_fillBySet_12 (fun u1 H locs h hW => ?_)
  refine lv_aload_n C.1 C.2.1 dX4_fillBySet_15 rfl (lv_at hl 0 rfl) ?_
  refine fg_X4_27 C hW dX4_fillBySet_16 ?_
  refine x_Vi (rest := []) C hW (c_X0_sets l g (Or.inl rfl) h) km_X0_sets (oLay (Or.inl rfl)) rfl qm_X4_216 ⟨rfl, rfl⟩ (by decide) rfl hl.1 rfl (Nat.le_of_ble_eq_true rfl) ⟨Nat.zero_le _, Nat.zero_le _⟩ dX4_fillBySet_19 (fun r2 u2 H locs h hW => ?_)
  refine lv_istore_n (lv' := [(1, .int r2), (0, .ref (gad g 0))]) C.1 C.2.1 dX4_fillBySet_22 rfl hl (by decide) rfl (fun ls hl => ?_)
  refine lv_iconst (v := 0) C.1 C.2.1 dX4_fillBySet_23 (by decide) ?_
  refine lv_istore_n (lv' := [(2, .int 0), (1, .int r2), (0, .ref (gad g 0))]) C.1 C.2.1 dX4_fillBySet_24 rfl hl (by decide) rfl (fun ls hl => ?_)
  obtain ⟨n, h⟩ := h
  exact k_X4_fillBySet_L25 C n r2 0 u2 _ _ _ h hW (lv_sub hl [2, 1, 0] rfl)
set_option maxRecDepth 100000 in
theorem c_X4_toldAt (l : Launch) (g : GG) {b1 : Nat} (hb1 : isMom b1) {u : St} {Q : Int32 → St → Prop} (h : wp_X4_toldAt b1 u Q) : CI l yX4_toldAt cX4_toldAt 2 (some .int) rm_X4_toldAt g [.ref (gad g 0), .ref (gad g b1)] u Q := by
  refine ent (own := RX4) (Qc := va_Qi Q (WQ g)) (by decide) rfl (Nat.le_of_ble_eq_true rfl) ?_
  intro p e s m below meth c A ls C hl hW
  have hl : lv_has ls 2 [(0, .ref (gad g 0)), (1, .ref (gad g b1))] := hl
  unfold wp_X4_toldAt at h
  refine lv_aload_n C.1 C.2.1 dX4_toldAt_0 rfl (lv_at hl 0 rfl) ?_
  refine fg_X4_47 C hW dX4_toldAt_1 ?_
  refine lv_aload_n C.1 C.2.1 dX4_toldAt_4 rfl (lv_at hl 0 rfl) ?_
  refine fg_X4_27 C hW dX4_toldAt_5 ?_
  refine lv_aload_n C.1 C.2.1 dX4_toldAt_8 rfl (lv_at hl 1 rfl) ?_
  refine x_Vv (rest := []) C hW (c_X3_attach l g (Or.inl rfl) hb1 h) km_X3_attach oWires rfl qm_X4_175 ⟨rfl, rfl⟩ (by decide) rfl hl.1 rfl (Nat.le_of_ble_eq_true rfl) ⟨Nat.zero_le _, Nat.zero_le _⟩ dX4_toldAt_9 (fun u1 H locs h hW => ?_)
  refine lv_aload_n C.1 C.2.1 dX4_toldAt_12 rfl (lv_at hl 0 rfl) ?_
  refine fg_X4_47 C hW dX4_toldAt_13 ?_
  refine lv_aload_n C.1 C.2.1 dX4_toldAt_16 rfl (lv_at hl 1 rfl) ?_
  refine fg_X4_179 C hW hb1 dX4_toldAt_17 ?_
  refine x_Vi (rest := []) C hW (c_X3_toldOf l g h) km_X3_toldOf oWires rfl qm_X4_219 ⟨rfl, rfl⟩ (by decide) rfl hl.1 rfl (Nat.le_of_ble_eq_true rfl) ⟨Nat.zero_le _, Nat.zero_le _⟩ dX4_toldAt_20 (fun r2 u2 H locs h hW => ?_)
  exact x_iret C hW h dX4_toldAt_23
set_option maxRecDepth 100000 in
theorem c_X4_toldNow (l : Launch) (g : GG) {u : St} {Q : Int32 → St → Prop} (h : wp_X4_toldNow u Q) : CI l yX4_toldNow cX4_toldNow 1 (some .int) rm_X4_toldNow g [.ref (gad g 0)] u Q := by
  refine ent (own := RX4) (Qc := va_Qi Q (WQ g)) (by decide) rfl (Nat.le_of_ble_eq_true rfl) ?_
  intro p e s m below meth c A ls C hl hW
  have hl : lv_has ls 1 [(0, .ref (gad g 0))] := hl
  unfold wp_X4_toldNow at h
  refine lv_aload_n C.1 C.2.1 dX4_toldNow_0 rfl (lv_at hl 0 rfl) ?_
  refine lv_aload_n C.1 C.2.1 dX4_toldNow_1 rfl (lv_at hl 0 rfl) ?_
  refine fg_X4_37 C hW dX4_toldNow_2 ?_
  refine x_Vi (rest := []) C hW (c_X4_toldAt l g (Or.inl rfl) h) km_X4_toldAt oKeys rfl qm_X4_206 ⟨rfl, rfl⟩ (by decide) rfl hl.1 rfl (Nat.le_of_ble_eq_true rfl) ⟨Nat.zero_le _, Nat.zero_le _⟩ dX4_toldNow_5 (fun r1 u1 H locs h hW => ?_)
  exact x_iret C hW h dX4_toldNow_8
set_option maxRecDepth 100000 in
theorem k_X4_alike_J68 {p : Program} {l : Launch} {e : Env} {s : State} {m : MethodId} {args : Array Value} {below : List Frame} {meth : Method} {c : Code} {g : GG} {A : Nat → Prop} {Q : Int32 → St → Prop} (C : MC p s m args meth c cX4_alike 6 RX4 (some .int) g A) {K39 : Int32 → Int32 → Int32 → Int32 → Int32 → St → Prop} (hK39 : ∀ (v1 : Int32) (v2 : Int32) (v3 : Int32) (v4 : Int32) (v5 : Int32) (u : St) (H : Heap) (locs : List Loc) (ls : Array Slot), K39 v1 v2 v3 v4 v5 u → WD g A s u H locs → lv_has ls 6 [(0, .ref (gad g 0)), (1, .int v1), (2, .int v2), (3, .int v3), (4, .int v4), (5, .int v5)] → W p l e rm_X4_alike s m args below meth c H locs 0 0 (MQ below (va_Qi Q (WQ g) A) args s 0 0 A) (F0 m 39 ls [])) : ∀ (v1 : Int32) (v2 : Int32) (v4 : Int32) (v5 : Int32) (t0 : Int32) (u : St) (H : Heap) (locs : List Loc) (ls : Array Slot), wp_X4_alike_J68 Q K39 v1 v2 v4 v5 t0 u → WD g A s u H locs → lv_has ls 6 [(0, .ref (gad g 0)), (1, .int v1), (2, .int v2), (4, .int v4), (5, .int v5)] → W p l e rm_X4_alike s m args below meth c H locs 0 0 (MQ below (va_Qi Q (WQ g) A) args s 0 0 A) (F0 m 68 ls [.int t0]) := by
  intro v1 v2 v4 v5 t0 u H locs ls h hW hl
  refine lv_istore_n (lv' := [(3, .int t0), (0, .ref (gad g 0)), (1, .int v1), (2, .int v2), (4, .int v4), (5, .int v5)]) C.1 C.2.1 dX4_alike_68 rfl hl (by decide) rfl (fun ls hl => ?_)
  refine lv_iinc (v := (v4 + 1)) (lv' := [(4, .int (v4 + 1)), (3, .int t0), (0, .ref (gad g 0)), (1, .int v1), (2, .int v2), (5, .int v5)]) C.1 C.2.1 dX4_alike_69 hl (k := 4) rfl rfl (by decide) rfl (fun ls hl => ?_)
  refine lv_iinc (v := (v5 + 1)) (lv' := [(5, .int (v5 + 1)), (4, .int (v4 + 1)), (3, .int t0), (0, .ref (gad g 0)), (1, .int v1), (2, .int v2)]) C.1 C.2.1 dX4_alike_72 hl (k := 5) rfl rfl (by decide) rfl (fun ls hl => ?_)
  refine lv_goto (tgt := 39) C.1 C.2.1 dX4_alike_75 (by decide) ?_
  exact hK39 v1 v2 t0 (v4 + 1) (v5 + 1) u _ _ _ h hW (lv_sub hl [3, 4, 5, 2, 1, 0] rfl)
set_option maxRecDepth 100000 in
theorem k_X4_alike_B39 {p : Program} {l : Launch} {e : Env} {s : State} {m : MethodId} {args : Array Value} {below : List Frame} {meth : Method} {c : Code} {g : GG} {A : Nat → Prop} {Q : Int32 → St → Prop} (C : MC p s m args meth c cX4_alike 6 RX4 (some .int) g A) {K39 : Int32 → Int32 → Int32 → Int32 → Int32 → St → Prop} (hK39 : ∀ (v1 : Int32) (v2 : Int32) (v3 : Int32) (v4 : Int32) (v5 : Int32) (u : St) (H : Heap) (locs : List Loc) (ls : Array Slot), K39 v1 v2 v3 v4 v5 u → WD g A s u H locs → lv_has ls 6 [(0, .ref (gad g 0)), (1, .int v1), (2, .int v2), (3, .int v3), (4, .int v4), (5, .int v5)] → W p l e rm_X4_alike s m args below meth c H locs 0 0 (MQ below (va_Qi Q (WQ g) A) args s 0 0 A) (F0 m 39 ls [])) : ∀ (v1 : Int32) (v2 : Int32) (v3 : Int32) (v4 : Int32) (v5 : Int32) (u : St) (H : Heap) (locs : List Loc) (ls : Array Slot), wp_X4_alike_B39 Q K39 v1 v2 v3 v4 v5 u → WD g A s u H locs → lv_has ls 6 [(0, .ref (gad g 0)), (1, .int v1), (2, .int v2), (3, .int v3), (4, .int v4), (5, .int v5)] → W p l e rm_X4_alike s m args below meth c H locs 0 0 (MQ below (va_Qi Q (WQ g) A) args s 0 0 A) (F0 m 39 ls []) := by
  intro v1 v2 v3 v4 v5 u H locs ls h hW hl
  refine lv_iload C.1 C.2.1 dX4_alike_39 (lv_at hl 5 rfl) ?_
  refine lv_iload_n C.1 C.2.1 dX4_alike_41 rfl (lv_at hl 1 rfl) ?_
  refine lv_icmp_ge (tgt := 78) C.1 C.2.1 dX4_alike_42 (by decide) (fun c5 => ?_) (fun c5 => ?_)
  · have h := h.1 c5
    refine lv_aload_n C.1 C.2.1 dX4_alike_78 rfl (lv_at hl 0 rfl) ?_
    refine lv_iload_n C.1 C.2.1 dX4_alike_79 rfl (lv_at hl 3 rfl) ?_
    refine fp_X4_67 C hW dX4_alike_80 (fun u6 H locs e6 hW => ?_)
    have h := nxt_get h e6
    refine lv_iload C.1 C.2.1 dX4_alike_83 (lv_at hl 4 rfl) ?_
    exact x_iret C hW h dX4_alike_85
  · have h := h.2 c5
    refine lv_aload_n C.1 C.2.1 dX4_alike_45 rfl (lv_at hl 0 rfl) ?_
    refine fg_X4_51 C hW dX4_alike_46 ?_
    refine lv_iload C.1 C.2.1 dX4_alike_49 (lv_at hl 5 rfl) ?_
    obtain ⟨h7, h⟩ := h
    refine x_iald C hW g_30 h7 dX4_alike_51 ?_
    refine lv_iload_n C.1 C.2.1 dX4_alike_52 rfl (lv_at hl 2 rfl) ?_
    refine lv_icmp_ne (tgt := 72) C.1 C.2.1 dX4_alike_53 (by decide) (fun c8 => ?_) (fun c8 => ?_)
    · have h := h.1 c8
      refine lv_iinc (v := (v5 + 1)) (lv' := [(5, .int (v5 + 1)), (0, .ref (gad g 0)), (1, .int v1), (2, .int v2), (3, .int v3), (4, .int v4)]) C.1 C.2.1 dX4_alike_72 hl (k := 5) rfl rfl (by decide) rfl (fun ls hl => ?_)
      refine lv_goto (tgt := 39) C.1 C.2.1 dX4_alike_75 (by decide) ?_
      exact hK39 v1 v2 v3 v4 (v5 + 1) u _ _ _ h hW (lv_sub hl [1, 2, 3, 4, 5, 0] rfl)
    · have h := h.2 c8
      refine lv_iload_n C.1 C.2.1 dX4_alike_56 rfl (lv_at hl 3 rfl) ?_
      refine lv_bipush (v := (-9)) C.1 C.2.1 dX4_alike_57 (by decide) ?_
      refine lv_icmp_ne (tgt := 67) C.1 C.2.1 dX4_alike_59 (by decide) (fun c9 => ?_) (fun c9 => ?_)
      · have h := h.1 c9
        refine lv_iload_n C.1 C.2.1 dX4_alike_67 rfl (lv_at hl 3 rfl) ?_
        exact k_X4_alike_J68 C hK39 v1 v2 v4 v5 v3 u _ _ _ h hW (lv_sub hl [0, 1, 2, 4, 5] rfl)
      · have h := h.2 c9
        refine lv_iload C.1 C.2.1 dX4_alike_62 (lv_at hl 5 rfl) ?_
        refine lv_goto (tgt := 68) C.1 C.2.1 dX4_alike_64 (by decide) ?_
        exact k_X4_alike_J68 C hK39 v1 v2 v4 v5 v5 u _ _ _ h hW (lv_sub hl [0, 1, 2, 4, 5] rfl)
theorem k_X4_alike_L39 {p : Program} {l : Launch} {e : Env} {s : State} {m : MethodId} {args : Array Value} {below : List Frame} {meth : Method} {c : Code} {g : GG} {A : Nat → Prop} {Q : Int32 → St → Prop} (C : MC p s m args meth c cX4_alike 6 RX4 (some .int) g A) : ∀ (n : Nat), ∀ (v1 : Int32) (v2 : Int32) (v3 : Int32) (v4 : Int32) (v5 : Int32) (u : St) (H : Heap) (locs : List Loc) (ls : Array Slot), wp_X4_alike_L39 Q n v1 v2 v3 v4 v5 u → WD g A s u H locs → lv_has ls 6 [(0, .ref (gad g 0)), (1, .int v1), (2, .int v2), (3, .int v3), (4, .int v4), (5, .int v5)] → W p l e rm_X4_alike s m args below meth c H locs 0 0 (MQ below (va_Qi Q (WQ g) A) args s 0 0 A) (F0 m 39 ls []) := by
  intro n
  induction n with
  | zero => intro v1 v2 v3 v4 v5 u H locs ls h; exact False.elim h
  | succ n ih => exact k_X4_alike_B39 C ih
set_option maxRecDepth 100000 in
theorem c_X4_alike (l : Launch) (g : GG) {u : St} {Q : Int32 → St → Prop} (h : wp_X4_alike u Q) : CI l yX4_alike cX4_alike 6 (some .int) rm_X4_alike g [.ref (gad g 0)] u Q := by
  refine ent (own := RX4) (Qc := va_Qi Q (WQ g)) (by decide) rfl (Nat.le_of_ble_eq_true rfl) ?_
  intro p e s m below meth c A ls C hl hW
  have hl : lv_has ls 6 [(0, .ref (gad g 0))] := hl
  unfold wp_X4_alike at h
  refine lv_aload_n C.1 C.2.1 dX4_alike_0 rfl (lv_at hl 0 rfl) ?_
  refine fg_X4_27 C hW dX4_alike_1 ?_
  refine fg_X4_137 C hW (Or.inl rfl) dX4_alike_4 ?_
  refine lv_if_ne (tgt := 13) C.1 C.2.1 dX4_alike_7 (by decide) (fun c1 => ?_) (fun c1 => ?_)
  · have h := h.1 c1
    refine lv_aload_n C.1 C.2.1 dX4_alike_13 rfl (lv_at hl 0 rfl) ?_
    refine x_Vv (rest := []) C hW (c_X4_fillBySet l g h) km_X4_fillBySet oKeys rfl qm_X4_225 ⟨rfl, rfl⟩ (by decide) rfl hl.1 rfl (Nat.le_of_ble_eq_true rfl) ⟨Nat.zero_le _, Nat.zero_le _⟩ dX4_alike_14 (fun u2 H locs h hW => ?_)
    refine lv_aload_n C.1 C.2.1 dX4_alike_17 rfl (lv_at hl 0 rfl) ?_
    refine fg_X4_27 C hW dX4_alike_18 ?_
    refine x_Vi (rest := []) C hW (c_X0_sets l g (Or.inl rfl) h) km_X0_sets (oLay (Or.inl rfl)) rfl qm_X4_216 ⟨rfl, rfl⟩ (by decide) rfl hl.1 rfl (Nat.le_of_ble_eq_true rfl) ⟨Nat.zero_le _, Nat.zero_le _⟩ dX4_alike_21 (fun r3 u3 H locs h hW => ?_)
    refine lv_istore_n (lv' := [(1, .int r3), (0, .ref (gad g 0))]) C.1 C.2.1 dX4_alike_24 rfl hl (by decide) rfl (fun ls hl => ?_)
    refine lv_aload_n C.1 C.2.1 dX4_alike_25 rfl (lv_at hl 1 rfl) ?_
    refine x_Vi (rest := []) C hW (c_X4_toldNow l g h) km_X4_toldNow oKeys rfl qm_X4_152 ⟨rfl, rfl⟩ (by decide) rfl hl.1 rfl (Nat.le_of_ble_eq_true rfl) ⟨Nat.zero_le _, Nat.zero_le _⟩ dX4_alike_26 (fun r4 u4 H locs h hW => ?_)
    refine lv_istore_n (lv' := [(2, .int r4), (1, .int r3), (0, .ref (gad g 0))]) C.1 C.2.1 dX4_alike_29 rfl hl (by decide) rfl (fun ls hl => ?_)
    refine lv_bipush (v := (-9)) C.1 C.2.1 dX4_alike_30 (by decide) ?_
    refine lv_istore_n (lv' := [(3, .int (-9)), (2, .int r4), (1, .int r3), (0, .ref (gad g 0))]) C.1 C.2.1 dX4_alike_32 rfl hl (by decide) rfl (fun ls hl => ?_)
    refine lv_iconst (v := 0) C.1 C.2.1 dX4_alike_33 (by decide) ?_
    refine lv_istore (lv' := [(4, .int 0), (3, .int (-9)), (2, .int r4), (1, .int r3), (0, .ref (gad g 0))]) C.1 C.2.1 dX4_alike_34 hl (by decide) rfl (fun ls hl => ?_)
    refine lv_iconst (v := 0) C.1 C.2.1 dX4_alike_36 (by decide) ?_
    refine lv_istore (lv' := [(5, .int 0), (4, .int 0), (3, .int (-9)), (2, .int r4), (1, .int r3), (0, .ref (gad g 0))]) C.1 C.2.1 dX4_alike_37 hl (by decide) rfl (fun ls hl => ?_)
    obtain ⟨n, h⟩ := h
    exact k_X4_alike_L39 C n r3 r4 (-9) 0 0 u4 _ _ _ h hW (lv_sub hl [5, 4, 3, 2, 1, 0] rfl)
  · have h := h.2 c1
    refine lv_bipush (v := (-4)) C.1 C.2.1 dX4_alike_10 (by decide) ?_
    exact x_iret C hW h dX4_alike_12
set_option maxRecDepth 100000 in
theorem c_X4_asked (l : Launch) (g : GG) {u : St} {Q : Int32 → St → Prop} (h : wp_X4_asked u Q) : CI l yX4_asked cX4_asked 1 (some .int) rm_X4_asked g [.ref (gad g 0)] u Q := by
  refine ent (own := RX4) (Qc := va_Qi Q (WQ g)) (by decide) rfl (Nat.le_of_ble_eq_true rfl) ?_
  intro p e s m below meth c A ls C hl hW
  have hl : lv_has ls 1 [(0, .ref (gad g 0))] := hl
  unfold wp_X4_asked at h
  refine lv_aload_n C.1 C.2.1 dX4_asked_0 rfl (lv_at hl 0 rfl) ?_
  refine fg_X4_67 C hW dX4_asked_1 ?_
  exact x_iret C hW h dX4_asked_4
set_option maxRecDepth 100000 in
theorem c_X4_found (l : Launch) (g : GG) {p1 : Int32} {u : St} {Q : Int32 → St → Prop} (h : wp_X4_found p1 u Q) : CI l yX4_found cX4_found 2 (some .int) rm_X4_found g [.ref (gad g 0), .int p1] u Q := by
  refine ent (own := RX4) (Qc := va_Qi Q (WQ g)) (by decide) rfl (Nat.le_of_ble_eq_true rfl) ?_
  intro p e s m below meth c A ls C hl hW
  have hl : lv_has ls 2 [(0, .ref (gad g 0)), (1, .int p1)] := hl
  unfold wp_X4_found at h
  refine lv_aload_n C.1 C.2.1 dX4_found_0 rfl (lv_at hl 0 rfl) ?_
  refine lv_iload_n C.1 C.2.1 dX4_found_1 rfl (lv_at hl 1 rfl) ?_
  refine fp_X4_63 C hW dX4_found_2 (fun u1 H locs e1 hW => ?_)
  have h := nxt_get h e1
  refine lv_iload_n C.1 C.2.1 dX4_found_5 rfl (lv_at hl 1 rfl) ?_
  refine lv_bipush (v := 6) C.1 C.2.1 dX4_found_6 (by decide) ?_
  refine x_Si (rest := []) C hW (c_X4_within l g h) km_X4_within qm_X4_81 ⟨rfl, rfl⟩ (by decide) rfl hl.1 rfl (Nat.le_of_ble_eq_true rfl) ⟨Nat.zero_le _, Nat.zero_le _⟩ dX4_found_8 (fun r2 u2 H locs h hW => ?_)
  refine lv_if_eq (tgt := 24) C.1 C.2.1 dX4_found_11 (by decide) (fun c3 => ?_) (fun c3 => ?_)
  · have h := h.1 c3
    refine lv_bipush (v := (-3)) C.1 C.2.1 dX4_found_24 (by decide) ?_
    exact x_iret C hW h dX4_found_26
  · have h := h.2 c3
    refine lv_aload_n C.1 C.2.1 dX4_found_14 rfl (lv_at hl 0 rfl) ?_
    refine fg_X4_60 C hW dX4_found_15 ?_
    refine lv_iload_n C.1 C.2.1 dX4_found_18 rfl (lv_at hl 1 rfl) ?_
    refine lv_dup2_11 C.1 C.2.1 dX4_found_19 rfl rfl ?_
    obtain ⟨h4, h⟩ := h
    refine x_iald C hW g_38 h4 dX4_found_20 ?_
    refine lv_iconst (v := 1) C.1 C.2.1 dX4_found_21 (by decide) ?_
    refine lv_iadd C.1 C.2.1 dX4_found_22 ?_
    obtain ⟨h5, h⟩ := h
    refine x_iast C hW g_38 h5 dX4_found_23 (fun u6 H locs e6 hW => ?_)
    have h := nxt_get h e6
    refine lv_bipush (v := (-3)) C.1 C.2.1 dX4_found_24 (by decide) ?_
    exact x_iret C hW h dX4_found_26
set_option maxRecDepth 100000 in
theorem c_X4_refuseShelfPlace (l : Launch) (g : GG) {b1 : Nat} {p2 : Int32} (hb1 : isShf b1) {u : St} {Q : Int32 → St → Prop} (h : wp_X4_refuseShelfPlace b1 p2 u Q) : CI l yX4_refuseShelfPlace cX4_refuseShelfPlace 3 (some .int) rm_X4_refuseShelfPlace g [.ref (gad g 0), .ref (gad g b1), .int p2] u Q := by
  refine ent (own := RX4) (Qc := va_Qi Q (WQ g)) (by decide) rfl (Nat.le_of_ble_eq_true rfl) ?_
  intro p e s m below meth c A ls C hl hW
  have hl : lv_has ls 3 [(0, .ref (gad g 0)), (1, .ref (gad g b1)), (2, .int p2)] := hl
  unfold wp_X4_refuseShelfPlace at h
  refine lv_iload_n C.1 C.2.1 dX4_refuseShelfPlace_0 rfl (lv_at hl 2 rfl) ?_
  refine lv_aload_n C.1 C.2.1 dX4_refuseShelfPlace_1 rfl (lv_at hl 1 rfl) ?_
  refine fg_X4_316 C hW hb1 dX4_refuseShelfPlace_2 ?_
  refine x_Si (rest := []) C hW (c_X4_within l g h) km_X4_within qm_X4_81 ⟨rfl, rfl⟩ (by decide) rfl hl.1 rfl (Nat.le_of_ble_eq_true rfl) ⟨Nat.zero_le _, Nat.zero_le _⟩ dX4_refuseShelfPlace_5 (fun r1 u1 H locs h hW => ?_)
  refine lv_if_ne (tgt := 13) C.1 C.2.1 dX4_refuseShelfPlace_8 (by decide) (fun c2 => ?_) (fun c2 => ?_)
  · have h := h.1 c2
    refine lv_aload_n C.1 C.2.1 dX4_refuseShelfPlace_13 rfl (lv_at hl 1 rfl) ?_
    refine lv_iload_n C.1 C.2.1 dX4_refuseShelfPlace_14 rfl (lv_at hl 2 rfl) ?_
    refine x_Vi (rest := []) C hW (c_X2_has l g hb1 h) km_X2_has (oShf hb1) rfl qm_X4_108 ⟨rfl, rfl⟩ (by decide) rfl hl.1 rfl (Nat.le_of_ble_eq_true rfl) ⟨Nat.zero_le _, Nat.zero_le _⟩ dX4_refuseShelfPlace_15 (fun r3 u3 H locs h hW => ?_)
    refine lv_if_eq (tgt := 25) C.1 C.2.1 dX4_refuseShelfPlace_18 (by decide) (fun c4 => ?_) (fun c4 => ?_)
    · have h := h.1 c4
      refine lv_aload_n C.1 C.2.1 dX4_refuseShelfPlace_25 rfl (lv_at hl 0 rfl) ?_
      refine lv_iconst (v := 1) C.1 C.2.1 dX4_refuseShelfPlace_26 (by decide) ?_
      refine x_Vi (rest := []) C hW (c_X4_found l g h) km_X4_found oKeys rfl qm_X4_85 ⟨rfl, rfl⟩ (by decide) rfl hl.1 rfl (Nat.le_of_ble_eq_true rfl) ⟨Nat.zero_le _, Nat.zero_le _⟩ dX4_refuseShelfPlace_27 (fun r5 u5 H locs h hW => ?_)
      exact x_iret C hW h dX4_refuseShelfPlace_30
    · have h := h.2 c4
      refine lv_iconst (v := 0) C.1 C.2.1 dX4_refuseShelfPlace_21 (by decide) ?_
      refine lv_goto (tgt := 30) C.1 C.2.1 dX4_refuseShelfPlace_22 (by decide) ?_
      exact x_iret C hW h dX4_refuseShelfPlace_30
  · have h := h.2 c2
    refine lv_iconst (v := (-1)) C.1 C.2.1 dX4_refuseShelfPlace_11 (by decide) ?_
    exact x_iret C hW h dX4_refuseShelfPlace_12
set_option maxRecDepth 100000 in
theorem c_X4_refusePlace (l : Launch) (g : GG) {b1 : Nat} {p2 : Int32} {p3 : Int32} (hb1 : isShf b1) {u : St} {Q : Int32 → St → Prop} (h : wp_X4_refusePlace b1 p2 p3 u Q) : CI l yX4_refusePlace cX4_refusePlace 5 (some .int) rm_X4_refusePlace g [.ref (gad g 0), .ref (gad g b1), .int p2, .int p3] u Q := by
  refine ent (own := RX4) (Qc := va_Qi Q (WQ g)) (by decide) rfl (Nat.le_of_ble_eq_true rfl) ?_
  intro p e s m below meth c A ls C hl hW
  have hl : lv_has ls 5 [(0, .ref (gad g 0)), (1, .ref (gad g b1)), (2, .int p2), (3, .int p3)] := hl
  unfold wp_X4_refusePlace at h
  refine lv_aload_n C.1 C.2.1 dX4_refusePlace_0 rfl (lv_at hl 0 rfl) ?_
  refine lv_aload_n C.1 C.2.1 dX4_refusePlace_1 rfl (lv_at hl 1 rfl) ?_
  refine lv_iload_n C.1 C.2.1 dX4_refusePlace_2 rfl (lv_at hl 2 rfl) ?_
  refine x_Vi (rest := []) C hW (c_X4_refuseShelfPlace l g hb1 h) km_X4_refuseShelfPlace oKeys rfl qm_X4_100 ⟨rfl, rfl⟩ (by decide) rfl hl.1 rfl (Nat.le_of_ble_eq_true rfl) ⟨Nat.zero_le _, Nat.zero_le _⟩ dX4_refusePlace_3 (fun r1 u1 H locs h hW => ?_)
  refine lv_istore (lv' := [(4, .int r1), (0, .ref (gad g 0)), (1, .ref (gad g b1)), (2, .int p2), (3, .int p3)]) C.1 C.2.1 dX4_refusePlace_6 hl (by decide) rfl (fun ls hl => ?_)
  refine lv_iload C.1 C.2.1 dX4_refusePlace_8 (lv_at hl 0 rfl) ?_
  refine lv_if_eq (tgt := 16) C.1 C.2.1 dX4_refusePlace_10 (by decide) (fun c2 => ?_) (fun c2 => ?_)
  · have h := h.1 c2
    refine lv_iload_n C.1 C.2.1 dX4_refusePlace_16 rfl (lv_at hl 4 rfl) ?_
    refine lv_aload_n C.1 C.2.1 dX4_refusePlace_17 rfl (lv_at hl 2 rfl) ?_
    refine lv_iload_n C.1 C.2.1 dX4_refusePlace_18 rfl (lv_at hl 3 rfl) ?_
    refine x_Vi (rest := [.int p3]) C hW (c_X2_size l g hb1 h) km_X2_size (oShf hb1) rfl qm_X4_120 ⟨rfl, rfl⟩ (by decide) rfl hl.1 rfl (Nat.le_of_ble_eq_true rfl) ⟨Nat.zero_le _, Nat.zero_le _⟩ dX4_refusePlace_19 (fun r3 u3 H locs h hW => ?_)
    refine x_Si (rest := []) C hW (c_X4_within l g h) km_X4_within qm_X4_81 ⟨rfl, rfl⟩ (by decide) rfl hl.1 rfl (Nat.le_of_ble_eq_true rfl) ⟨Nat.zero_le _, Nat.zero_le _⟩ dX4_refusePlace_22 (fun r4 u4 H locs h hW => ?_)
    refine lv_if_eq (tgt := 32) C.1 C.2.1 dX4_refusePlace_25 (by decide) (fun c5 => ?_) (fun c5 => ?_)
    · have h := h.1 c5
      refine lv_aload_n C.1 C.2.1 dX4_refusePlace_32 rfl (lv_at hl 1 rfl) ?_
      refine lv_iconst (v := 2) C.1 C.2.1 dX4_refusePlace_33 (by decide) ?_
      refine x_Vi (rest := []) C hW (c_X4_found l g h) km_X4_found oKeys rfl qm_X4_85 ⟨rfl, rfl⟩ (by decide) rfl hl.1 rfl (Nat.le_of_ble_eq_true rfl) ⟨Nat.zero_le _, Nat.zero_le _⟩ dX4_refusePlace_34 (fun r6 u6 H locs h hW => ?_)
      exact x_iret C hW h dX4_refusePlace_37
    · have h := h.2 c5
      refine lv_iconst (v := 0) C.1 C.2.1 dX4_refusePlace_28 (by decide) ?_
      refine lv_goto (tgt := 37) C.1 C.2.1 dX4_refusePlace_29 (by decide) ?_
      exact x_iret C hW h dX4_refusePlace_37
  · have h := h.2 c2
    refine lv_iload C.1 C.2.1 dX4_refusePlace_13 (lv_at hl 0 rfl) ?_
    exact x_iret C hW h dX4_refusePlace_15
set_option maxRecDepth 100000 in
theorem c_X4_at (l : Launch) (g : GG) {p1 : Int32} {p2 : Int32} {u : St} {Q : Int32 → St → Prop} (h : wp_X4_at p1 p2 u Q) : CI l yX4_at cX4_at 4 (some .int) rm_X4_at g [.ref (gad g 0), .int p1, .int p2] u Q := by
  refine ent (own := RX4) (Qc := va_Qi Q (WQ g)) (by decide) rfl (Nat.le_of_ble_eq_true rfl) ?_
  intro p e s m below meth c A ls C hl hW
  have hl : lv_has ls 4 [(0, .ref (gad g 0)), (1, .int p1), (2, .int p2)] := hl
  unfold wp_X4_at at h
  refine lv_aload_n C.1 C.2.1 dX4_at_0 rfl (lv_at hl 0 rfl) ?_
  refine lv_aload_n C.1 C.2.1 dX4_at_1 rfl (lv_at hl 0 rfl) ?_
  refine fg_X4_14 C hW dX4_at_2 ?_
  refine lv_iload_n C.1 C.2.1 dX4_at_5 rfl (lv_at hl 1 rfl) ?_
  refine lv_iload_n C.1 C.2.1 dX4_at_6 rfl (lv_at hl 2 rfl) ?_
  refine x_Vi (rest := []) C hW (c_X4_refusePlace l g (Or.inl rfl) h) km_X4_refusePlace oKeys rfl qm_X4_89 ⟨rfl, rfl⟩ (by decide) rfl hl.1 rfl (Nat.le_of_ble_eq_true rfl) ⟨Nat.zero_le _, Nat.zero_le _⟩ dX4_at_7 (fun r1 u1 H locs h hW => ?_)
  refine lv_istore_n (lv' := [(3, .int r1), (0, .ref (gad g 0)), (1, .int p1), (2, .int p2)]) C.1 C.2.1 dX4_at_10 rfl hl (by decide) rfl (fun ls hl => ?_)
  refine lv_iload_n C.1 C.2.1 dX4_at_11 rfl (lv_at hl 0 rfl) ?_
  refine lv_if_eq (tgt := 17) C.1 C.2.1 dX4_at_12 (by decide) (fun c2 => ?_) (fun c2 => ?_)
  · have h := h.1 c2
    refine lv_aload_n C.1 C.2.1 dX4_at_17 rfl (lv_at hl 1 rfl) ?_
    refine lv_aload_n C.1 C.2.1 dX4_at_18 rfl (lv_at hl 1 rfl) ?_
    refine fg_X4_14 C hW dX4_at_19 ?_
    refine lv_iload_n C.1 C.2.1 dX4_at_22 rfl (lv_at hl 2 rfl) ?_
    refine lv_iload_n C.1 C.2.1 dX4_at_23 rfl (lv_at hl 3 rfl) ?_
    refine x_Vi (rest := [.ref (gad g 0)]) C hW (c_X2_get l g (Or.inl rfl) h) km_X2_get (oShf (Or.inl rfl)) rfl qm_X4_93 ⟨rfl, rfl⟩ (by decide) rfl hl.1 rfl (Nat.le_of_ble_eq_true rfl) ⟨Nat.zero_le _, Nat.zero_le _⟩ dX4_at_24 (fun r3 u3 H locs h hW => ?_)
    refine fp_X4_67 C hW dX4_at_27 (fun u4 H locs e4 hW => ?_)
    have h := nxt_get h e4
    refine lv_iconst (v := 1) C.1 C.2.1 dX4_at_30 (by decide) ?_
    exact x_iret C hW h dX4_at_31
  · have h := h.2 c2
    refine lv_iload_n C.1 C.2.1 dX4_at_15 rfl (lv_at hl 0 rfl) ?_
    exact x_iret C hW h dX4_at_16
set_option maxRecDepth 100000 in
theorem k_X4_rightSetsOf_B22 {p : Program} {l : Launch} {e : Env} {s : State} {m : MethodId} {args : Array Value} {below : List Frame} {meth : Method} {c : Code} {g : GG} {A : Nat → Prop} {b1 : Nat} (hb1 : isLay b1) {Q : Int32 → St → Prop} (C : MC p s m args meth c cX4_rightSetsOf 5 RX4 (some .int) g A) {K22 : Int32 → Int32 → Int32 → St → Prop} (hK22 : ∀ (v2 : Int32) (v3 : Int32) (v4 : Int32) (u : St) (H : Heap) (locs : List Loc) (ls : Array Slot), K22 v2 v3 v4 u → WD g A s u H locs → lv_has ls 5 [(0, .ref (gad g 0)), (2, .int v2), (3, .int v3), (4, .int v4)] → W p l e rm_X4_rightSetsOf s m args below meth c H locs 0 0 (MQ below (va_Qi Q (WQ g) A) args s 0 0 A) (F0 m 22 ls [])) : ∀ (v2 : Int32) (v3 : Int32) (v4 : Int32) (u : St) (H : Heap) (locs : List Loc) (ls : Array Slot), wp_X4_rightSetsOf_B22 b1 Q K22 v2 v3 v4 u → WD g A s u H locs → lv_has ls 5 [(0, .ref (gad g 0)), (2, .int v2), (3, .int v3), (4, .int v4)] → W p l e rm_X4_rightSetsOf s m args below meth c H locs 0 0 (MQ below (va_Qi Q (WQ g) A) args s 0 0 A) (F0 m 22 ls []) := by
  intro v2 v3 v4 u H locs ls h hW hl
  refine lv_iload C.1 C.2.1 dX4_rightSetsOf_22 (lv_at hl 3 rfl) ?_
  refine lv_iload_n C.1 C.2.1 dX4_rightSetsOf_24 rfl (lv_at hl 2 rfl) ?_
  refine lv_icmp_ge (tgt := 51) C.1 C.2.1 dX4_rightSetsOf_25 (by decide) (fun c3 => ?_) (fun c3 => ?_)
  · have h := h.1 c3
    refine lv_iload_n C.1 C.2.1 dX4_rightSetsOf_51 rfl (lv_at hl 1 rfl) ?_
    exact x_iret C hW h dX4_rightSetsOf_52
  · have h := h.2 c3
    refine lv_aload_n C.1 C.2.1 dX4_rightSetsOf_28 rfl (lv_at hl 0 rfl) ?_
    refine fg_X4_47 C hW dX4_rightSetsOf_29 ?_
    refine lv_iload C.1 C.2.1 dX4_rightSetsOf_32 (lv_at hl 3 rfl) ?_
    refine x_Vi (rest := []) C hW (c_X3_toldOf l g h) km_X3_toldOf oWires rfl qm_X4_219 ⟨rfl, rfl⟩ (by decide) rfl hl.1 rfl (Nat.le_of_ble_eq_true rfl) ⟨Nat.zero_le _, Nat.zero_le _⟩ dX4_rightSetsOf_34 (fun r4 u4 H locs h hW => ?_)
    refine lv_iload C.1 C.2.1 dX4_rightSetsOf_37 (lv_at hl 3 rfl) ?_
    refine lv_icmp_ne (tgt := 45) C.1 C.2.1 dX4_rightSetsOf_39 (by decide) (fun c5 => ?_) (fun c5 => ?_)
    · have h := h.1 c5
      refine lv_iinc (v := (v4 + 1)) (lv' := [(4, .int (v4 + 1)), (0, .ref (gad g 0)), (2, .int v2), (3, .int v3)]) C.1 C.2.1 dX4_rightSetsOf_45 hl (k := 3) rfl rfl (by decide) rfl (fun ls hl => ?_)
      refine lv_goto (tgt := 22) C.1 C.2.1 dX4_rightSetsOf_48 (by decide) ?_
      exact hK22 v2 v3 (v4 + 1) u4 _ _ _ h hW (lv_sub hl [1, 2, 3, 0] rfl)
    · have h := h.2 c5
      refine lv_iinc (v := (v2 + 1)) (lv' := [(2, .int (v2 + 1)), (0, .ref (gad g 0)), (3, .int v3), (4, .int v4)]) C.1 C.2.1 dX4_rightSetsOf_42 hl (k := 1) rfl rfl (by decide) rfl (fun ls hl => ?_)
      refine lv_iinc (v := (v4 + 1)) (lv' := [(4, .int (v4 + 1)), (2, .int (v2 + 1)), (0, .ref (gad g 0)), (3, .int v3)]) C.1 C.2.1 dX4_rightSetsOf_45 hl (k := 3) rfl rfl (by decide) rfl (fun ls hl => ?_)
      refine lv_goto (tgt := 22) C.1 C.2.1 dX4_rightSetsOf_48 (by decide) ?_
      exact hK22 (v2 + 1) v3 (v4 + 1) u4 _ _ _ h hW (lv_sub hl [2, 1, 3, 0] rfl)
theorem k_X4_rightSetsOf_L22 {p : Program} {l : Launch} {e : Env} {s : State} {m : MethodId} {args : Array Value} {below : List Frame} {meth : Method} {c : Code} {g : GG} {A : Nat → Prop} {b1 : Nat} (hb1 : isLay b1) {Q : Int32 → St → Prop} (C : MC p s m args meth c cX4_rightSetsOf 5 RX4 (some .int) g A) : ∀ (n : Nat), ∀ (v2 : Int32) (v3 : Int32) (v4 : Int32) (u : St) (H : Heap) (locs : List Loc) (ls : Array Slot), wp_X4_rightSetsOf_L22 b1 Q n v2 v3 v4 u → WD g A s u H locs → lv_has ls 5 [(0, .ref (gad g 0)), (2, .int v2), (3, .int v3), (4, .int v4)] → W p l e rm_X4_rightSetsOf s m args below meth c H locs 0 0 (MQ below (va_Qi Q (WQ g) A) args s 0 0 A) (F0 m 22 ls []) := by
  intro n
  induction n with
  | zero => intro v2 v3 v4 u H locs ls h; exact False.elim h
  | succ n ih => exact k_X4_rightSetsOf_B22 (b1 := b1) hb1 C ih
set_option maxRecDepth 100000 in
theorem c_X4_rightSetsOf (l : Launch) (g : GG) {b1 : Nat} (hb1 : isLay b1) {u : St} {Q : Int32 → St → Prop} (h : wp_X4_rightSetsOf b1 u Q) : CI l yX4_rightSetsOf cX4_rightSetsOf 5 (some .int) rm_X4_rightSetsOf g [.ref (gad g 0), .ref (gad g b1)] u Q := by
  refine ent (own := RX4) (Qc := va_Qi Q (WQ g)) (by decide) rfl (Nat.le_of_ble_eq_true rfl) ?_
  intro p e s m below meth c A ls C hl hW
  have hl : lv_has ls 5 [(0, .ref (gad g 0)), (1, .ref (gad g b1))] := hl
  unfold wp_X4_rightSetsOf at h
  refine lv_aload_n C.1 C.2.1 dX4_rightSetsOf_0 rfl (lv_at hl 0 rfl) ?_
  refine fg_X4_47 C hW dX4_rightSetsOf_1 ?_
  refine lv_aload_n C.1 C.2.1 dX4_rightSetsOf_4 rfl (lv_at hl 1 rfl) ?_
  refine lv_aload_n C.1 C.2.1 dX4_rightSetsOf_5 rfl (lv_at hl 0 rfl) ?_
  refine fg_X4_37 C hW dX4_rightSetsOf_6 ?_
  refine x_Vv (rest := []) C hW (c_X3_attach l g hb1 (Or.inl rfl) h) km_X3_attach oWires rfl qm_X4_175 ⟨rfl, rfl⟩ (by decide) rfl hl.1 rfl (Nat.le_of_ble_eq_true rfl) ⟨Nat.zero_le _, Nat.zero_le _⟩ dX4_rightSetsOf_9 (fun u1 H locs h hW => ?_)
  refine lv_iconst (v := 0) C.1 C.2.1 dX4_rightSetsOf_12 (by decide) ?_
  refine lv_istore_n (lv' := [(2, .int 0), (0, .ref (gad g 0)), (1, .ref (gad g b1))]) C.1 C.2.1 dX4_rightSetsOf_13 rfl hl (by decide) rfl (fun ls hl => ?_)
  refine lv_aload_n C.1 C.2.1 dX4_rightSetsOf_14 rfl (lv_at hl 2 rfl) ?_
  refine x_Vi (rest := []) C hW (c_X0_sets l g hb1 h) km_X0_sets (oLay hb1) rfl qm_X4_216 ⟨rfl, rfl⟩ (by decide) rfl hl.1 rfl (Nat.le_of_ble_eq_true rfl) ⟨Nat.zero_le _, Nat.zero_le _⟩ dX4_rightSetsOf_15 (fun r2 u2 H locs h hW => ?_)
  refine lv_istore_n (lv' := [(3, .int r2), (2, .int 0), (0, .ref (gad g 0)), (1, .ref (gad g b1))]) C.1 C.2.1 dX4_rightSetsOf_18 rfl hl (by decide) rfl (fun ls hl => ?_)
  refine lv_iconst (v := 0) C.1 C.2.1 dX4_rightSetsOf_19 (by decide) ?_
  refine lv_istore (lv' := [(4, .int 0), (3, .int r2), (2, .int 0), (0, .ref (gad g 0)), (1, .ref (gad g b1))]) C.1 C.2.1 dX4_rightSetsOf_20 hl (by decide) rfl (fun ls hl => ?_)
  obtain ⟨n, h⟩ := h
  exact k_X4_rightSetsOf_L22 hb1 C n 0 r2 0 u2 _ _ _ h hW (lv_sub hl [3, 2, 1, 0] rfl)
set_option maxRecDepth 100000 in
theorem k_X4_best_B27 {p : Program} {l : Launch} {e : Env} {s : State} {m : MethodId} {args : Array Value} {below : List Frame} {meth : Method} {c : Code} {g : GG} {A : Nat → Prop} {Q : Int32 → St → Prop} (C : MC p s m args meth c cX4_best 5 RX4 (some .int) g A) {K27 : Int32 → Int32 → Int32 → St → Prop} (hK27 : ∀ (v1 : Int32) (v2 : Int32) (v3 : Int32) (u : St) (H : Heap) (locs : List Loc) (ls : Array Slot), K27 v1 v2 v3 u → WD g A s u H locs → lv_has ls 5 [(0, .ref (gad g 0)), (1, .int v1), (2, .int v2), (3, .int v3)] → W p l e rm_X4_best s m args below meth c H locs 0 0 (MQ below (va_Qi Q (WQ g) A) args s 0 0 A) (F0 m 27 ls [])) : ∀ (v1 : Int32) (v2 : Int32) (v3 : Int32) (u : St) (H : Heap) (locs : List Loc) (ls : Array Slot), wp_X4_best_B27 Q K27 v1 v2 v3 u → WD g A s u H locs → lv_has ls 5 [(0, .ref (gad g 0)), (1, .int v1), (2, .int v2), (3, .int v3)] → W p l e rm_X4_best s m args below meth c H locs 0 0 (MQ below (va_Qi Q (WQ g) A) args s 0 0 A) (F0 m 27 ls []) := by
  intro v1 v2 v3 u H locs ls h hW hl
  refine lv_iload_n C.1 C.2.1 dX4_best_27 rfl (lv_at hl 3 rfl) ?_
  refine lv_aload_n C.1 C.2.1 dX4_best_28 rfl (lv_at hl 0 rfl) ?_
  refine fg_X4_27 C hW dX4_best_29 ?_
  refine fg_X4_137 C hW (Or.inl rfl) dX4_best_32 ?_
  refine lv_icmp_ge (tgt := 85) C.1 C.2.1 dX4_best_35 (by decide) (fun c3 => ?_) (fun c3 => ?_)
  · have h := h.1 c3
    refine lv_iload_n C.1 C.2.1 dX4_best_85 rfl (lv_at hl 2 rfl) ?_
    refine lv_bipush (v := (-9)) C.1 C.2.1 dX4_best_86 (by decide) ?_
    refine lv_icmp_eq (tgt := 96) C.1 C.2.1 dX4_best_88 (by decide) (fun c4 => ?_) (fun c4 => ?_)
    · have h := h.1 c4
      refine lv_iload_n C.1 C.2.1 dX4_best_96 rfl (lv_at hl 2 rfl) ?_
      exact x_iret C hW h dX4_best_97
    · have h := h.2 c4
      refine lv_aload_n C.1 C.2.1 dX4_best_91 rfl (lv_at hl 0 rfl) ?_
      refine lv_iload_n C.1 C.2.1 dX4_best_92 rfl (lv_at hl 1 rfl) ?_
      refine fp_X4_67 C hW dX4_best_93 (fun u5 H locs e5 hW => ?_)
      have h := nxt_get h e5
      refine lv_iload_n C.1 C.2.1 dX4_best_96 rfl (lv_at hl 2 rfl) ?_
      exact x_iret C hW h dX4_best_97
  · have h := h.2 c3
    refine lv_aload_n C.1 C.2.1 dX4_best_38 rfl (lv_at hl 0 rfl) ?_
    refine fg_X4_31 C hW dX4_best_39 ?_
    refine lv_aload_n C.1 C.2.1 dX4_best_42 rfl (lv_at hl 0 rfl) ?_
    refine fg_X4_27 C hW dX4_best_43 ?_
    refine x_Vv (rest := []) C hW (c_X0_copyFrom l g (Or.inr rfl) (Or.inl rfl) h) km_X0_copyFrom (oLay (Or.inr rfl)) rfl qm_X4_130 ⟨rfl, rfl⟩ (by decide) rfl hl.1 rfl (Nat.le_of_ble_eq_true rfl) ⟨Nat.zero_le _, Nat.zero_le _⟩ dX4_best_46 (fun u6 H locs h hW => ?_)
    refine lv_aload_n C.1 C.2.1 dX4_best_49 rfl (lv_at hl 0 rfl) ?_
    refine fg_X4_31 C hW dX4_best_50 ?_
    refine lv_iload_n C.1 C.2.1 dX4_best_53 rfl (lv_at hl 3 rfl) ?_
    refine lv_iconst (v := 1) C.1 C.2.1 dX4_best_54 (by decide) ?_
    refine x_Vv (rest := []) C hW (c_X0_turnInto l g (Or.inr rfl) h) km_X0_turnInto (oLay (Or.inr rfl)) rfl qm_X4_235 ⟨rfl, rfl⟩ (by decide) rfl hl.1 rfl (Nat.le_of_ble_eq_true rfl) ⟨Nat.zero_le _, Nat.zero_le _⟩ dX4_best_55 (fun u7 H locs h hW => ?_)
    refine lv_aload_n C.1 C.2.1 dX4_best_58 rfl (lv_at hl 0 rfl) ?_
    refine lv_aload_n C.1 C.2.1 dX4_best_59 rfl (lv_at hl 0 rfl) ?_
    refine fg_X4_31 C hW dX4_best_60 ?_
    refine x_Vi (rest := []) C hW (c_X4_rightSetsOf l g (Or.inr rfl) h) km_X4_rightSetsOf oKeys rfl qm_X4_231 ⟨rfl, rfl⟩ (by decide) rfl hl.1 rfl (Nat.le_of_ble_eq_true rfl) ⟨Nat.zero_le _, Nat.zero_le _⟩ dX4_best_63 (fun r8 u8 H locs h hW => ?_)
    refine lv_istore (lv' := [(4, .int r8), (0, .ref (gad g 0)), (1, .int v1), (2, .int v2), (3, .int v3)]) C.1 C.2.1 dX4_best_66 hl (by decide) rfl (fun ls hl => ?_)
    refine lv_iload C.1 C.2.1 dX4_best_68 (lv_at hl 0 rfl) ?_
    refine lv_iload_n C.1 C.2.1 dX4_best_70 rfl (lv_at hl 2 rfl) ?_
    refine lv_icmp_le (tgt := 79) C.1 C.2.1 dX4_best_71 (by decide) (fun c9 => ?_) (fun c9 => ?_)
    · have h := h.1 c9
      refine lv_iinc (v := (v3 + 1)) (lv' := [(3, .int (v3 + 1)), (4, .int r8), (0, .ref (gad g 0)), (1, .int v1), (2, .int v2)]) C.1 C.2.1 dX4_best_79 hl (k := 4) rfl rfl (by decide) rfl (fun ls hl => ?_)
      refine lv_goto (tgt := 27) C.1 C.2.1 dX4_best_82 (by decide) ?_
      exact hK27 v1 v2 (v3 + 1) u8 _ _ _ h hW (lv_sub hl [2, 3, 4, 0] rfl)
    · have h := h.2 c9
      refine lv_iload C.1 C.2.1 dX4_best_74 (lv_at hl 0 rfl) ?_
      refine lv_istore_n (lv' := [(1, .int r8), (4, .int r8), (0, .ref (gad g 0)), (2, .int v2), (3, .int v3)]) C.1 C.2.1 dX4_best_76 rfl hl (by decide) rfl (fun ls hl => ?_)
      refine lv_iload_n C.1 C.2.1 dX4_best_77 rfl (lv_at hl 4 rfl) ?_
      refine lv_istore_n (lv' := [(2, .int v3), (1, .int r8), (4, .int r8), (0, .ref (gad g 0)), (3, .int v3)]) C.1 C.2.1 dX4_best_78 rfl hl (by decide) rfl (fun ls hl => ?_)
      refine lv_iinc (v := (v3 + 1)) (lv' := [(3, .int (v3 + 1)), (2, .int v3), (1, .int r8), (4, .int r8), (0, .ref (gad g 0))]) C.1 C.2.1 dX4_best_79 hl (k := 4) rfl rfl (by decide) rfl (fun ls hl => ?_)
      refine lv_goto (tgt := 27) C.1 C.2.1 dX4_best_82 (by decide) ?_
      exact hK27 r8 v3 (v3 + 1) u8 _ _ _ h hW (lv_sub hl [4, 2, 1, 0] rfl)
theorem k_X4_best_L27 {p : Program} {l : Launch} {e : Env} {s : State} {m : MethodId} {args : Array Value} {below : List Frame} {meth : Method} {c : Code} {g : GG} {A : Nat → Prop} {Q : Int32 → St → Prop} (C : MC p s m args meth c cX4_best 5 RX4 (some .int) g A) : ∀ (n : Nat), ∀ (v1 : Int32) (v2 : Int32) (v3 : Int32) (u : St) (H : Heap) (locs : List Loc) (ls : Array Slot), wp_X4_best_L27 Q n v1 v2 v3 u → WD g A s u H locs → lv_has ls 5 [(0, .ref (gad g 0)), (1, .int v1), (2, .int v2), (3, .int v3)] → W p l e rm_X4_best s m args below meth c H locs 0 0 (MQ below (va_Qi Q (WQ g) A) args s 0 0 A) (F0 m 27 ls []) := by
  intro n
  induction n with
  | zero => intro v1 v2 v3 u H locs ls h; exact False.elim h
  | succ n ih => exact k_X4_best_B27 C ih
set_option maxRecDepth 100000 in
theorem c_X4_best (l : Launch) (g : GG) {u : St} {Q : Int32 → St → Prop} (h : wp_X4_best u Q) : CI l yX4_best cX4_best 5 (some .int) rm_X4_best g [.ref (gad g 0)] u Q := by
  refine ent (own := RX4) (Qc := va_Qi Q (WQ g)) (by decide) rfl (Nat.le_of_ble_eq_true rfl) ?_
  intro p e s m below meth c A ls C hl hW
  have hl : lv_has ls 5 [(0, .ref (gad g 0))] := hl
  unfold wp_X4_best at h
  refine lv_aload_n C.1 C.2.1 dX4_best_0 rfl (lv_at hl 0 rfl) ?_
  refine fg_X4_27 C hW dX4_best_1 ?_
  refine fg_X4_137 C hW (Or.inl rfl) dX4_best_4 ?_
  refine lv_if_ne (tgt := 13) C.1 C.2.1 dX4_best_7 (by decide) (fun c1 => ?_) (fun c1 => ?_)
  · have h := h.1 c1
    refine lv_aload_n C.1 C.2.1 dX4_best_13 rfl (lv_at hl 0 rfl) ?_
    refine lv_aload_n C.1 C.2.1 dX4_best_14 rfl (lv_at hl 0 rfl) ?_
    refine fg_X4_27 C hW dX4_best_15 ?_
    refine x_Vi (rest := []) C hW (c_X4_rightSetsOf l g (Or.inl rfl) h) km_X4_rightSetsOf oKeys rfl qm_X4_231 ⟨rfl, rfl⟩ (by decide) rfl hl.1 rfl (Nat.le_of_ble_eq_true rfl) ⟨Nat.zero_le _, Nat.zero_le _⟩ dX4_best_18 (fun r2 u2 H locs h hW => ?_)
    refine lv_istore_n (lv' := [(1, .int r2), (0, .ref (gad g 0))]) C.1 C.2.1 dX4_best_21 rfl hl (by decide) rfl (fun ls hl => ?_)
    refine lv_bipush (v := (-9)) C.1 C.2.1 dX4_best_22 (by decide) ?_
    refine lv_istore_n (lv' := [(2, .int (-9)), (1, .int r2), (0, .ref (gad g 0))]) C.1 C.2.1 dX4_best_24 rfl hl (by decide) rfl (fun ls hl => ?_)
    refine lv_iconst (v := 0) C.1 C.2.1 dX4_best_25 (by decide) ?_
    refine lv_istore_n (lv' := [(3, .int 0), (2, .int (-9)), (1, .int r2), (0, .ref (gad g 0))]) C.1 C.2.1 dX4_best_26 rfl hl (by decide) rfl (fun ls hl => ?_)
    obtain ⟨n, h⟩ := h
    exact k_X4_best_L27 C n r2 (-9) 0 u2 _ _ _ h hW (lv_sub hl [3, 2, 1, 0] rfl)
  · have h := h.2 c1
    refine lv_bipush (v := (-4)) C.1 C.2.1 dX4_best_10 (by decide) ?_
    exact x_iret C hW h dX4_best_12
set_option maxRecDepth 100000 in
theorem k_X4_board_B56 {p : Program} {l : Launch} {e : Env} {s : State} {m : MethodId} {args : Array Value} {below : List Frame} {meth : Method} {c : Code} {g : GG} {A : Nat → Prop} {p1 : Int32} {Q : Int32 → St → Prop} (C : MC p s m args meth c cX4_board 4 RX4 (some .int) g A) {K56 : Int32 → St → Prop} (hK56 : ∀ (v3 : Int32) (u : St) (H : Heap) (locs : List Loc) (ls : Array Slot), K56 v3 u → WD g A s u H locs → lv_has ls 4 [(0, .ref (gad g 0)), (3, .int v3)] → W p l e rm_X4_board s m args below meth c H locs 0 0 (MQ below (va_Qi Q (WQ g) A) args s 0 0 A) (F0 m 56 ls [])) : ∀ (v3 : Int32) (u : St) (H : Heap) (locs : List Loc) (ls : Array Slot), wp_X4_board_B56 p1 Q K56 v3 u → WD g A s u H locs → lv_has ls 4 [(0, .ref (gad g 0)), (3, .int v3)] → W p l e rm_X4_board s m args below meth c H locs 0 0 (MQ below (va_Qi Q (WQ g) A) args s 0 0 A) (F0 m 56 ls []) := by
  intro v3 u H locs ls h hW hl
  refine lv_iload_n C.1 C.2.1 dX4_board_56 rfl (lv_at hl 1 rfl) ?_
  refine lv_iconst (v := 3) C.1 C.2.1 dX4_board_57 (by decide) ?_
  refine lv_icmp_ge (tgt := 75) C.1 C.2.1 dX4_board_58 (by decide) (fun c7 => ?_) (fun c7 => ?_)
  · have h := h.1 c7
    refine lv_aload_n C.1 C.2.1 dX4_board_75 rfl (lv_at hl 0 rfl) ?_
    refine fg_X4_21 C hW dX4_board_76 ?_
    refine lv_iconst (v := 3) C.1 C.2.1 dX4_board_79 (by decide) ?_
    refine lv_iconst (v := 0) C.1 C.2.1 dX4_board_80 (by decide) ?_
    refine lv_iconst (v := 0) C.1 C.2.1 dX4_board_81 (by decide) ?_
    refine x_Vv (rest := []) C hW (c_X2_make l g (Or.inr (Or.inr rfl)) h) km_X2_make (oShf (Or.inr (Or.inr rfl))) rfl qm_X4_77 ⟨rfl, rfl⟩ (by decide) rfl hl.1 rfl (Nat.le_of_ble_eq_true rfl) ⟨Nat.zero_le _, Nat.zero_le _⟩ dX4_board_82 (fun u8 H locs h hW => ?_)
    refine lv_aload_n C.1 C.2.1 dX4_board_85 rfl (lv_at hl 0 rfl) ?_
    refine fg_X4_27 C hW dX4_board_86 ?_
    refine fg_X4_137 C hW (Or.inl rfl) dX4_board_89 ?_
    exact x_iret C hW h dX4_board_92
  · have h := h.2 c7
    refine lv_aload_n C.1 C.2.1 dX4_board_61 rfl (lv_at hl 0 rfl) ?_
    refine fg_X4_21 C hW dX4_board_62 ?_
    refine lv_iload_n C.1 C.2.1 dX4_board_65 rfl (lv_at hl 1 rfl) ?_
    refine x_Vv (rest := []) C hW (c_X2_remove l g (Or.inr (Or.inr rfl)) h) km_X2_remove (oShf (Or.inr (Or.inr rfl))) rfl qm_X4_104 ⟨rfl, rfl⟩ (by decide) rfl hl.1 rfl (Nat.le_of_ble_eq_true rfl) ⟨Nat.zero_le _, Nat.zero_le _⟩ dX4_board_66 (fun u9 H locs h hW => ?_)
    refine lv_iinc (v := (v3 + 1)) (lv' := [(3, .int (v3 + 1)), (0, .ref (gad g 0))]) C.1 C.2.1 dX4_board_69 hl (k := 1) rfl rfl (by decide) rfl (fun ls hl => ?_)
    refine lv_goto (tgt := 56) C.1 C.2.1 dX4_board_72 (by decide) ?_
    exact hK56 (v3 + 1) u9 _ _ _ h hW (lv_sub hl [1, 0] rfl)
theorem k_X4_board_L56 {p : Program} {l : Launch} {e : Env} {s : State} {m : MethodId} {args : Array Value} {below : List Frame} {meth : Method} {c : Code} {g : GG} {A : Nat → Prop} {p1 : Int32} {Q : Int32 → St → Prop} (C : MC p s m args meth c cX4_board 4 RX4 (some .int) g A) : ∀ (n : Nat), ∀ (v3 : Int32) (u : St) (H : Heap) (locs : List Loc) (ls : Array Slot), wp_X4_board_L56 p1 Q n v3 u → WD g A s u H locs → lv_has ls 4 [(0, .ref (gad g 0)), (3, .int v3)] → W p l e rm_X4_board s m args below meth c H locs 0 0 (MQ below (va_Qi Q (WQ g) A) args s 0 0 A) (F0 m 56 ls []) := by
  intro n
  induction n with
  | zero => intro v3 u H locs ls h; exact False.elim h
  | succ n ih => exact k_X4_board_B56 (p1 := p1) C ih
set_option maxRecDepth 100000 in
theorem c_X4_board (l : Launch) (g : GG) {p1 : Int32} {u : St} {Q : Int32 → St → Prop} (h : wp_X4_board p1 u Q) : CI l yX4_board cX4_board 4 (some .int) rm_X4_board g [.ref (gad g 0), .int p1] u Q := by
  refine ent (own := RX4) (Qc := va_Qi Q (WQ g)) (by decide) rfl (Nat.le_of_ble_eq_true rfl) ?_
  intro p e s m below meth c A ls C hl hW
  have hl : lv_has ls 4 [(0, .ref (gad g 0)), (1, .int p1)] := hl
  unfold wp_X4_board at h
  refine lv_aload_n C.1 C.2.1 dX4_board_0 rfl (lv_at hl 0 rfl) ?_
  refine lv_aload_n C.1 C.2.1 dX4_board_1 rfl (lv_at hl 0 rfl) ?_
  refine fg_X4_18 C hW dX4_board_2 ?_
  refine lv_iload_n C.1 C.2.1 dX4_board_5 rfl (lv_at hl 1 rfl) ?_
  refine x_Vi (rest := []) C hW (c_X4_refuseShelfPlace l g (Or.inr (Or.inl rfl)) h) km_X4_refuseShelfPlace oKeys rfl qm_X4_100 ⟨rfl, rfl⟩ (by decide) rfl hl.1 rfl (Nat.le_of_ble_eq_true rfl) ⟨Nat.zero_le _, Nat.zero_le _⟩ dX4_board_6 (fun r1 u1 H locs h hW => ?_)
  refine lv_istore_n (lv' := [(2, .int r1), (0, .ref (gad g 0)), (1, .int p1)]) C.1 C.2.1 dX4_board_9 rfl hl (by decide) rfl (fun ls hl => ?_)
  refine lv_iload_n C.1 C.2.1 dX4_board_10 rfl (lv_at hl 0 rfl) ?_
  refine lv_if_eq (tgt := 16) C.1 C.2.1 dX4_board_11 (by decide) (fun c2 => ?_) (fun c2 => ?_)
  · have h := h.1 c2
    refine lv_aload_n C.1 C.2.1 dX4_board_16 rfl (lv_at hl 1 rfl) ?_
    refine fg_X4_31 C hW dX4_board_17 ?_
    refine lv_aload_n C.1 C.2.1 dX4_board_20 rfl (lv_at hl 1 rfl) ?_
    refine fg_X4_18 C hW dX4_board_21 ?_
    refine lv_iload_n C.1 C.2.1 dX4_board_24 rfl (lv_at hl 2 rfl) ?_
    refine x_Vi (rest := []) C hW (c_X0_readFrom l g (Or.inr rfl) (Or.inr (Or.inl rfl)) h) km_X0_readFrom (oLay (Or.inr rfl)) rfl qm_X4_127 ⟨rfl, rfl⟩ (by decide) rfl hl.1 rfl (Nat.le_of_ble_eq_true rfl) ⟨Nat.zero_le _, Nat.zero_le _⟩ dX4_board_25 (fun r3 u3 H locs h hW => ?_)
    refine lv_bipush (v := (-9)) C.1 C.2.1 dX4_board_28 (by decide) ?_
    refine lv_icmp_eq (tgt := 36) C.1 C.2.1 dX4_board_30 (by decide) (fun c4 => ?_) (fun c4 => ?_)
    · have h := h.1 c4
      refine lv_aload_n C.1 C.2.1 dX4_board_36 rfl (lv_at hl 1 rfl) ?_
      refine fg_X4_27 C hW dX4_board_37 ?_
      refine lv_aload_n C.1 C.2.1 dX4_board_40 rfl (lv_at hl 1 rfl) ?_
      refine fg_X4_31 C hW dX4_board_41 ?_
      refine x_Vv (rest := []) C hW (c_X0_copyFrom l g (Or.inl rfl) (Or.inr rfl) h) km_X0_copyFrom (oLay (Or.inl rfl)) rfl qm_X4_130 ⟨rfl, rfl⟩ (by decide) rfl hl.1 rfl (Nat.le_of_ble_eq_true rfl) ⟨Nat.zero_le _, Nat.zero_le _⟩ dX4_board_44 (fun u5 H locs h hW => ?_)
      refine lv_aload_n C.1 C.2.1 dX4_board_47 rfl (lv_at hl 1 rfl) ?_
      refine fg_X4_37 C hW dX4_board_48 ?_
      refine x_Vv (rest := []) C hW (c_X1_reset l g (Or.inl rfl) h) km_X1_reset (oMom (Or.inl rfl)) rfl qm_X4_134 ⟨rfl, rfl⟩ (by decide) rfl hl.1 rfl (Nat.le_of_ble_eq_true rfl) ⟨Nat.zero_le _, Nat.zero_le _⟩ dX4_board_51 (fun u6 H locs h hW => ?_)
      refine lv_iconst (v := 0) C.1 C.2.1 dX4_board_54 (by decide) ?_
      refine lv_istore_n (lv' := [(3, .int 0), (2, .int r1), (0, .ref (gad g 0)), (1, .int p1)]) C.1 C.2.1 dX4_board_55 rfl hl (by decide) rfl (fun ls hl => ?_)
      obtain ⟨n, h⟩ := h
      exact k_X4_board_L56 C n 0 u6 _ _ _ h hW (lv_sub hl [2, 0] rfl)
    · have h := h.2 c4
      refine lv_bipush (v := (-4)) C.1 C.2.1 dX4_board_33 (by decide) ?_
      exact x_iret C hW h dX4_board_35
  · have h := h.2 c2
    refine lv_iload_n C.1 C.2.1 dX4_board_14 rfl (lv_at hl 0 rfl) ?_
    exact x_iret C hW h dX4_board_15
set_option maxRecDepth 100000 in
theorem k_X4_copy_J88 {p : Program} {l : Launch} {e : Env} {s : State} {m : MethodId} {args : Array Value} {below : List Frame} {meth : Method} {c : Code} {g : GG} {A : Nat → Prop} {p1 : Int32} {p2 : Int32} {p3 : Int32} {p4 : Int32} {p5 : Int32} {Q : Int32 → St → Prop} (C : MC p s m args meth c cX4_copy 6 RX4 (some .int) g A) : ∀ (u : St) (H : Heap) (locs : List Loc) (ls : Array Slot), wp_X4_copy_J88 p1 p2 p3 p4 p5 Q u → WD g A s u H locs → lv_has ls 6 [(0, .ref (gad g 0))] → W p l e rm_X4_copy s m args below meth c H locs 0 0 (MQ below (va_Qi Q (WQ g) A) args s 0 0 A) (F0 m 88 ls []) := by
  intro u H locs ls h hW hl
  refine lv_aload_n C.1 C.2.1 dX4_copy_88 rfl (lv_at hl 0 rfl) ?_
  refine lv_iconst (v := 2) C.1 C.2.1 dX4_copy_89 (by decide) ?_
  refine x_Vi (rest := []) C hW (c_X4_found l g h) km_X4_found oKeys rfl qm_X4_85 ⟨rfl, rfl⟩ (by decide) rfl hl.1 rfl (Nat.le_of_ble_eq_true rfl) ⟨Nat.zero_le _, Nat.zero_le _⟩ dX4_copy_90 (fun r16 u16 H locs h hW => ?_)
  exact x_iret C hW h dX4_copy_93
set_option maxRecDepth 100000 in
theorem k_X4_copy_J53 {p : Program} {l : Launch} {e : Env} {s : State} {m : MethodId} {args : Array Value} {below : List Frame} {meth : Method} {c : Code} {g : GG} {A : Nat → Prop} {p1 : Int32} {p2 : Int32} {p3 : Int32} {p4 : Int32} {p5 : Int32} {Q : Int32 → St → Prop} (C : MC p s m args meth c cX4_copy 6 RX4 (some .int) g A) : ∀ (u : St) (H : Heap) (locs : List Loc) (ls : Array Slot), wp_X4_copy_J53 p1 p2 p3 p4 p5 Q u → WD g A s u H locs → lv_has ls 6 [(0, .ref (gad g 0))] → W p l e rm_X4_copy s m args below meth c H locs 0 0 (MQ below (va_Qi Q (WQ g) A) args s 0 0 A) (F0 m 53 ls []) := by
  intro u H locs ls h hW hl
  refine lv_aload_n C.1 C.2.1 dX4_copy_53 rfl (lv_at hl 0 rfl) ?_
  refine lv_iconst (v := 1) C.1 C.2.1 dX4_copy_54 (by decide) ?_
  refine x_Vi (rest := []) C hW (c_X4_found l g h) km_X4_found oKeys rfl qm_X4_85 ⟨rfl, rfl⟩ (by decide) rfl hl.1 rfl (Nat.le_of_ble_eq_true rfl) ⟨Nat.zero_le _, Nat.zero_le _⟩ dX4_copy_55 (fun r17 u17 H locs h hW => ?_)
  exact x_iret C hW h dX4_copy_58
set_option maxRecDepth 100000 in
theorem c_X4_copy (l : Launch) (g : GG) {p1 : Int32} {p2 : Int32} {p3 : Int32} {p4 : Int32} {p5 : Int32} {u : St} {Q : Int32 → St → Prop} (h : wp_X4_copy p1 p2 p3 p4 p5 u Q) : CI l yX4_copy cX4_copy 6 (some .int) rm_X4_copy g [.ref (gad g 0), .int p1, .int p2, .int p3, .int p4, .int p5] u Q := by
  refine ent (own := RX4) (Qc := va_Qi Q (WQ g)) (by decide) rfl (Nat.le_of_ble_eq_true rfl) ?_
  intro p e s m below meth c A ls C hl hW
  have hl : lv_has ls 6 [(0, .ref (gad g 0)), (1, .int p1), (2, .int p2), (3, .int p3), (4, .int p4), (5, .int p5)] := hl
  unfold wp_X4_copy at h
  refine lv_iload_n C.1 C.2.1 dX4_copy_0 rfl (lv_at hl 1 rfl) ?_
  refine lv_bipush (v := 6) C.1 C.2.1 dX4_copy_1 (by decide) ?_
  refine x_Si (rest := []) C hW (c_X4_within l g h) km_X4_within qm_X4_81 ⟨rfl, rfl⟩ (by decide) rfl hl.1 rfl (Nat.le_of_ble_eq_true rfl) ⟨Nat.zero_le _, Nat.zero_le _⟩ dX4_copy_3 (fun r1 u1 H locs h hW => ?_)
  refine lv_if_eq (tgt := 18) C.1 C.2.1 dX4_copy_6 (by decide) (fun c2 => ?_) (fun c2 => ?_)
  · have h := h.1 c2
    refine lv_iconst (v := (-1)) C.1 C.2.1 dX4_copy_18 (by decide) ?_
    exact x_iret C hW h dX4_copy_19
  · have h := h.2 c2
    refine lv_iload_n C.1 C.2.1 dX4_copy_9 rfl (lv_at hl 3 rfl) ?_
    refine lv_bipush (v := 6) C.1 C.2.1 dX4_copy_10 (by decide) ?_
    refine x_Si (rest := []) C hW (c_X4_within l g h) km_X4_within qm_X4_81 ⟨rfl, rfl⟩ (by decide) rfl hl.1 rfl (Nat.le_of_ble_eq_true rfl) ⟨Nat.zero_le _, Nat.zero_le _⟩ dX4_copy_12 (fun r3 u3 H locs h hW => ?_)
    refine lv_if_ne (tgt := 20) C.1 C.2.1 dX4_copy_15 (by decide) (fun c4 => ?_) (fun c4 => ?_)
    · have h := h.1 c4
      refine lv_iload C.1 C.2.1 dX4_copy_20 (lv_at hl 5 rfl) ?_
      refine lv_if_ge (tgt := 31) C.1 C.2.1 dX4_copy_22 (by decide) (fun c5 => ?_) (fun c5 => ?_)
      · have h := h.1 c5
        refine lv_aload_n C.1 C.2.1 dX4_copy_31 rfl (lv_at hl 0 rfl) ?_
        refine fg_X4_14 C hW dX4_copy_32 ?_
        refine lv_iload_n C.1 C.2.1 dX4_copy_35 rfl (lv_at hl 1 rfl) ?_
        refine x_Vi (rest := []) C hW (c_X2_has l g (Or.inl rfl) h) km_X2_has (oShf (Or.inl rfl)) rfl qm_X4_108 ⟨rfl, rfl⟩ (by decide) rfl hl.1 rfl (Nat.le_of_ble_eq_true rfl) ⟨Nat.zero_le _, Nat.zero_le _⟩ dX4_copy_36 (fun r6 u6 H locs h hW => ?_)
        refine lv_if_eq (tgt := 53) C.1 C.2.1 dX4_copy_39 (by decide) (fun c7 => ?_) (fun c7 => ?_)
        · have h := h.1 c7
          exact k_X4_copy_J53 C u6 _ _ _ h hW (lv_sub hl [0] rfl)
        · have h := h.2 c7
          refine lv_aload_n C.1 C.2.1 dX4_copy_42 rfl (lv_at hl 0 rfl) ?_
          refine fg_X4_14 C hW dX4_copy_43 ?_
          refine lv_iload_n C.1 C.2.1 dX4_copy_46 rfl (lv_at hl 3 rfl) ?_
          refine x_Vi (rest := []) C hW (c_X2_has l g (Or.inl rfl) h) km_X2_has (oShf (Or.inl rfl)) rfl qm_X4_108 ⟨rfl, rfl⟩ (by decide) rfl hl.1 rfl (Nat.le_of_ble_eq_true rfl) ⟨Nat.zero_le _, Nat.zero_le _⟩ dX4_copy_47 (fun r8 u8 H locs h hW => ?_)
          refine lv_if_ne (tgt := 59) C.1 C.2.1 dX4_copy_50 (by decide) (fun c9 => ?_) (fun c9 => ?_)
          · have h := h.1 c9
            refine lv_aload_n C.1 C.2.1 dX4_copy_59 rfl (lv_at hl 0 rfl) ?_
            refine fg_X4_14 C hW dX4_copy_60 ?_
            refine lv_iload_n C.1 C.2.1 dX4_copy_63 rfl (lv_at hl 1 rfl) ?_
            refine lv_iload_n C.1 C.2.1 dX4_copy_64 rfl (lv_at hl 2 rfl) ?_
            refine lv_iload C.1 C.2.1 dX4_copy_65 (lv_at hl 5 rfl) ?_
            refine x_Vi (rest := []) C hW (c_X2_reaches l g (Or.inl rfl) h) km_X2_reaches (oShf (Or.inl rfl)) rfl qm_X4_112 ⟨rfl, rfl⟩ (by decide) rfl hl.1 rfl (Nat.le_of_ble_eq_true rfl) ⟨Nat.zero_le _, Nat.zero_le _⟩ dX4_copy_67 (fun r10 u10 H locs h hW => ?_)
            refine lv_if_eq (tgt := 88) C.1 C.2.1 dX4_copy_70 (by decide) (fun c11 => ?_) (fun c11 => ?_)
            · have h := h.1 c11
              exact k_X4_copy_J88 C u10 _ _ _ h hW (lv_sub hl [0] rfl)
            · have h := h.2 c11
              refine lv_aload_n C.1 C.2.1 dX4_copy_73 rfl (lv_at hl 0 rfl) ?_
              refine fg_X4_14 C hW dX4_copy_74 ?_
              refine lv_iload_n C.1 C.2.1 dX4_copy_77 rfl (lv_at hl 3 rfl) ?_
              refine lv_iload C.1 C.2.1 dX4_copy_78 (lv_at hl 4 rfl) ?_
              refine lv_iload C.1 C.2.1 dX4_copy_80 (lv_at hl 5 rfl) ?_
              refine x_Vi (rest := []) C hW (c_X2_reaches l g (Or.inl rfl) h) km_X2_reaches (oShf (Or.inl rfl)) rfl qm_X4_112 ⟨rfl, rfl⟩ (by decide) rfl hl.1 rfl (Nat.le_of_ble_eq_true rfl) ⟨Nat.zero_le _, Nat.zero_le _⟩ dX4_copy_82 (fun r12 u12 H locs h hW => ?_)
              refine lv_if_ne (tgt := 94) C.1 C.2.1 dX4_copy_85 (by decide) (fun c13 => ?_) (fun c13 => ?_)
              · have h := h.1 c13
                refine lv_aload_n C.1 C.2.1 dX4_copy_94 rfl (lv_at hl 0 rfl) ?_
                refine fg_X4_14 C hW dX4_copy_95 ?_
                refine lv_iload_n C.1 C.2.1 dX4_copy_98 rfl (lv_at hl 1 rfl) ?_
                refine lv_iload_n C.1 C.2.1 dX4_copy_99 rfl (lv_at hl 2 rfl) ?_
                refine lv_iload_n C.1 C.2.1 dX4_copy_100 rfl (lv_at hl 3 rfl) ?_
                refine lv_iload C.1 C.2.1 dX4_copy_101 (lv_at hl 4 rfl) ?_
                refine lv_iload C.1 C.2.1 dX4_copy_103 (lv_at hl 5 rfl) ?_
                refine x_Vv (rest := []) C hW (c_X2_move l g (Or.inl rfl) h) km_X2_move (oShf (Or.inl rfl)) rfl qm_X4_116 ⟨rfl, rfl⟩ (by decide) rfl hl.1 rfl (Nat.le_of_ble_eq_true rfl) ⟨Nat.zero_le _, Nat.zero_le _⟩ dX4_copy_105 (fun u14 H locs h hW => ?_)
                refine lv_iconst (v := 1) C.1 C.2.1 dX4_copy_108 (by decide) ?_
                exact x_iret C hW h dX4_copy_109
              · have h := h.2 c13
                exact k_X4_copy_J88 C u12 _ _ _ h hW (lv_sub hl [0] rfl)
          · have h := h.2 c9
            exact k_X4_copy_J53 C u8 _ _ _ h hW (lv_sub hl [0] rfl)
      · have h := h.2 c5
        refine lv_aload_n C.1 C.2.1 dX4_copy_25 rfl (lv_at hl 0 rfl) ?_
        refine lv_iconst (v := 5) C.1 C.2.1 dX4_copy_26 (by decide) ?_
        refine x_Vi (rest := []) C hW (c_X4_found l g h) km_X4_found oKeys rfl qm_X4_85 ⟨rfl, rfl⟩ (by decide) rfl hl.1 rfl (Nat.le_of_ble_eq_true rfl) ⟨Nat.zero_le _, Nat.zero_le _⟩ dX4_copy_27 (fun r15 u15 H locs h hW => ?_)
        exact x_iret C hW h dX4_copy_30
    · have h := h.2 c4
      refine lv_iconst (v := (-1)) C.1 C.2.1 dX4_copy_18 (by decide) ?_
      exact x_iret C hW h dX4_copy_19
set_option maxRecDepth 100000 in
theorem c_X4_count (l : Launch) (g : GG) {p1 : Int32} {u : St} {Q : Int32 → St → Prop} (h : wp_X4_count p1 u Q) : CI l yX4_count cX4_count 2 (some .int) rm_X4_count g [.ref (gad g 0), .int p1] u Q := by
  refine ent (own := RX4) (Qc := va_Qi Q (WQ g)) (by decide) rfl (Nat.le_of_ble_eq_true rfl) ?_
  intro p e s m below meth c A ls C hl hW
  have hl : lv_has ls 2 [(0, .ref (gad g 0)), (1, .int p1)] := hl
  unfold wp_X4_count at h
  refine lv_iload_n C.1 C.2.1 dX4_count_0 rfl (lv_at hl 1 rfl) ?_
  refine lv_bipush (v := 11) C.1 C.2.1 dX4_count_1 (by decide) ?_
  refine x_Si (rest := []) C hW (c_X4_within l g h) km_X4_within qm_X4_81 ⟨rfl, rfl⟩ (by decide) rfl hl.1 rfl (Nat.le_of_ble_eq_true rfl) ⟨Nat.zero_le _, Nat.zero_le _⟩ dX4_count_3 (fun r1 u1 H locs h hW => ?_)
  refine lv_if_ne (tgt := 11) C.1 C.2.1 dX4_count_6 (by decide) (fun c2 => ?_) (fun c2 => ?_)
  · have h := h.1 c2
    refine lv_iload_n C.1 C.2.1 dX4_count_11 rfl (lv_at hl 1 rfl) ?_
    by_cases c3 : p1 = 0
    · refine lv_tableIn (off := 56) (tgt := 68) C.1 C.2.1 dX4_count_12 (by rw [c3]; decide +kernel) (by rw [c3]; decide +kernel) (by rw [c3]; decide +kernel) (by decide) ?_
      have h := h.1 c3
      refine lv_aload_n C.1 C.2.1 dX4_count_68 rfl (lv_at hl 0 rfl) ?_
      refine fg_X4_27 C hW dX4_count_69 ?_
      refine fg_X4_137 C hW (Or.inl rfl) dX4_count_72 ?_
      exact x_iret C hW h dX4_count_75
    · skip
      by_cases c4 : p1 = 1
      · refine lv_tableIn (off := 64) (tgt := 76) C.1 C.2.1 dX4_count_12 (by rw [c4]; decide +kernel) (by rw [c4]; decide +kernel) (by rw [c4]; decide +kernel) (by decide) ?_
        have h := h.2.1 c4
        refine lv_aload_n C.1 C.2.1 dX4_count_76 rfl (lv_at hl 0 rfl) ?_
        refine fg_X4_37 C hW dX4_count_77 ?_
        refine fg_X4_296 C hW (Or.inl rfl) dX4_count_80 ?_
        exact x_iret C hW h dX4_count_83
      · skip
        by_cases c5 : p1 = 2
        · refine lv_tableIn (off := 72) (tgt := 84) C.1 C.2.1 dX4_count_12 (by rw [c5]; decide +kernel) (by rw [c5]; decide +kernel) (by rw [c5]; decide +kernel) (by decide) ?_
          have h := h.2.2.1 c5
          refine lv_aload_n C.1 C.2.1 dX4_count_84 rfl (lv_at hl 0 rfl) ?_
          refine fg_X4_21 C hW dX4_count_85 ?_
          refine lv_iconst (v := 3) C.1 C.2.1 dX4_count_88 (by decide) ?_
          refine x_Vi (rest := []) C hW (c_X2_size l g (Or.inr (Or.inr rfl)) h) km_X2_size (oShf (Or.inr (Or.inr rfl))) rfl qm_X4_120 ⟨rfl, rfl⟩ (by decide) rfl hl.1 rfl (Nat.le_of_ble_eq_true rfl) ⟨Nat.zero_le _, Nat.zero_le _⟩ dX4_count_89 (fun r6 u6 H locs h hW => ?_)
          exact x_iret C hW h dX4_count_92
        · skip
          by_cases c7 : p1 = 3
          · refine lv_tableIn (off := 81) (tgt := 93) C.1 C.2.1 dX4_count_12 (by rw [c7]; decide +kernel) (by rw [c7]; decide +kernel) (by rw [c7]; decide +kernel) (by decide) ?_
            have h := h.2.2.2.1 c7
            refine lv_aload_n C.1 C.2.1 dX4_count_93 rfl (lv_at hl 0 rfl) ?_
            refine fg_X4_37 C hW dX4_count_94 ?_
            refine fg_X4_179 C hW (Or.inl rfl) dX4_count_97 ?_
            exact x_iret C hW h dX4_count_100
          · skip
            by_cases c8 : p1 = 4
            · refine lv_tableIn (off := 89) (tgt := 101) C.1 C.2.1 dX4_count_12 (by rw [c8]; decide +kernel) (by rw [c8]; decide +kernel) (by rw [c8]; decide +kernel) (by decide) ?_
              have h := h.2.2.2.2.1 c8
              refine lv_aload_n C.1 C.2.1 dX4_count_101 rfl (lv_at hl 0 rfl) ?_
              refine fg_X4_37 C hW dX4_count_102 ?_
              refine fg_X4_191 C hW (Or.inl rfl) dX4_count_105 ?_
              exact x_iret C hW h dX4_count_108
            · skip
              by_cases c9 : p1 = 5
              · refine lv_tableIn (off := 97) (tgt := 109) C.1 C.2.1 dX4_count_12 (by rw [c9]; decide +kernel) (by rw [c9]; decide +kernel) (by rw [c9]; decide +kernel) (by decide) ?_
                have h := h.2.2.2.2.2.1 c9
                refine lv_aload_n C.1 C.2.1 dX4_count_109 rfl (lv_at hl 0 rfl) ?_
                refine x_Vi (rest := []) C hW (c_X4_toldNow l g h) km_X4_toldNow oKeys rfl qm_X4_152 ⟨rfl, rfl⟩ (by decide) rfl hl.1 rfl (Nat.le_of_ble_eq_true rfl) ⟨Nat.zero_le _, Nat.zero_le _⟩ dX4_count_110 (fun r10 u10 H locs h hW => ?_)
                refine x_Si (rest := []) C hW (c_J6_bitCount_0f7a4 l g h) km_J6_bitCount_0f7a4 qm_X4_156 ⟨rfl, rfl⟩ (by decide) rfl hl.1 rfl (Nat.le_of_ble_eq_true rfl) ⟨Nat.zero_le _, Nat.zero_le _⟩ dX4_count_113 (fun r11 u11 H locs h hW => ?_)
                exact x_iret C hW h dX4_count_116
              · skip
                by_cases c12 : p1 = 6
                · refine lv_tableIn (off := 105) (tgt := 117) C.1 C.2.1 dX4_count_12 (by rw [c12]; decide +kernel) (by rw [c12]; decide +kernel) (by rw [c12]; decide +kernel) (by decide) ?_
                  have h := h.2.2.2.2.2.2.1 c12
                  refine lv_aload_n C.1 C.2.1 dX4_count_117 rfl (lv_at hl 0 rfl) ?_
                  refine fg_X4_14 C hW dX4_count_118 ?_
                  refine lv_bipush (v := 6) C.1 C.2.1 dX4_count_121 (by decide) ?_
                  refine x_Vi (rest := []) C hW (c_X2_howMany l g (Or.inl rfl) h) km_X2_howMany (oShf (Or.inl rfl)) rfl qm_X4_299 ⟨rfl, rfl⟩ (by decide) rfl hl.1 rfl (Nat.le_of_ble_eq_true rfl) ⟨Nat.zero_le _, Nat.zero_le _⟩ dX4_count_123 (fun r13 u13 H locs h hW => ?_)
                  exact x_iret C hW h dX4_count_126
                · skip
                  by_cases c14 : p1 = 7
                  · refine lv_tableIn (off := 115) (tgt := 127) C.1 C.2.1 dX4_count_12 (by rw [c14]; decide +kernel) (by rw [c14]; decide +kernel) (by rw [c14]; decide +kernel) (by decide) ?_
                    have h := h.2.2.2.2.2.2.2.1 c14
                    refine lv_aload_n C.1 C.2.1 dX4_count_127 rfl (lv_at hl 0 rfl) ?_
                    refine fg_X4_18 C hW dX4_count_128 ?_
                    refine lv_iconst (v := 4) C.1 C.2.1 dX4_count_131 (by decide) ?_
                    refine x_Vi (rest := []) C hW (c_X2_howMany l g (Or.inr (Or.inl rfl)) h) km_X2_howMany (oShf (Or.inr (Or.inl rfl))) rfl qm_X4_299 ⟨rfl, rfl⟩ (by decide) rfl hl.1 rfl (Nat.le_of_ble_eq_true rfl) ⟨Nat.zero_le _, Nat.zero_le _⟩ dX4_count_132 (fun r15 u15 H locs h hW => ?_)
                    exact x_iret C hW h dX4_count_135
                  · skip
                    by_cases c16 : p1 = 8
                    · refine lv_tableIn (off := 124) (tgt := 136) C.1 C.2.1 dX4_count_12 (by rw [c16]; decide +kernel) (by rw [c16]; decide +kernel) (by rw [c16]; decide +kernel) (by decide) ?_
                      have h := h.2.2.2.2.2.2.2.2.1 c16
                      refine lv_aload_n C.1 C.2.1 dX4_count_136 rfl (lv_at hl 0 rfl) ?_
                      refine fg_X4_21 C hW dX4_count_137 ?_
                      refine lv_iconst (v := 3) C.1 C.2.1 dX4_count_140 (by decide) ?_
                      refine x_Vi (rest := []) C hW (c_X2_howMany l g (Or.inr (Or.inr rfl)) h) km_X2_howMany (oShf (Or.inr (Or.inr rfl))) rfl qm_X4_299 ⟨rfl, rfl⟩ (by decide) rfl hl.1 rfl (Nat.le_of_ble_eq_true rfl) ⟨Nat.zero_le _, Nat.zero_le _⟩ dX4_count_141 (fun r17 u17 H locs h hW => ?_)
                      exact x_iret C hW h dX4_count_144
                    · skip
                      by_cases c18 : p1 = 9
                      · refine lv_tableIn (off := 133) (tgt := 145) C.1 C.2.1 dX4_count_12 (by rw [c18]; decide +kernel) (by rw [c18]; decide +kernel) (by rw [c18]; decide +kernel) (by decide) ?_
                        have h := h.2.2.2.2.2.2.2.2.2.1 c18
                        refine lv_aload_n C.1 C.2.1 dX4_count_145 rfl (lv_at hl 0 rfl) ?_
                        refine fg_X4_27 C hW dX4_count_146 ?_
                        refine lv_iconst (v := 1) C.1 C.2.1 dX4_count_149 (by decide) ?_
                        refine x_Vi (rest := []) C hW (c_X0_howManyOf l g (Or.inl rfl) h) km_X0_howManyOf (oLay (Or.inl rfl)) rfl qm_X4_302 ⟨rfl, rfl⟩ (by decide) rfl hl.1 rfl (Nat.le_of_ble_eq_true rfl) ⟨Nat.zero_le _, Nat.zero_le _⟩ dX4_count_150 (fun r19 u19 H locs h hW => ?_)
                        exact x_iret C hW h dX4_count_153
                      · skip
                        have c21 : (p1).toInt < 0 ∨ 9 < (p1).toInt := by
                          have ec3 : (p1).toInt ≠ 0 := fun z => c3 (Int32.toInt_inj.mp (by rw [z]; rfl))
                          have ec4 : (p1).toInt ≠ 1 := fun z => c4 (Int32.toInt_inj.mp (by rw [z]; rfl))
                          have ec5 : (p1).toInt ≠ 2 := fun z => c5 (Int32.toInt_inj.mp (by rw [z]; rfl))
                          have ec7 : (p1).toInt ≠ 3 := fun z => c7 (Int32.toInt_inj.mp (by rw [z]; rfl))
                          have ec8 : (p1).toInt ≠ 4 := fun z => c8 (Int32.toInt_inj.mp (by rw [z]; rfl))
                          have ec9 : (p1).toInt ≠ 5 := fun z => c9 (Int32.toInt_inj.mp (by rw [z]; rfl))
                          have ec12 : (p1).toInt ≠ 6 := fun z => c12 (Int32.toInt_inj.mp (by rw [z]; rfl))
                          have ec14 : (p1).toInt ≠ 7 := fun z => c14 (Int32.toInt_inj.mp (by rw [z]; rfl))
                          have ec16 : (p1).toInt ≠ 8 := fun z => c16 (Int32.toInt_inj.mp (by rw [z]; rfl))
                          have ec18 : (p1).toInt ≠ 9 := fun z => c18 (Int32.toInt_inj.mp (by rw [z]; rfl))
                          omega
                        refine lv_tableOut (tgt := 154) C.1 C.2.1 dX4_count_12 c21 (by decide) ?_
                        have h := h.2.2.2.2.2.2.2.2.2.2 c21
                        refine lv_aload_n C.1 C.2.1 dX4_count_154 rfl (lv_at hl 0 rfl) ?_
                        refine fg_X4_27 C hW dX4_count_155 ?_
                        refine lv_iconst (v := 2) C.1 C.2.1 dX4_count_158 (by decide) ?_
                        refine x_Vi (rest := []) C hW (c_X0_howManyOf l g (Or.inl rfl) h) km_X0_howManyOf (oLay (Or.inl rfl)) rfl qm_X4_302 ⟨rfl, rfl⟩ (by decide) rfl hl.1 rfl (Nat.le_of_ble_eq_true rfl) ⟨Nat.zero_le _, Nat.zero_le _⟩ dX4_count_159 (fun r20 u20 H locs h hW => ?_)
                        exact x_iret C hW h dX4_count_162
  · have h := h.2 c2
    refine lv_iconst (v := (-1)) C.1 C.2.1 dX4_count_9 (by decide) ?_
    exact x_iret C hW h dX4_count_10
set_option maxRecDepth 100000 in
theorem c_X4_hasNoRoomFor (l : Launch) (g : GG) {p1 : Int32} {u : St} {Q : Int32 → St → Prop} (h : wp_X4_hasNoRoomFor p1 u Q) : CI l yX4_hasNoRoomFor cX4_hasNoRoomFor 2 (some .boolean) rm_X4_hasNoRoomFor g [.ref (gad g 0), .int p1] u Q := by
  refine ent (own := RX4) (Qc := va_Qi Q (WQ g)) (by decide) rfl (Nat.le_of_ble_eq_true rfl) ?_
  intro p e s m below meth c A ls C hl hW
  have hl : lv_has ls 2 [(0, .ref (gad g 0)), (1, .int p1)] := hl
  unfold wp_X4_hasNoRoomFor at h
  refine lv_aload_n C.1 C.2.1 dX4_hasNoRoomFor_0 rfl (lv_at hl 0 rfl) ?_
  refine fg_X4_21 C hW dX4_hasNoRoomFor_1 ?_
  refine lv_iconst (v := 3) C.1 C.2.1 dX4_hasNoRoomFor_4 (by decide) ?_
  refine x_Vi (rest := []) C hW (c_X2_size l g (Or.inr (Or.inr rfl)) h) km_X2_size (oShf (Or.inr (Or.inr rfl))) rfl qm_X4_120 ⟨rfl, rfl⟩ (by decide) rfl hl.1 rfl (Nat.le_of_ble_eq_true rfl) ⟨Nat.zero_le _, Nat.zero_le _⟩ dX4_hasNoRoomFor_5 (fun r1 u1 H locs h hW => ?_)
  refine lv_iload_n C.1 C.2.1 dX4_hasNoRoomFor_8 rfl (lv_at hl 1 rfl) ?_
  refine lv_iadd C.1 C.2.1 dX4_hasNoRoomFor_9 ?_
  refine lv_bipush (v := 40) C.1 C.2.1 dX4_hasNoRoomFor_10 (by decide) ?_
  refine lv_icmp_le (tgt := 19) C.1 C.2.1 dX4_hasNoRoomFor_12 (by decide) (fun c2 => ?_) (fun c2 => ?_)
  · have h := h.1 c2
    refine lv_iconst (v := 0) C.1 C.2.1 dX4_hasNoRoomFor_19 (by decide) ?_
    exact x_zret C hW rfl h dX4_hasNoRoomFor_20
  · have h := h.2 c2
    refine lv_iconst (v := 1) C.1 C.2.1 dX4_hasNoRoomFor_15 (by decide) ?_
    refine lv_goto (tgt := 20) C.1 C.2.1 dX4_hasNoRoomFor_16 (by decide) ?_
    exact x_zret C hW rfl h dX4_hasNoRoomFor_20
set_option maxRecDepth 100000 in
theorem c_X4_perform (l : Launch) (g : GG) {p1 : Int32} {u : St} {Q : St → Prop} (h : wp_X4_perform p1 u Q) : CV l yX4_perform cX4_perform 2 none rm_X4_perform g [.ref (gad g 0), .int p1] u Q := by
  refine ent (own := RX4) (Qc := va_Qv Q (WQ g)) (by decide) rfl (Nat.le_of_ble_eq_true rfl) ?_
  intro p e s m below meth c A ls C hl hW
  have hl : lv_has ls 2 [(0, .ref (gad g 0)), (1, .int p1)] := hl
  unfold wp_X4_perform at h
  refine lv_aload_n C.1 C.2.1 dX4_perform_0 rfl (lv_at hl 0 rfl) ?_
  refine fg_X4_21 C hW dX4_perform_1 ?_
  refine lv_iconst (v := 3) C.1 C.2.1 dX4_perform_4 (by decide) ?_
  refine lv_iload_n C.1 C.2.1 dX4_perform_5 rfl (lv_at hl 1 rfl) ?_
  refine x_Vv (rest := []) C hW (c_X2_add l g (Or.inr (Or.inr rfl)) h) km_X2_add (oShf (Or.inr (Or.inr rfl))) rfl qm_X4_319 ⟨rfl, rfl⟩ (by decide) rfl hl.1 rfl (Nat.le_of_ble_eq_true rfl) ⟨Nat.zero_le _, Nat.zero_le _⟩ dX4_perform_6 (fun u1 H locs h hW => ?_)
  refine lv_aload_n C.1 C.2.1 dX4_perform_9 rfl (lv_at hl 0 rfl) ?_
  refine fg_X4_37 C hW dX4_perform_10 ?_
  refine lv_iload_n C.1 C.2.1 dX4_perform_13 rfl (lv_at hl 1 rfl) ?_
  refine x_Vv (rest := []) C hW (c_X1_undergo l g (Or.inl rfl) h) km_X1_undergo (oMom (Or.inl rfl)) rfl qm_X4_322 ⟨rfl, rfl⟩ (by decide) rfl hl.1 rfl (Nat.le_of_ble_eq_true rfl) ⟨Nat.zero_le _, Nat.zero_le _⟩ dX4_perform_14 (fun u2 H locs h hW => ?_)
  exact x_vret C hW h dX4_perform_17
set_option maxRecDepth 100000 in
theorem c_X4_cut (l : Launch) (g : GG) {p1 : Int32} {u : St} {Q : Int32 → St → Prop} (h : wp_X4_cut p1 u Q) : CI l yX4_cut cX4_cut 2 (some .int) rm_X4_cut g [.ref (gad g 0), .int p1] u Q := by
  refine ent (own := RX4) (Qc := va_Qi Q (WQ g)) (by decide) rfl (Nat.le_of_ble_eq_true rfl) ?_
  intro p e s m below meth c A ls C hl hW
  have hl : lv_has ls 2 [(0, .ref (gad g 0)), (1, .int p1)] := hl
  unfold wp_X4_cut at h
  refine lv_iload_n C.1 C.2.1 dX4_cut_0 rfl (lv_at hl 1 rfl) ?_
  refine lv_iconst (v := 4) C.1 C.2.1 dX4_cut_1 (by decide) ?_
  refine x_Si (rest := []) C hW (c_X4_within l g h) km_X4_within qm_X4_81 ⟨rfl, rfl⟩ (by decide) rfl hl.1 rfl (Nat.le_of_ble_eq_true rfl) ⟨Nat.zero_le _, Nat.zero_le _⟩ dX4_cut_2 (fun r1 u1 H locs h hW => ?_)
  refine lv_if_ne (tgt := 10) C.1 C.2.1 dX4_cut_5 (by decide) (fun c2 => ?_) (fun c2 => ?_)
  · have h := h.1 c2
    refine lv_aload_n C.1 C.2.1 dX4_cut_10 rfl (lv_at hl 0 rfl) ?_
    refine fg_X4_27 C hW dX4_cut_11 ?_
    refine fg_X4_137 C hW (Or.inl rfl) dX4_cut_14 ?_
    refine lv_if_ne (tgt := 23) C.1 C.2.1 dX4_cut_17 (by decide) (fun c3 => ?_) (fun c3 => ?_)
    · have h := h.1 c3
      refine lv_aload_n C.1 C.2.1 dX4_cut_23 rfl (lv_at hl 0 rfl) ?_
      refine lv_iconst (v := 1) C.1 C.2.1 dX4_cut_24 (by decide) ?_
      refine x_Vi (rest := []) C hW (c_X4_hasNoRoomFor l g h) km_X4_hasNoRoomFor oKeys rfl qm_X4_185 ⟨rfl, rfl⟩ (by decide) rfl hl.1 rfl (Nat.le_of_ble_eq_true rfl) ⟨Nat.zero_le _, Nat.zero_le _⟩ dX4_cut_25 (fun r4 u4 H locs h hW => ?_)
      refine lv_if_eq (tgt := 34) C.1 C.2.1 dX4_cut_28 (by decide) (fun c5 => ?_) (fun c5 => ?_)
      · have h := h.1 c5
        refine lv_aload_n C.1 C.2.1 dX4_cut_34 rfl (lv_at hl 0 rfl) ?_
        refine lv_bipush (v := 8) C.1 C.2.1 dX4_cut_35 (by decide) ?_
        refine lv_iload_n C.1 C.2.1 dX4_cut_37 rfl (lv_at hl 1 rfl) ?_
        refine lv_iadd C.1 C.2.1 dX4_cut_38 ?_
        refine x_Vv (rest := []) C hW (c_X4_perform l g h) km_X4_perform oKeys rfl qm_X4_188 ⟨rfl, rfl⟩ (by decide) rfl hl.1 rfl (Nat.le_of_ble_eq_true rfl) ⟨Nat.zero_le _, Nat.zero_le _⟩ dX4_cut_39 (fun u6 H locs h hW => ?_)
        refine lv_aload_n C.1 C.2.1 dX4_cut_42 rfl (lv_at hl 0 rfl) ?_
        refine fg_X4_37 C hW dX4_cut_43 ?_
        refine fg_X4_191 C hW (Or.inl rfl) dX4_cut_46 ?_
        refine x_Si (rest := []) C hW (c_J6_bitCount_0f7a4 l g h) km_J6_bitCount_0f7a4 qm_X4_156 ⟨rfl, rfl⟩ (by decide) rfl hl.1 rfl (Nat.le_of_ble_eq_true rfl) ⟨Nat.zero_le _, Nat.zero_le _⟩ dX4_cut_49 (fun r7 u7 H locs h hW => ?_)
        exact x_iret C hW h dX4_cut_52
      · have h := h.2 c5
        refine lv_bipush (v := (-2)) C.1 C.2.1 dX4_cut_31 (by decide) ?_
        exact x_iret C hW h dX4_cut_33
    · have h := h.2 c3
      refine lv_bipush (v := (-4)) C.1 C.2.1 dX4_cut_20 (by decide) ?_
      exact x_iret C hW h dX4_cut_22
  · have h := h.2 c2
    refine lv_iconst (v := (-1)) C.1 C.2.1 dX4_cut_8 (by decide) ?_
    exact x_iret C hW h dX4_cut_9
set_option maxRecDepth 100000 in
theorem c_X4_deedByLot (l : Launch) (g : GG) {p1 : Int64} {u : St} {Q : Int32 → St → Prop} (h : wp_X4_deedByLot p1 u Q) : CI l yX4_deedByLot cX4_deedByLot 6 (some .int) rm_X4_deedByLot g [.ref (gad g 0), .long p1] u Q := by
  refine ent (own := RX4) (Qc := va_Qi Q (WQ g)) (by decide) rfl (Nat.le_of_ble_eq_true rfl) ?_
  intro p e s m below meth c A ls C hl hW
  have hl : lv_has ls 6 [(0, .ref (gad g 0)), (1, .long p1)] := hl
  unfold wp_X4_deedByLot at h
  refine lv_lload_n C.1 C.2.1 dX4_deedByLot_0 rfl (lv_at hl 1 rfl) ?_
  refine lv_ldc2 (v := 8) C.1 C.2.1 C.2.2.2.1 (C.2.2.2.2.1 _ qk_X4_325) dX4_deedByLot_1 ?_
  refine lv_lrem C.1 C.2.1 dX4_deedByLot_4 (by decide) ?_
  refine lv_l2i (v := (p1 - (p1 / 8) * 8).toInt32) C.1 C.2.1 dX4_deedByLot_5 rfl ?_
  refine lv_istore_n (lv' := [(3, .int (p1 - (p1 / 8) * 8).toInt32), (0, .ref (gad g 0)), (1, .long p1)]) C.1 C.2.1 dX4_deedByLot_6 rfl hl (by decide) rfl (fun ls hl => ?_)
  refine lv_lload_n C.1 C.2.1 dX4_deedByLot_7 rfl (lv_at hl 2 rfl) ?_
  refine lv_ldc2 (v := 8) C.1 C.2.1 C.2.2.2.1 (C.2.2.2.2.1 _ qk_X4_325) dX4_deedByLot_8 ?_
  refine lv_ldiv C.1 C.2.1 dX4_deedByLot_11 (by decide) ?_
  refine lv_lstore (lv' := [(4, .long (p1 / 8)), (3, .int (p1 - (p1 / 8) * 8).toInt32), (0, .ref (gad g 0)), (1, .long p1)]) C.1 C.2.1 dX4_deedByLot_12 hl (by decide) rfl (fun ls hl => ?_)
  refine lv_iload_n C.1 C.2.1 dX4_deedByLot_14 rfl (lv_at hl 1 rfl) ?_
  refine lv_if_ne (tgt := 29) C.1 C.2.1 dX4_deedByLot_15 (by decide) (fun c1 => ?_) (fun c1 => ?_)
  · have h := h.1 c1
    refine lv_iload_n C.1 C.2.1 dX4_deedByLot_29 rfl (lv_at hl 1 rfl) ?_
    refine lv_iconst (v := 3) C.1 C.2.1 dX4_deedByLot_30 (by decide) ?_
    refine lv_icmp_le (tgt := 44) C.1 C.2.1 dX4_deedByLot_31 (by decide) (fun c2 => ?_) (fun c2 => ?_)
    · have h := h.1 c2
      refine lv_bipush (v := 7) C.1 C.2.1 dX4_deedByLot_44 (by decide) ?_
      exact x_iret C hW h dX4_deedByLot_46
    · have h := h.2 c2
      refine lv_aload_n C.1 C.2.1 dX4_deedByLot_34 rfl (lv_at hl 2 rfl) ?_
      refine fg_X4_27 C hW dX4_deedByLot_35 ?_
      refine fg_X4_137 C hW (Or.inl rfl) dX4_deedByLot_38 ?_
      refine lv_if_ne (tgt := 47) C.1 C.2.1 dX4_deedByLot_41 (by decide) (fun c3 => ?_) (fun c3 => ?_)
      · have h := h.1 c3
        refine lv_lload C.1 C.2.1 dX4_deedByLot_47 (lv_at hl 0 rfl) ?_
        refine lv_aload_n C.1 C.2.1 dX4_deedByLot_49 rfl (lv_at hl 2 rfl) ?_
        refine fg_X4_27 C hW dX4_deedByLot_50 ?_
        refine fg_X4_137 C hW (Or.inl rfl) dX4_deedByLot_53 ?_
        refine lv_i2l (v := (gi u 10 4).toInt64) C.1 C.2.1 dX4_deedByLot_56 rfl ?_
        obtain ⟨h4, h⟩ := h
        refine lv_lrem C.1 C.2.1 dX4_deedByLot_57 h4 ?_
        refine lv_l2i (v := ((p1 / 8) - ((p1 / 8) / (gi u 10 4).toInt64) * (gi u 10 4).toInt64).toInt32) C.1 C.2.1 dX4_deedByLot_58 rfl ?_
        exact x_iret C hW h dX4_deedByLot_59
      · have h := h.2 c3
        refine lv_bipush (v := 7) C.1 C.2.1 dX4_deedByLot_44 (by decide) ?_
        exact x_iret C hW h dX4_deedByLot_46
  · have h := h.2 c1
    refine lv_bipush (v := 8) C.1 C.2.1 dX4_deedByLot_18 (by decide) ?_
    refine lv_lload C.1 C.2.1 dX4_deedByLot_20 (lv_at hl 0 rfl) ?_
    refine lv_ldc2 (v := 4) C.1 C.2.1 C.2.2.2.1 (C.2.2.2.2.1 _ qk_X4_327) dX4_deedByLot_22 ?_
    refine lv_lrem C.1 C.2.1 dX4_deedByLot_25 (by decide) ?_
    refine lv_l2i (v := ((p1 / 8) - ((p1 / 8) / 4) * 4).toInt32) C.1 C.2.1 dX4_deedByLot_26 rfl ?_
    refine lv_iadd C.1 C.2.1 dX4_deedByLot_27 ?_
    exact x_iret C hW h dX4_deedByLot_28
