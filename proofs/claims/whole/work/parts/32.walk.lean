set_option maxRecDepth 100000 in
theorem c_X4_keyFact (l : Launch) (g : GG) {p1 : Int32} {p2 : Int32} {u : St} {Q : Int32 → St → Prop} (h : wp_X4_keyFact p1 p2 u Q) : CI l yX4_keyFact cX4_keyFact 3 (some .int) rm_X4_keyFact g [.ref (gad g 0), .int p1, .int p2] u Q := by
  refine ent (own := RX4) (Qc := va_Qi Q (WQ g)) (by decide) rfl (Nat.le_of_ble_eq_true rfl) ?_
  intro p e s m below meth c A ls C hl hW
  have hl : lv_has ls 3 [(0, .ref (gad g 0)), (1, .int p1), (2, .int p2)] := hl
  unfold wp_X4_keyFact at h
  refine lv_iload_n C.1 C.2.1 dX4_keyFact_0 rfl (lv_at hl 2 rfl) ?_
  by_cases c1 : p2 = 0
  · refine lv_tableIn (off := 43) (tgt := 44) C.1 C.2.1 dX4_keyFact_1 (by rw [c1]; decide +kernel) (by rw [c1]; decide +kernel) (by rw [c1]; decide +kernel) (by decide) ?_
    have h := h.1 c1
    refine lv_aload_n C.1 C.2.1 dX4_keyFact_44 rfl (lv_at hl 0 rfl) ?_
    refine fg_X4_27 C hW dX4_keyFact_45 ?_
    refine lv_iload_n C.1 C.2.1 dX4_keyFact_48 rfl (lv_at hl 1 rfl) ?_
    refine x_Vi (rest := []) C hW (c_X0_kindOf l g (Or.inl rfl) h) km_X0_kindOf (oLay (Or.inl rfl)) rfl qm_X4_143 ⟨rfl, rfl⟩ (by decide) rfl hl.1 rfl (Nat.le_of_ble_eq_true rfl) ⟨Nat.zero_le _, Nat.zero_le _⟩ dX4_keyFact_49 (fun r2 u2 H locs h hW => ?_)
    exact x_iret C hW h dX4_keyFact_52
  · skip
    by_cases c3 : p2 = 1
    · refine lv_tableIn (off := 52) (tgt := 53) C.1 C.2.1 dX4_keyFact_1 (by rw [c3]; decide +kernel) (by rw [c3]; decide +kernel) (by rw [c3]; decide +kernel) (by decide) ?_
      have h := h.2.1 c3
      refine lv_aload_n C.1 C.2.1 dX4_keyFact_53 rfl (lv_at hl 0 rfl) ?_
      refine fg_X4_27 C hW dX4_keyFact_54 ?_
      refine lv_iload_n C.1 C.2.1 dX4_keyFact_57 rfl (lv_at hl 1 rfl) ?_
      refine x_Vi (rest := []) C hW (c_X0_lineOf l g (Or.inl rfl) h) km_X0_lineOf (oLay (Or.inl rfl)) rfl qm_X4_332 ⟨rfl, rfl⟩ (by decide) rfl hl.1 rfl (Nat.le_of_ble_eq_true rfl) ⟨Nat.zero_le _, Nat.zero_le _⟩ dX4_keyFact_58 (fun r4 u4 H locs h hW => ?_)
      exact x_iret C hW h dX4_keyFact_61
    · skip
      by_cases c5 : p2 = 2
      · refine lv_tableIn (off := 61) (tgt := 62) C.1 C.2.1 dX4_keyFact_1 (by rw [c5]; decide +kernel) (by rw [c5]; decide +kernel) (by rw [c5]; decide +kernel) (by decide) ?_
        have h := h.2.2.1 c5
        refine lv_aload_n C.1 C.2.1 dX4_keyFact_62 rfl (lv_at hl 0 rfl) ?_
        refine fg_X4_27 C hW dX4_keyFact_63 ?_
        refine lv_iload_n C.1 C.2.1 dX4_keyFact_66 rfl (lv_at hl 1 rfl) ?_
        refine x_Vi (rest := []) C hW (c_X0_columnOf l g (Or.inl rfl) h) km_X0_columnOf (oLay (Or.inl rfl)) rfl qm_X4_335 ⟨rfl, rfl⟩ (by decide) rfl hl.1 rfl (Nat.le_of_ble_eq_true rfl) ⟨Nat.zero_le _, Nat.zero_le _⟩ dX4_keyFact_67 (fun r6 u6 H locs h hW => ?_)
        exact x_iret C hW h dX4_keyFact_70
      · skip
        by_cases c7 : p2 = 3
        · refine lv_tableIn (off := 70) (tgt := 71) C.1 C.2.1 dX4_keyFact_1 (by rw [c7]; decide +kernel) (by rw [c7]; decide +kernel) (by rw [c7]; decide +kernel) (by decide) ?_
          have h := h.2.2.2.1 c7
          refine lv_aload_n C.1 C.2.1 dX4_keyFact_71 rfl (lv_at hl 0 rfl) ?_
          refine fg_X4_27 C hW dX4_keyFact_72 ?_
          refine lv_iload_n C.1 C.2.1 dX4_keyFact_75 rfl (lv_at hl 1 rfl) ?_
          refine x_Vi (rest := []) C hW (c_X0_delayOf l g (Or.inl rfl) h) km_X0_delayOf (oLay (Or.inl rfl)) rfl qm_X4_164 ⟨rfl, rfl⟩ (by decide) rfl hl.1 rfl (Nat.le_of_ble_eq_true rfl) ⟨Nat.zero_le _, Nat.zero_le _⟩ dX4_keyFact_76 (fun r8 u8 H locs h hW => ?_)
          exact x_iret C hW h dX4_keyFact_79
        · skip
          by_cases c9 : p2 = 4
          · refine lv_tableIn (off := 79) (tgt := 80) C.1 C.2.1 dX4_keyFact_1 (by rw [c9]; decide +kernel) (by rw [c9]; decide +kernel) (by rw [c9]; decide +kernel) (by decide) ?_
            have h := h.2.2.2.2.1 c9
            refine lv_aload_n C.1 C.2.1 dX4_keyFact_80 rfl (lv_at hl 0 rfl) ?_
            refine fg_X4_37 C hW dX4_keyFact_81 ?_
            refine fg_X4_179 C hW (Or.inl rfl) dX4_keyFact_84 ?_
            refine lv_iload_n C.1 C.2.1 dX4_keyFact_87 rfl (lv_at hl 1 rfl) ?_
            refine lv_ishr C.1 C.2.1 dX4_keyFact_88 ?_
            refine lv_iconst (v := 1) C.1 C.2.1 dX4_keyFact_89 (by decide) ?_
            refine lv_iand C.1 C.2.1 dX4_keyFact_90 ?_
            exact x_iret C hW h dX4_keyFact_91
          · skip
            by_cases c10 : p2 = 5
            · refine lv_tableIn (off := 91) (tgt := 92) C.1 C.2.1 dX4_keyFact_1 (by rw [c10]; decide +kernel) (by rw [c10]; decide +kernel) (by rw [c10]; decide +kernel) (by decide) ?_
              have h := h.2.2.2.2.2.1 c10
              refine lv_aload_n C.1 C.2.1 dX4_keyFact_92 rfl (lv_at hl 0 rfl) ?_
              refine fg_X4_37 C hW dX4_keyFact_93 ?_
              refine lv_iload_n C.1 C.2.1 dX4_keyFact_96 rfl (lv_at hl 1 rfl) ?_
              refine x_Vi (rest := []) C hW (c_X1_heldFor l g (Or.inl rfl) h) km_X1_heldFor (oMom (Or.inl rfl)) rfl qm_X4_167 ⟨rfl, rfl⟩ (by decide) rfl hl.1 rfl (Nat.le_of_ble_eq_true rfl) ⟨Nat.zero_le _, Nat.zero_le _⟩ dX4_keyFact_97 (fun r11 u11 H locs h hW => ?_)
              exact x_iret C hW h dX4_keyFact_100
            · skip
              by_cases c12 : p2 = 6
              · refine lv_tableIn (off := 100) (tgt := 101) C.1 C.2.1 dX4_keyFact_1 (by rw [c12]; decide +kernel) (by rw [c12]; decide +kernel) (by rw [c12]; decide +kernel) (by decide) ?_
                have h := h.2.2.2.2.2.2.1 c12
                refine lv_aload_n C.1 C.2.1 dX4_keyFact_101 rfl (lv_at hl 0 rfl) ?_
                refine fg_X4_27 C hW dX4_keyFact_102 ?_
                refine lv_iload_n C.1 C.2.1 dX4_keyFact_105 rfl (lv_at hl 1 rfl) ?_
                refine lv_aload_n C.1 C.2.1 dX4_keyFact_106 rfl (lv_at hl 0 rfl) ?_
                refine fg_X4_37 C hW dX4_keyFact_107 ?_
                refine lv_aload_n C.1 C.2.1 dX4_keyFact_110 rfl (lv_at hl 0 rfl) ?_
                refine fg_X4_37 C hW dX4_keyFact_111 ?_
                refine fg_X4_179 C hW (Or.inl rfl) dX4_keyFact_114 ?_
                refine x_Vi (rest := []) C hW (c_X0_conducts l g (Or.inl rfl) (Or.inl rfl) h) km_X0_conducts (oLay (Or.inl rfl)) rfl qm_X4_338 ⟨rfl, rfl⟩ (by decide) rfl hl.1 rfl (Nat.le_of_ble_eq_true rfl) ⟨Nat.zero_le _, Nat.zero_le _⟩ dX4_keyFact_117 (fun r13 u13 H locs h hW => ?_)
                refine lv_if_eq (tgt := 127) C.1 C.2.1 dX4_keyFact_120 (by decide) (fun c14 => ?_) (fun c14 => ?_)
                · have h := h.1 c14
                  refine lv_iconst (v := 0) C.1 C.2.1 dX4_keyFact_127 (by decide) ?_
                  exact x_iret C hW h dX4_keyFact_128
                · have h := h.2 c14
                  refine lv_iconst (v := 1) C.1 C.2.1 dX4_keyFact_123 (by decide) ?_
                  refine lv_goto (tgt := 128) C.1 C.2.1 dX4_keyFact_124 (by decide) ?_
                  exact x_iret C hW h dX4_keyFact_128
              · skip
                have c16 : (p2).toInt < 0 ∨ 6 < (p2).toInt := by
                  have ec1 : (p2).toInt ≠ 0 := fun z => c1 (Int32.toInt_inj.mp (by rw [z]; rfl))
                  have ec3 : (p2).toInt ≠ 1 := fun z => c3 (Int32.toInt_inj.mp (by rw [z]; rfl))
                  have ec5 : (p2).toInt ≠ 2 := fun z => c5 (Int32.toInt_inj.mp (by rw [z]; rfl))
                  have ec7 : (p2).toInt ≠ 3 := fun z => c7 (Int32.toInt_inj.mp (by rw [z]; rfl))
                  have ec9 : (p2).toInt ≠ 4 := fun z => c9 (Int32.toInt_inj.mp (by rw [z]; rfl))
                  have ec10 : (p2).toInt ≠ 5 := fun z => c10 (Int32.toInt_inj.mp (by rw [z]; rfl))
                  have ec12 : (p2).toInt ≠ 6 := fun z => c12 (Int32.toInt_inj.mp (by rw [z]; rfl))
                  omega
                refine lv_tableOut (tgt := 129) C.1 C.2.1 dX4_keyFact_1 c16 (by decide) ?_
                have h := h.2.2.2.2.2.2.2 c16
                refine lv_aload_n C.1 C.2.1 dX4_keyFact_129 rfl (lv_at hl 0 rfl) ?_
                refine x_Vi (rest := []) C hW (c_X4_toldNow l g h) km_X4_toldNow oKeys rfl qm_X4_152 ⟨rfl, rfl⟩ (by decide) rfl hl.1 rfl (Nat.le_of_ble_eq_true rfl) ⟨Nat.zero_le _, Nat.zero_le _⟩ dX4_keyFact_130 (fun r15 u15 H locs h hW => ?_)
                refine lv_iload_n C.1 C.2.1 dX4_keyFact_133 rfl (lv_at hl 1 rfl) ?_
                refine lv_ishr C.1 C.2.1 dX4_keyFact_134 ?_
                refine lv_iconst (v := 1) C.1 C.2.1 dX4_keyFact_135 (by decide) ?_
                refine lv_iand C.1 C.2.1 dX4_keyFact_136 ?_
                exact x_iret C hW h dX4_keyFact_137
set_option maxRecDepth 100000 in
theorem k_X4_digest_B83 {p : Program} {l : Launch} {e : Env} {s : State} {m : MethodId} {args : Array Value} {below : List Frame} {meth : Method} {c : Code} {g : GG} {A : Nat → Prop} {Q : Int64 → St → Prop} (C : MC p s m args meth c cX4_digest 5 RX4 (some .long) g A) {K83 : Int64 → Int32 → St → Prop} (hK83 : ∀ (v1 : Int64) (v3 : Int32) (u : St) (H : Heap) (locs : List Loc) (ls : Array Slot), K83 v1 v3 u → WD g A s u H locs → lv_has ls 5 [(0, .ref (gad g 0)), (1, .long v1), (3, .int v3)] → W p l e rm_X4_digest s m args below meth c H locs 0 0 (MQ below (va_Ql Q (WQ g) A) args s 0 0 A) (F0 m 83 ls [])) : ∀ (v1 : Int64) (v3 : Int32) (u : St) (H : Heap) (locs : List Loc) (ls : Array Slot), wp_X4_digest_B83 Q K83 v1 v3 u → WD g A s u H locs → lv_has ls 5 [(0, .ref (gad g 0)), (1, .long v1), (3, .int v3)] → W p l e rm_X4_digest s m args below meth c H locs 0 0 (MQ below (va_Ql Q (WQ g) A) args s 0 0 A) (F0 m 83 ls []) := by
  intro v1 v3 u H locs ls h hW hl
  refine lv_iload_n C.1 C.2.1 dX4_digest_83 rfl (lv_at hl 2 rfl) ?_
  refine lv_iconst (v := 3) C.1 C.2.1 dX4_digest_84 (by decide) ?_
  refine lv_icmp_ge (tgt := 110) C.1 C.2.1 dX4_digest_85 (by decide) (fun c6 => ?_) (fun c6 => ?_)
  · have h := h.1 c6
    refine lv_aload_n C.1 C.2.1 dX4_digest_110 rfl (lv_at hl 0 rfl) ?_
    refine fg_X4_18 C hW dX4_digest_111 ?_
    refine lv_aload_n C.1 C.2.1 dX4_digest_114 rfl (lv_at hl 0 rfl) ?_
    refine fg_X4_14 C hW dX4_digest_115 ?_
    refine lv_lload_n C.1 C.2.1 dX4_digest_118 rfl (lv_at hl 1 rfl) ?_
    refine x_Vl (rest := [.ref (gad g 4)]) C hW (c_X2_mixInto l g (Or.inl rfl) h) km_X2_mixInto (oShf (Or.inl rfl)) rfl qm_X4_312 ⟨rfl, rfl⟩ (by decide) rfl hl.1 rfl (Nat.le_of_ble_eq_true rfl) ⟨Nat.zero_le _, Nat.zero_le _⟩ dX4_digest_119 (fun r7 u7 H locs h hW => ?_)
    refine x_Vl (rest := []) C hW (c_X2_mixInto l g (Or.inr (Or.inl rfl)) h) km_X2_mixInto (oShf (Or.inr (Or.inl rfl))) rfl qm_X4_312 ⟨rfl, rfl⟩ (by decide) rfl hl.1 rfl (Nat.le_of_ble_eq_true rfl) ⟨Nat.zero_le _, Nat.zero_le _⟩ dX4_digest_122 (fun r8 u8 H locs h hW => ?_)
    exact x_lret C hW h dX4_digest_125
  · have h := h.2 c6
    refine lv_ldc2 (v := 31) C.1 C.2.1 C.2.2.2.1 (C.2.2.2.2.1 _ qk_X4_307) dX4_digest_88 ?_
    refine lv_lload_n C.1 C.2.1 dX4_digest_91 rfl (lv_at hl 1 rfl) ?_
    refine lv_lmul C.1 C.2.1 dX4_digest_92 ?_
    refine lv_aload_n C.1 C.2.1 dX4_digest_93 rfl (lv_at hl 0 rfl) ?_
    refine fg_X4_21 C hW dX4_digest_94 ?_
    refine lv_iload_n C.1 C.2.1 dX4_digest_97 rfl (lv_at hl 2 rfl) ?_
    refine x_Vi (rest := [.long (31 * v1)]) C hW (c_X2_size l g (Or.inr (Or.inr rfl)) h) km_X2_size (oShf (Or.inr (Or.inr rfl))) rfl qm_X4_120 ⟨rfl, rfl⟩ (by decide) rfl hl.1 rfl (Nat.le_of_ble_eq_true rfl) ⟨Nat.zero_le _, Nat.zero_le _⟩ dX4_digest_98 (fun r9 u9 H locs h hW => ?_)
    refine lv_i2l (v := r9.toInt64) C.1 C.2.1 dX4_digest_101 rfl ?_
    refine lv_ladd C.1 C.2.1 dX4_digest_102 ?_
    refine lv_lstore_n (lv' := [(1, .long ((31 * v1) + r9.toInt64)), (0, .ref (gad g 0)), (3, .int v3)]) C.1 C.2.1 dX4_digest_103 rfl hl (by decide) rfl (fun ls hl => ?_)
    refine lv_iinc (v := (v3 + 1)) (lv' := [(3, .int (v3 + 1)), (1, .long ((31 * v1) + r9.toInt64)), (0, .ref (gad g 0))]) C.1 C.2.1 dX4_digest_104 hl (k := 2) rfl rfl (by decide) rfl (fun ls hl => ?_)
    refine lv_goto (tgt := 83) C.1 C.2.1 dX4_digest_107 (by decide) ?_
    exact hK83 ((31 * v1) + r9.toInt64) (v3 + 1) u9 _ _ _ h hW (lv_sub hl [2, 1, 0] rfl)
theorem k_X4_digest_L83 {p : Program} {l : Launch} {e : Env} {s : State} {m : MethodId} {args : Array Value} {below : List Frame} {meth : Method} {c : Code} {g : GG} {A : Nat → Prop} {Q : Int64 → St → Prop} (C : MC p s m args meth c cX4_digest 5 RX4 (some .long) g A) : ∀ (n : Nat), ∀ (v1 : Int64) (v3 : Int32) (u : St) (H : Heap) (locs : List Loc) (ls : Array Slot), wp_X4_digest_L83 Q n v1 v3 u → WD g A s u H locs → lv_has ls 5 [(0, .ref (gad g 0)), (1, .long v1), (3, .int v3)] → W p l e rm_X4_digest s m args below meth c H locs 0 0 (MQ below (va_Ql Q (WQ g) A) args s 0 0 A) (F0 m 83 ls []) := by
  intro n
  induction n with
  | zero => intro v1 v3 u H locs ls h; exact False.elim h
  | succ n ih => exact k_X4_digest_B83 C ih
set_option maxRecDepth 100000 in
theorem k_X4_digest_B47 {p : Program} {l : Launch} {e : Env} {s : State} {m : MethodId} {args : Array Value} {below : List Frame} {meth : Method} {c : Code} {g : GG} {A : Nat → Prop} {Q : Int64 → St → Prop} (C : MC p s m args meth c cX4_digest 5 RX4 (some .long) g A) {K33 : Int64 → Int32 → St → Prop} (hK33 : ∀ (v1 : Int64) (v3 : Int32) (u : St) (H : Heap) (locs : List Loc) (ls : Array Slot), K33 v1 v3 u → WD g A s u H locs → lv_has ls 5 [(0, .ref (gad g 0)), (1, .long v1), (3, .int v3)] → W p l e rm_X4_digest s m args below meth c H locs 0 0 (MQ below (va_Ql Q (WQ g) A) args s 0 0 A) (F0 m 33 ls [])) {K47 : Int64 → Int32 → Int32 → St → Prop} (hK47 : ∀ (v1 : Int64) (v3 : Int32) (v4 : Int32) (u : St) (H : Heap) (locs : List Loc) (ls : Array Slot), K47 v1 v3 v4 u → WD g A s u H locs → lv_has ls 5 [(0, .ref (gad g 0)), (1, .long v1), (3, .int v3), (4, .int v4)] → W p l e rm_X4_digest s m args below meth c H locs 0 0 (MQ below (va_Ql Q (WQ g) A) args s 0 0 A) (F0 m 47 ls [])) : ∀ (v1 : Int64) (v3 : Int32) (v4 : Int32) (u : St) (H : Heap) (locs : List Loc) (ls : Array Slot), wp_X4_digest_B47 Q K33 K47 v1 v3 v4 u → WD g A s u H locs → lv_has ls 5 [(0, .ref (gad g 0)), (1, .long v1), (3, .int v3), (4, .int v4)] → W p l e rm_X4_digest s m args below meth c H locs 0 0 (MQ below (va_Ql Q (WQ g) A) args s 0 0 A) (F0 m 47 ls []) := by
  intro v1 v3 v4 u H locs ls h hW hl
  refine lv_iload C.1 C.2.1 dX4_digest_47 (lv_at hl 3 rfl) ?_
  refine lv_bipush (v := 8) C.1 C.2.1 dX4_digest_49 (by decide) ?_
  refine lv_icmp_ge (tgt := 75) C.1 C.2.1 dX4_digest_51 (by decide) (fun c4 => ?_) (fun c4 => ?_)
  · have h := h.1 c4
    refine lv_iinc (v := (v3 + 1)) (lv' := [(3, .int (v3 + 1)), (0, .ref (gad g 0)), (1, .long v1), (4, .int v4)]) C.1 C.2.1 dX4_digest_75 hl (k := 2) rfl rfl (by decide) rfl (fun ls hl => ?_)
    refine lv_goto (tgt := 33) C.1 C.2.1 dX4_digest_78 (by decide) ?_
    exact hK33 v1 (v3 + 1) u _ _ _ h hW (lv_sub hl [1, 2, 0] rfl)
  · have h := h.2 c4
    refine lv_ldc2 (v := 31) C.1 C.2.1 C.2.2.2.1 (C.2.2.2.2.1 _ qk_X4_307) dX4_digest_54 ?_
    refine lv_lload_n C.1 C.2.1 dX4_digest_57 rfl (lv_at hl 1 rfl) ?_
    refine lv_lmul C.1 C.2.1 dX4_digest_58 ?_
    refine lv_aload_n C.1 C.2.1 dX4_digest_59 rfl (lv_at hl 0 rfl) ?_
    refine lv_iload_n C.1 C.2.1 dX4_digest_60 rfl (lv_at hl 2 rfl) ?_
    refine lv_iload C.1 C.2.1 dX4_digest_61 (lv_at hl 3 rfl) ?_
    refine x_Vi (rest := [.long (31 * v1)]) C hW (c_X4_keyFact l g h) km_X4_keyFact oKeys rfl qm_X4_140 ⟨rfl, rfl⟩ (by decide) rfl hl.1 rfl (Nat.le_of_ble_eq_true rfl) ⟨Nat.zero_le _, Nat.zero_le _⟩ dX4_digest_63 (fun r5 u5 H locs h hW => ?_)
    refine lv_i2l (v := r5.toInt64) C.1 C.2.1 dX4_digest_66 rfl ?_
    refine lv_ladd C.1 C.2.1 dX4_digest_67 ?_
    refine lv_lstore_n (lv' := [(1, .long ((31 * v1) + r5.toInt64)), (0, .ref (gad g 0)), (3, .int v3), (4, .int v4)]) C.1 C.2.1 dX4_digest_68 rfl hl (by decide) rfl (fun ls hl => ?_)
    refine lv_iinc (v := (v4 + 1)) (lv' := [(4, .int (v4 + 1)), (1, .long ((31 * v1) + r5.toInt64)), (0, .ref (gad g 0)), (3, .int v3)]) C.1 C.2.1 dX4_digest_69 hl (k := 3) rfl rfl (by decide) rfl (fun ls hl => ?_)
    refine lv_goto (tgt := 47) C.1 C.2.1 dX4_digest_72 (by decide) ?_
    exact hK47 ((31 * v1) + r5.toInt64) v3 (v4 + 1) u5 _ _ _ h hW (lv_sub hl [2, 1, 3, 0] rfl)
theorem k_X4_digest_L47 {p : Program} {l : Launch} {e : Env} {s : State} {m : MethodId} {args : Array Value} {below : List Frame} {meth : Method} {c : Code} {g : GG} {A : Nat → Prop} {Q : Int64 → St → Prop} (C : MC p s m args meth c cX4_digest 5 RX4 (some .long) g A) {K33 : Int64 → Int32 → St → Prop} (hK33 : ∀ (v1 : Int64) (v3 : Int32) (u : St) (H : Heap) (locs : List Loc) (ls : Array Slot), K33 v1 v3 u → WD g A s u H locs → lv_has ls 5 [(0, .ref (gad g 0)), (1, .long v1), (3, .int v3)] → W p l e rm_X4_digest s m args below meth c H locs 0 0 (MQ below (va_Ql Q (WQ g) A) args s 0 0 A) (F0 m 33 ls [])) : ∀ (n : Nat), ∀ (v1 : Int64) (v3 : Int32) (v4 : Int32) (u : St) (H : Heap) (locs : List Loc) (ls : Array Slot), wp_X4_digest_L47 Q K33 n v1 v3 v4 u → WD g A s u H locs → lv_has ls 5 [(0, .ref (gad g 0)), (1, .long v1), (3, .int v3), (4, .int v4)] → W p l e rm_X4_digest s m args below meth c H locs 0 0 (MQ below (va_Ql Q (WQ g) A) args s 0 0 A) (F0 m 47 ls []) := by
  intro n
  induction n with
  | zero => intro v1 v3 v4 u H locs ls h; exact False.elim h
  | succ n ih => exact k_X4_digest_B47 C hK33 ih
set_option maxRecDepth 100000 in
theorem k_X4_digest_B33 {p : Program} {l : Launch} {e : Env} {s : State} {m : MethodId} {args : Array Value} {below : List Frame} {meth : Method} {c : Code} {g : GG} {A : Nat → Prop} {Q : Int64 → St → Prop} (C : MC p s m args meth c cX4_digest 5 RX4 (some .long) g A) {K33 : Int64 → Int32 → St → Prop} (hK33 : ∀ (v1 : Int64) (v3 : Int32) (u : St) (H : Heap) (locs : List Loc) (ls : Array Slot), K33 v1 v3 u → WD g A s u H locs → lv_has ls 5 [(0, .ref (gad g 0)), (1, .long v1), (3, .int v3)] → W p l e rm_X4_digest s m args below meth c H locs 0 0 (MQ below (va_Ql Q (WQ g) A) args s 0 0 A) (F0 m 33 ls [])) : ∀ (v1 : Int64) (v3 : Int32) (u : St) (H : Heap) (locs : List Loc) (ls : Array Slot), wp_X4_digest_B33 Q K33 v1 v3 u → WD g A s u H locs → lv_has ls 5 [(0, .ref (gad g 0)), (1, .long v1), (3, .int v3)] → W p l e rm_X4_digest s m args below meth c H locs 0 0 (MQ below (va_Ql Q (WQ g) A) args s 0 0 A) (F0 m 33 ls []) := by
  intro v1 v3 u H locs ls h hW hl
  refine lv_iload_n C.1 C.2.1 dX4_digest_33 rfl (lv_at hl 2 rfl) ?_
  refine lv_aload_n C.1 C.2.1 dX4_digest_34 rfl (lv_at hl 0 rfl) ?_
  refine fg_X4_27 C hW dX4_digest_35 ?_
  refine fg_X4_137 C hW (Or.inl rfl) dX4_digest_38 ?_
  refine lv_icmp_ge (tgt := 81) C.1 C.2.1 dX4_digest_41 (by decide) (fun c3 => ?_) (fun c3 => ?_)
  · have h := h.1 c3
    refine lv_iconst (v := 0) C.1 C.2.1 dX4_digest_81 (by decide) ?_
    refine lv_istore_n (lv' := [(3, .int 0), (0, .ref (gad g 0)), (1, .long v1)]) C.1 C.2.1 dX4_digest_82 rfl hl (by decide) rfl (fun ls hl => ?_)
    obtain ⟨n, h⟩ := h
    exact k_X4_digest_L83 C n v1 0 u _ _ _ h hW (lv_sub hl [1, 2, 0] rfl)
  · have h := h.2 c3
    refine lv_iconst (v := 0) C.1 C.2.1 dX4_digest_44 (by decide) ?_
    refine lv_istore (lv' := [(4, .int 0), (0, .ref (gad g 0)), (1, .long v1), (3, .int v3)]) C.1 C.2.1 dX4_digest_45 hl (by decide) rfl (fun ls hl => ?_)
    obtain ⟨n, h⟩ := h
    exact k_X4_digest_L47 C hK33 n v1 v3 0 u _ _ _ h hW (lv_sub hl [1, 2, 3, 0] rfl)
theorem k_X4_digest_L33 {p : Program} {l : Launch} {e : Env} {s : State} {m : MethodId} {args : Array Value} {below : List Frame} {meth : Method} {c : Code} {g : GG} {A : Nat → Prop} {Q : Int64 → St → Prop} (C : MC p s m args meth c cX4_digest 5 RX4 (some .long) g A) : ∀ (n : Nat), ∀ (v1 : Int64) (v3 : Int32) (u : St) (H : Heap) (locs : List Loc) (ls : Array Slot), wp_X4_digest_L33 Q n v1 v3 u → WD g A s u H locs → lv_has ls 5 [(0, .ref (gad g 0)), (1, .long v1), (3, .int v3)] → W p l e rm_X4_digest s m args below meth c H locs 0 0 (MQ below (va_Ql Q (WQ g) A) args s 0 0 A) (F0 m 33 ls []) := by
  intro n
  induction n with
  | zero => intro v1 v3 u H locs ls h; exact False.elim h
  | succ n ih => exact k_X4_digest_B33 C ih
set_option maxRecDepth 100000 in
theorem k_X4_digest_B6 {p : Program} {l : Launch} {e : Env} {s : State} {m : MethodId} {args : Array Value} {below : List Frame} {meth : Method} {c : Code} {g : GG} {A : Nat → Prop} {Q : Int64 → St → Prop} (C : MC p s m args meth c cX4_digest 5 RX4 (some .long) g A) {K6 : Int64 → Int32 → St → Prop} (hK6 : ∀ (v1 : Int64) (v3 : Int32) (u : St) (H : Heap) (locs : List Loc) (ls : Array Slot), K6 v1 v3 u → WD g A s u H locs → lv_has ls 5 [(0, .ref (gad g 0)), (1, .long v1), (3, .int v3)] → W p l e rm_X4_digest s m args below meth c H locs 0 0 (MQ below (va_Ql Q (WQ g) A) args s 0 0 A) (F0 m 6 ls [])) : ∀ (v1 : Int64) (v3 : Int32) (u : St) (H : Heap) (locs : List Loc) (ls : Array Slot), wp_X4_digest_B6 Q K6 v1 v3 u → WD g A s u H locs → lv_has ls 5 [(0, .ref (gad g 0)), (1, .long v1), (3, .int v3)] → W p l e rm_X4_digest s m args below meth c H locs 0 0 (MQ below (va_Ql Q (WQ g) A) args s 0 0 A) (F0 m 6 ls []) := by
  intro v1 v3 u H locs ls h hW hl
  refine lv_iload_n C.1 C.2.1 dX4_digest_6 rfl (lv_at hl 2 rfl) ?_
  refine lv_bipush (v := 11) C.1 C.2.1 dX4_digest_7 (by decide) ?_
  refine lv_icmp_ge (tgt := 31) C.1 C.2.1 dX4_digest_9 (by decide) (fun c1 => ?_) (fun c1 => ?_)
  · have h := h.1 c1
    refine lv_iconst (v := 0) C.1 C.2.1 dX4_digest_31 (by decide) ?_
    refine lv_istore_n (lv' := [(3, .int 0), (0, .ref (gad g 0)), (1, .long v1)]) C.1 C.2.1 dX4_digest_32 rfl hl (by decide) rfl (fun ls hl => ?_)
    obtain ⟨n, h⟩ := h
    exact k_X4_digest_L33 C n v1 0 u _ _ _ h hW (lv_sub hl [1, 2, 0] rfl)
  · have h := h.2 c1
    refine lv_ldc2 (v := 31) C.1 C.2.1 C.2.2.2.1 (C.2.2.2.2.1 _ qk_X4_307) dX4_digest_12 ?_
    refine lv_lload_n C.1 C.2.1 dX4_digest_15 rfl (lv_at hl 1 rfl) ?_
    refine lv_lmul C.1 C.2.1 dX4_digest_16 ?_
    refine lv_aload_n C.1 C.2.1 dX4_digest_17 rfl (lv_at hl 0 rfl) ?_
    refine lv_iload_n C.1 C.2.1 dX4_digest_18 rfl (lv_at hl 2 rfl) ?_
    refine x_Vi (rest := [.long (31 * v1)]) C hW (c_X4_count l g h) km_X4_count oKeys rfl qm_X4_309 ⟨rfl, rfl⟩ (by decide) rfl hl.1 rfl (Nat.le_of_ble_eq_true rfl) ⟨Nat.zero_le _, Nat.zero_le _⟩ dX4_digest_19 (fun r2 u2 H locs h hW => ?_)
    refine lv_i2l (v := r2.toInt64) C.1 C.2.1 dX4_digest_22 rfl ?_
    refine lv_ladd C.1 C.2.1 dX4_digest_23 ?_
    refine lv_lstore_n (lv' := [(1, .long ((31 * v1) + r2.toInt64)), (0, .ref (gad g 0)), (3, .int v3)]) C.1 C.2.1 dX4_digest_24 rfl hl (by decide) rfl (fun ls hl => ?_)
    refine lv_iinc (v := (v3 + 1)) (lv' := [(3, .int (v3 + 1)), (1, .long ((31 * v1) + r2.toInt64)), (0, .ref (gad g 0))]) C.1 C.2.1 dX4_digest_25 hl (k := 2) rfl rfl (by decide) rfl (fun ls hl => ?_)
    refine lv_goto (tgt := 6) C.1 C.2.1 dX4_digest_28 (by decide) ?_
    exact hK6 ((31 * v1) + r2.toInt64) (v3 + 1) u2 _ _ _ h hW (lv_sub hl [2, 1, 0] rfl)
theorem k_X4_digest_L6 {p : Program} {l : Launch} {e : Env} {s : State} {m : MethodId} {args : Array Value} {below : List Frame} {meth : Method} {c : Code} {g : GG} {A : Nat → Prop} {Q : Int64 → St → Prop} (C : MC p s m args meth c cX4_digest 5 RX4 (some .long) g A) : ∀ (n : Nat), ∀ (v1 : Int64) (v3 : Int32) (u : St) (H : Heap) (locs : List Loc) (ls : Array Slot), wp_X4_digest_L6 Q n v1 v3 u → WD g A s u H locs → lv_has ls 5 [(0, .ref (gad g 0)), (1, .long v1), (3, .int v3)] → W p l e rm_X4_digest s m args below meth c H locs 0 0 (MQ below (va_Ql Q (WQ g) A) args s 0 0 A) (F0 m 6 ls []) := by
  intro n
  induction n with
  | zero => intro v1 v3 u H locs ls h; exact False.elim h
  | succ n ih => exact k_X4_digest_B6 C ih
set_option maxRecDepth 100000 in
theorem c_X4_digest (l : Launch) (g : GG) {u : St} {Q : Int64 → St → Prop} (h : wp_X4_digest u Q) : CL l yX4_digest cX4_digest 5 (some .long) rm_X4_digest g [.ref (gad g 0)] u Q := by
  refine ent (own := RX4) (Qc := va_Ql Q (WQ g)) (by decide) rfl (Nat.le_of_ble_eq_true rfl) ?_
  intro p e s m below meth c A ls C hl hW
  have hl : lv_has ls 5 [(0, .ref (gad g 0))] := hl
  unfold wp_X4_digest at h
  refine lv_ldc2 (v := 17) C.1 C.2.1 C.2.2.2.1 (C.2.2.2.2.1 _ qk_X4_305) dX4_digest_0 ?_
  refine lv_lstore_n (lv' := [(1, .long 17), (0, .ref (gad g 0))]) C.1 C.2.1 dX4_digest_3 rfl hl (by decide) rfl (fun ls hl => ?_)
  refine lv_iconst (v := 0) C.1 C.2.1 dX4_digest_4 (by decide) ?_
  refine lv_istore_n (lv' := [(3, .int 0), (1, .long 17), (0, .ref (gad g 0))]) C.1 C.2.1 dX4_digest_5 rfl hl (by decide) rfl (fun ls hl => ?_)
  obtain ⟨n, h⟩ := h
  exact k_X4_digest_L6 C n 17 0 u _ _ _ h hW (lv_sub hl [2, 1, 0] rfl)
set_option maxRecDepth 100000 in
theorem c_X4_valueOf (l : Launch) (g : GG) {p1 : Int32} {u : St} {Q : Int32 → St → Prop} (h : wp_X4_valueOf p1 u Q) : CI l yX4_valueOf cX4_valueOf 2 (some .int) rm_X4_valueOf g [.ref (gad g 0), .int p1] u Q := by
  refine ent (own := RX4) (Qc := va_Qi Q (WQ g)) (by decide) rfl (Nat.le_of_ble_eq_true rfl) ?_
  intro p e s m below meth c A ls C hl hW
  have hl : lv_has ls 2 [(0, .ref (gad g 0)), (1, .int p1)] := hl
  unfold wp_X4_valueOf at h
  refine lv_iload_n C.1 C.2.1 dX4_valueOf_0 rfl (lv_at hl 1 rfl) ?_
  refine lv_sipush (v := 128) C.1 C.2.1 dX4_valueOf_1 (by decide) ?_
  refine x_Si (rest := []) C hW (c_X4_within l g h) km_X4_within qm_X4_81 ⟨rfl, rfl⟩ (by decide) rfl hl.1 rfl (Nat.le_of_ble_eq_true rfl) ⟨Nat.zero_le _, Nat.zero_le _⟩ dX4_valueOf_4 (fun r1 u1 H locs h hW => ?_)
  refine lv_if_eq (tgt := 19) C.1 C.2.1 dX4_valueOf_7 (by decide) (fun c2 => ?_) (fun c2 => ?_)
  · have h := h.1 c2
    refine lv_iconst (v := 0) C.1 C.2.1 dX4_valueOf_19 (by decide) ?_
    exact x_iret C hW h dX4_valueOf_20
  · have h := h.2 c2
    refine lv_aload_n C.1 C.2.1 dX4_valueOf_10 rfl (lv_at hl 0 rfl) ?_
    refine fg_X4_51 C hW dX4_valueOf_11 ?_
    refine lv_iload_n C.1 C.2.1 dX4_valueOf_14 rfl (lv_at hl 1 rfl) ?_
    obtain ⟨h3, h⟩ := h
    refine x_iald C hW g_30 h3 dX4_valueOf_15 ?_
    refine lv_goto (tgt := 20) C.1 C.2.1 dX4_valueOf_16 (by decide) ?_
    exact x_iret C hW h dX4_valueOf_20
set_option maxRecDepth 100000 in
theorem c_X4_ghostsOf (l : Launch) (g : GG) {p1 : Int32} {u : St} {Q : Int32 → St → Prop} (h : wp_X4_ghostsOf p1 u Q) : CI l yX4_ghostsOf cX4_ghostsOf 2 (some .int) rm_X4_ghostsOf g [.ref (gad g 0), .int p1] u Q := by
  refine ent (own := RX4) (Qc := va_Qi Q (WQ g)) (by decide) rfl (Nat.le_of_ble_eq_true rfl) ?_
  intro p e s m below meth c A ls C hl hW
  have hl : lv_has ls 2 [(0, .ref (gad g 0)), (1, .int p1)] := hl
  unfold wp_X4_ghostsOf at h
  refine lv_aload_n C.1 C.2.1 dX4_ghostsOf_0 rfl (lv_at hl 0 rfl) ?_
  refine lv_iload_n C.1 C.2.1 dX4_ghostsOf_1 rfl (lv_at hl 1 rfl) ?_
  refine x_Vi (rest := []) C hW (c_X4_valueOf l g h) km_X4_valueOf oKeys rfl qm_X4_267 ⟨rfl, rfl⟩ (by decide) rfl hl.1 rfl (Nat.le_of_ble_eq_true rfl) ⟨Nat.zero_le _, Nat.zero_le _⟩ dX4_ghostsOf_2 (fun r1 u1 H locs h hW => ?_)
  refine lv_iload_n C.1 C.2.1 dX4_ghostsOf_5 rfl (lv_at hl 1 rfl) ?_
  refine lv_iconst (v := (-1)) C.1 C.2.1 dX4_ghostsOf_6 (by decide) ?_
  refine lv_ixor C.1 C.2.1 dX4_ghostsOf_7 ?_
  refine lv_iand C.1 C.2.1 dX4_ghostsOf_8 ?_
  refine x_Si (rest := []) C hW (c_J6_bitCount_0f7a4 l g h) km_J6_bitCount_0f7a4 qm_X4_156 ⟨rfl, rfl⟩ (by decide) rfl hl.1 rfl (Nat.le_of_ble_eq_true rfl) ⟨Nat.zero_le _, Nat.zero_le _⟩ dX4_ghostsOf_9 (fun r2 u2 H locs h hW => ?_)
  exact x_iret C hW h dX4_ghostsOf_12
set_option maxRecDepth 100000 in
theorem k_X4_takeBackTurn_J81 {p : Program} {l : Launch} {e : Env} {s : State} {m : MethodId} {args : Array Value} {below : List Frame} {meth : Method} {c : Code} {g : GG} {A : Nat → Prop} {p1 : Int32} {Q : St → Prop} (C : MC p s m args meth c cX4_takeBackTurn 8 RX4 none g A) {K10 : Int32 → Int32 → St → Prop} (hK10 : ∀ (v2 : Int32) (v3 : Int32) (u : St) (H : Heap) (locs : List Loc) (ls : Array Slot), K10 v2 v3 u → WD g A s u H locs → lv_has ls 8 [(0, .ref (gad g 0)), (1, .int p1), (2, .int v2), (3, .int v3)] → W p l e rm_X4_takeBackTurn s m args below meth c H locs 0 0 (MQ below (va_Qv Q (WQ g) A) args s 0 0 A) (F0 m 10 ls [])) {K26 : Int32 → Int32 → Int32 → Int32 → St → Prop} (hK26 : ∀ (v2 : Int32) (v3 : Int32) (v4 : Int32) (v5 : Int32) (u : St) (H : Heap) (locs : List Loc) (ls : Array Slot), K26 v2 v3 v4 v5 u → WD g A s u H locs → lv_has ls 8 [(0, .ref (gad g 0)), (1, .int p1), (2, .int v2), (3, .int v3), (4, .int v4), (5, .int v5)] → W p l e rm_X4_takeBackTurn s m args below meth c H locs 0 0 (MQ below (va_Qv Q (WQ g) A) args s 0 0 A) (F0 m 26 ls [])) : ∀ (v2 : Int32) (v3 : Int32) (v4 : Int32) (v5 : Int32) (v6 : Int32) (t0 : Int32) (u : St) (H : Heap) (locs : List Loc) (ls : Array Slot), wp_X4_takeBackTurn_J81 p1 Q K10 K26 v2 v3 v4 v5 v6 t0 u → WD g A s u H locs → lv_has ls 8 [(0, .ref (gad g 0)), (1, .int p1), (2, .int v2), (3, .int v3), (4, .int v4), (5, .int v5), (6, .int v6)] → W p l e rm_X4_takeBackTurn s m args below meth c H locs 0 0 (MQ below (va_Qv Q (WQ g) A) args s 0 0 A) (F0 m 81 ls [.int t0]) := by
  intro v2 v3 v4 v5 v6 t0 u H locs ls h hW hl
  refine lv_istore (lv' := [(7, .int t0), (0, .ref (gad g 0)), (1, .int p1), (2, .int v2), (3, .int v3), (4, .int v4), (5, .int v5), (6, .int v6)]) C.1 C.2.1 dX4_takeBackTurn_81 hl (by decide) rfl (fun ls hl => ?_)
  refine lv_iload C.1 C.2.1 dX4_takeBackTurn_83 (lv_at hl 0 rfl) ?_
  refine lv_if_eq (tgt := 93) C.1 C.2.1 dX4_takeBackTurn_85 (by decide) (fun c11 => ?_) (fun c11 => ?_)
  · have h := h.1 c11
    refine lv_iload C.1 C.2.1 dX4_takeBackTurn_93 (lv_at hl 5 rfl) ?_
    refine lv_istore (lv' := [(4, .int v4), (7, .int t0), (0, .ref (gad g 0)), (1, .int p1), (2, .int v2), (3, .int v3), (5, .int v5), (6, .int v6)]) C.1 C.2.1 dX4_takeBackTurn_95 hl (by decide) rfl (fun ls hl => ?_)
    refine lv_iinc (v := (v5 + 1)) (lv' := [(5, .int (v5 + 1)), (4, .int v4), (7, .int t0), (0, .ref (gad g 0)), (1, .int p1), (2, .int v2), (3, .int v3), (6, .int v6)]) C.1 C.2.1 dX4_takeBackTurn_97 hl (k := 6) rfl rfl (by decide) rfl (fun ls hl => ?_)
    refine lv_goto (tgt := 26) C.1 C.2.1 dX4_takeBackTurn_100 (by decide) ?_
    exact hK26 v2 v3 v4 (v5 + 1) u _ _ _ h hW (lv_sub hl [3, 4, 5, 6, 1, 0] rfl)
  · have h := h.2 c11
    refine lv_iload C.1 C.2.1 dX4_takeBackTurn_88 (lv_at hl 7 rfl) ?_
    refine lv_goto (tgt := 95) C.1 C.2.1 dX4_takeBackTurn_90 (by decide) ?_
    refine lv_istore (lv' := [(4, .int v6), (7, .int t0), (0, .ref (gad g 0)), (1, .int p1), (2, .int v2), (3, .int v3), (5, .int v5), (6, .int v6)]) C.1 C.2.1 dX4_takeBackTurn_95 hl (by decide) rfl (fun ls hl => ?_)
    refine lv_iinc (v := (v5 + 1)) (lv' := [(5, .int (v5 + 1)), (4, .int v6), (7, .int t0), (0, .ref (gad g 0)), (1, .int p1), (2, .int v2), (3, .int v3), (6, .int v6)]) C.1 C.2.1 dX4_takeBackTurn_97 hl (k := 6) rfl rfl (by decide) rfl (fun ls hl => ?_)
    refine lv_goto (tgt := 26) C.1 C.2.1 dX4_takeBackTurn_100 (by decide) ?_
    exact hK26 v2 v3 v6 (v5 + 1) u _ _ _ h hW (lv_sub hl [3, 4, 5, 6, 1, 0] rfl)
set_option maxRecDepth 100000 in
theorem k_X4_takeBackTurn_B26 {p : Program} {l : Launch} {e : Env} {s : State} {m : MethodId} {args : Array Value} {below : List Frame} {meth : Method} {c : Code} {g : GG} {A : Nat → Prop} {p1 : Int32} {Q : St → Prop} (C : MC p s m args meth c cX4_takeBackTurn 8 RX4 none g A) {K10 : Int32 → Int32 → St → Prop} (hK10 : ∀ (v2 : Int32) (v3 : Int32) (u : St) (H : Heap) (locs : List Loc) (ls : Array Slot), K10 v2 v3 u → WD g A s u H locs → lv_has ls 8 [(0, .ref (gad g 0)), (1, .int p1), (2, .int v2), (3, .int v3)] → W p l e rm_X4_takeBackTurn s m args below meth c H locs 0 0 (MQ below (va_Qv Q (WQ g) A) args s 0 0 A) (F0 m 10 ls [])) {K26 : Int32 → Int32 → Int32 → Int32 → St → Prop} (hK26 : ∀ (v2 : Int32) (v3 : Int32) (v4 : Int32) (v5 : Int32) (u : St) (H : Heap) (locs : List Loc) (ls : Array Slot), K26 v2 v3 v4 v5 u → WD g A s u H locs → lv_has ls 8 [(0, .ref (gad g 0)), (1, .int p1), (2, .int v2), (3, .int v3), (4, .int v4), (5, .int v5)] → W p l e rm_X4_takeBackTurn s m args below meth c H locs 0 0 (MQ below (va_Qv Q (WQ g) A) args s 0 0 A) (F0 m 26 ls [])) : ∀ (v2 : Int32) (v3 : Int32) (v4 : Int32) (v5 : Int32) (u : St) (H : Heap) (locs : List Loc) (ls : Array Slot), wp_X4_takeBackTurn_B26 p1 Q K10 K26 v2 v3 v4 v5 u → WD g A s u H locs → lv_has ls 8 [(0, .ref (gad g 0)), (1, .int p1), (2, .int v2), (3, .int v3), (4, .int v4), (5, .int v5)] → W p l e rm_X4_takeBackTurn s m args below meth c H locs 0 0 (MQ below (va_Qv Q (WQ g) A) args s 0 0 A) (F0 m 26 ls []) := by
  intro v2 v3 v4 v5 u H locs ls h hW hl
  refine lv_iload C.1 C.2.1 dX4_takeBackTurn_26 (lv_at hl 5 rfl) ?_
  refine lv_aload_n C.1 C.2.1 dX4_takeBackTurn_28 rfl (lv_at hl 0 rfl) ?_
  refine fg_X4_27 C hW dX4_takeBackTurn_29 ?_
  refine fg_X4_137 C hW (Or.inl rfl) dX4_takeBackTurn_32 ?_
  refine lv_icmp_ge (tgt := 103) C.1 C.2.1 dX4_takeBackTurn_35 (by decide) (fun c4 => ?_) (fun c4 => ?_)
  · have h := h.1 c4
    refine lv_aload_n C.1 C.2.1 dX4_takeBackTurn_103 rfl (lv_at hl 0 rfl) ?_
    refine fg_X4_51 C hW dX4_takeBackTurn_104 ?_
    refine lv_iload_n C.1 C.2.1 dX4_takeBackTurn_107 rfl (lv_at hl 3 rfl) ?_
    refine lv_iload C.1 C.2.1 dX4_takeBackTurn_108 (lv_at hl 4 rfl) ?_
    obtain ⟨h5, h⟩ := h
    refine x_iast C hW g_30 h5 dX4_takeBackTurn_110 (fun u6 H locs e6 hW => ?_)
    have h := nxt_get h e6
    refine lv_iinc (v := (v3 + 1)) (lv' := [(3, .int (v3 + 1)), (0, .ref (gad g 0)), (1, .int p1), (2, .int v2), (4, .int v4), (5, .int v5)]) C.1 C.2.1 dX4_takeBackTurn_111 hl (k := 3) rfl rfl (by decide) rfl (fun ls hl => ?_)
    refine lv_goto (tgt := 10) C.1 C.2.1 dX4_takeBackTurn_114 (by decide) ?_
    exact hK10 v2 (v3 + 1) u6 _ _ _ h hW (lv_sub hl [1, 2, 3, 0] rfl)
  · have h := h.2 c4
    refine lv_aload_n C.1 C.2.1 dX4_takeBackTurn_38 rfl (lv_at hl 0 rfl) ?_
    refine lv_iload_n C.1 C.2.1 dX4_takeBackTurn_39 rfl (lv_at hl 3 rfl) ?_
    refine lv_iconst (v := 1) C.1 C.2.1 dX4_takeBackTurn_40 (by decide) ?_
    refine lv_iload C.1 C.2.1 dX4_takeBackTurn_41 (lv_at hl 5 rfl) ?_
    refine lv_ishl C.1 C.2.1 dX4_takeBackTurn_43 ?_
    refine lv_ior C.1 C.2.1 dX4_takeBackTurn_44 ?_
    refine x_Vi (rest := []) C hW (c_X4_valueOf l g h) km_X4_valueOf oKeys rfl qm_X4_267 ⟨rfl, rfl⟩ (by decide) rfl hl.1 rfl (Nat.le_of_ble_eq_true rfl) ⟨Nat.zero_le _, Nat.zero_le _⟩ dX4_takeBackTurn_45 (fun r7 u7 H locs h hW => ?_)
    refine lv_istore (lv' := [(6, .int r7), (0, .ref (gad g 0)), (1, .int p1), (2, .int v2), (3, .int v3), (4, .int v4), (5, .int v5)]) C.1 C.2.1 dX4_takeBackTurn_48 hl (by decide) rfl (fun ls hl => ?_)
    refine lv_iload_n C.1 C.2.1 dX4_takeBackTurn_50 rfl (lv_at hl 2 rfl) ?_
    refine lv_if_eq (tgt := 69) C.1 C.2.1 dX4_takeBackTurn_51 (by decide) (fun c8 => ?_) (fun c8 => ?_)
    · have h := h.1 c8
      refine lv_iload C.1 C.2.1 dX4_takeBackTurn_69 (lv_at hl 0 rfl) ?_
      refine lv_iload C.1 C.2.1 dX4_takeBackTurn_71 (lv_at hl 5 rfl) ?_
      refine lv_icmp_ge (tgt := 80) C.1 C.2.1 dX4_takeBackTurn_73 (by decide) (fun c9 => ?_) (fun c9 => ?_)
      · have h := h.1 c9
        refine lv_iconst (v := 0) C.1 C.2.1 dX4_takeBackTurn_80 (by decide) ?_
        exact k_X4_takeBackTurn_J81 C hK10 hK26 v2 v3 v4 v5 r7 0 u7 _ _ _ h hW (lv_sub hl [1, 2, 3, 4, 5, 6, 0] rfl)
      · have h := h.2 c9
        refine lv_iconst (v := 1) C.1 C.2.1 dX4_takeBackTurn_76 (by decide) ?_
        refine lv_goto (tgt := 81) C.1 C.2.1 dX4_takeBackTurn_77 (by decide) ?_
        exact k_X4_takeBackTurn_J81 C hK10 hK26 v2 v3 v4 v5 r7 1 u7 _ _ _ h hW (lv_sub hl [1, 2, 3, 4, 5, 6, 0] rfl)
    · have h := h.2 c8
      refine lv_iload C.1 C.2.1 dX4_takeBackTurn_54 (lv_at hl 0 rfl) ?_
      refine lv_iload C.1 C.2.1 dX4_takeBackTurn_56 (lv_at hl 5 rfl) ?_
      refine lv_icmp_le (tgt := 65) C.1 C.2.1 dX4_takeBackTurn_58 (by decide) (fun c10 => ?_) (fun c10 => ?_)
      · have h := h.1 c10
        refine lv_iconst (v := 0) C.1 C.2.1 dX4_takeBackTurn_65 (by decide) ?_
        refine lv_goto (tgt := 81) C.1 C.2.1 dX4_takeBackTurn_66 (by decide) ?_
        exact k_X4_takeBackTurn_J81 C hK10 hK26 v2 v3 v4 v5 r7 0 u7 _ _ _ h hW (lv_sub hl [1, 2, 3, 4, 5, 6, 0] rfl)
      · have h := h.2 c10
        refine lv_iconst (v := 1) C.1 C.2.1 dX4_takeBackTurn_61 (by decide) ?_
        refine lv_goto (tgt := 81) C.1 C.2.1 dX4_takeBackTurn_62 (by decide) ?_
        exact k_X4_takeBackTurn_J81 C hK10 hK26 v2 v3 v4 v5 r7 1 u7 _ _ _ h hW (lv_sub hl [1, 2, 3, 4, 5, 6, 0] rfl)
theorem k_X4_takeBackTurn_L26 {p : Program} {l : Launch} {e : Env} {s : State} {m : MethodId} {args : Array Value} {below : List Frame} {meth : Method} {c : Code} {g : GG} {A : Nat → Prop} {p1 : Int32} {Q : St → Prop} (C : MC p s m args meth c cX4_takeBackTurn 8 RX4 none g A) {K10 : Int32 → Int32 → St → Prop} (hK10 : ∀ (v2 : Int32) (v3 : Int32) (u : St) (H : Heap) (locs : List Loc) (ls : Array Slot), K10 v2 v3 u → WD g A s u H locs → lv_has ls 8 [(0, .ref (gad g 0)), (1, .int p1), (2, .int v2), (3, .int v3)] → W p l e rm_X4_takeBackTurn s m args below meth c H locs 0 0 (MQ below (va_Qv Q (WQ g) A) args s 0 0 A) (F0 m 10 ls [])) : ∀ (n : Nat), ∀ (v2 : Int32) (v3 : Int32) (v4 : Int32) (v5 : Int32) (u : St) (H : Heap) (locs : List Loc) (ls : Array Slot), wp_X4_takeBackTurn_L26 p1 Q K10 n v2 v3 v4 v5 u → WD g A s u H locs → lv_has ls 8 [(0, .ref (gad g 0)), (1, .int p1), (2, .int v2), (3, .int v3), (4, .int v4), (5, .int v5)] → W p l e rm_X4_takeBackTurn s m args below meth c H locs 0 0 (MQ below (va_Qv Q (WQ g) A) args s 0 0 A) (F0 m 26 ls []) := by
  intro n
  induction n with
  | zero => intro v2 v3 v4 v5 u H locs ls h; exact False.elim h
  | succ n ih => exact k_X4_takeBackTurn_B26 (p1 := p1) C hK10 ih
set_option maxRecDepth 100000 in
theorem k_X4_takeBackTurn_B10 {p : Program} {l : Launch} {e : Env} {s : State} {m : MethodId} {args : Array Value} {below : List Frame} {meth : Method} {c : Code} {g : GG} {A : Nat → Prop} {p1 : Int32} {Q : St → Prop} (C : MC p s m args meth c cX4_takeBackTurn 8 RX4 none g A) {K10 : Int32 → Int32 → St → Prop} (hK10 : ∀ (v2 : Int32) (v3 : Int32) (u : St) (H : Heap) (locs : List Loc) (ls : Array Slot), K10 v2 v3 u → WD g A s u H locs → lv_has ls 8 [(0, .ref (gad g 0)), (1, .int p1), (2, .int v2), (3, .int v3)] → W p l e rm_X4_takeBackTurn s m args below meth c H locs 0 0 (MQ below (va_Qv Q (WQ g) A) args s 0 0 A) (F0 m 10 ls [])) : ∀ (v2 : Int32) (v3 : Int32) (u : St) (H : Heap) (locs : List Loc) (ls : Array Slot), wp_X4_takeBackTurn_B10 p1 Q K10 v2 v3 u → WD g A s u H locs → lv_has ls 8 [(0, .ref (gad g 0)), (1, .int p1), (2, .int v2), (3, .int v3)] → W p l e rm_X4_takeBackTurn s m args below meth c H locs 0 0 (MQ below (va_Qv Q (WQ g) A) args s 0 0 A) (F0 m 10 ls []) := by
  intro v2 v3 u H locs ls h hW hl
  refine lv_iload_n C.1 C.2.1 dX4_takeBackTurn_10 rfl (lv_at hl 3 rfl) ?_
  refine lv_iload_n C.1 C.2.1 dX4_takeBackTurn_11 rfl (lv_at hl 2 rfl) ?_
  refine lv_icmp_ge (tgt := 117) C.1 C.2.1 dX4_takeBackTurn_12 (by decide) (fun c2 => ?_) (fun c2 => ?_)
  · have h := h.1 c2
    exact x_vret C hW h dX4_takeBackTurn_117
  · have h := h.2 c2
    refine lv_aload_n C.1 C.2.1 dX4_takeBackTurn_15 rfl (lv_at hl 0 rfl) ?_
    refine fg_X4_51 C hW dX4_takeBackTurn_16 ?_
    refine lv_iload_n C.1 C.2.1 dX4_takeBackTurn_19 rfl (lv_at hl 3 rfl) ?_
    obtain ⟨h3, h⟩ := h
    refine x_iald C hW g_30 h3 dX4_takeBackTurn_20 ?_
    refine lv_istore (lv' := [(4, .int (gi u 30 (Int32.toNatClampNeg v3))), (0, .ref (gad g 0)), (1, .int p1), (2, .int v2), (3, .int v3)]) C.1 C.2.1 dX4_takeBackTurn_21 hl (by decide) rfl (fun ls hl => ?_)
    refine lv_iconst (v := 0) C.1 C.2.1 dX4_takeBackTurn_23 (by decide) ?_
    refine lv_istore (lv' := [(5, .int 0), (4, .int (gi u 30 (Int32.toNatClampNeg v3))), (0, .ref (gad g 0)), (1, .int p1), (2, .int v2), (3, .int v3)]) C.1 C.2.1 dX4_takeBackTurn_24 hl (by decide) rfl (fun ls hl => ?_)
    obtain ⟨n, h⟩ := h
    exact k_X4_takeBackTurn_L26 C hK10 n v2 v3 (gi u 30 (Int32.toNatClampNeg v3)) 0 u _ _ _ h hW (lv_sub hl [2, 3, 4, 5, 1, 0] rfl)
theorem k_X4_takeBackTurn_L10 {p : Program} {l : Launch} {e : Env} {s : State} {m : MethodId} {args : Array Value} {below : List Frame} {meth : Method} {c : Code} {g : GG} {A : Nat → Prop} {p1 : Int32} {Q : St → Prop} (C : MC p s m args meth c cX4_takeBackTurn 8 RX4 none g A) : ∀ (n : Nat), ∀ (v2 : Int32) (v3 : Int32) (u : St) (H : Heap) (locs : List Loc) (ls : Array Slot), wp_X4_takeBackTurn_L10 p1 Q n v2 v3 u → WD g A s u H locs → lv_has ls 8 [(0, .ref (gad g 0)), (1, .int p1), (2, .int v2), (3, .int v3)] → W p l e rm_X4_takeBackTurn s m args below meth c H locs 0 0 (MQ below (va_Qv Q (WQ g) A) args s 0 0 A) (F0 m 10 ls []) := by
  intro n
  induction n with
  | zero => intro v2 v3 u H locs ls h; exact False.elim h
  | succ n ih => exact k_X4_takeBackTurn_B10 (p1 := p1) C ih
set_option maxRecDepth 100000 in
theorem c_X4_takeBackTurn (l : Launch) (g : GG) {p1 : Int32} {u : St} {Q : St → Prop} (h : wp_X4_takeBackTurn p1 u Q) : CV l yX4_takeBackTurn cX4_takeBackTurn 8 none rm_X4_takeBackTurn g [.ref (gad g 0), .int p1] u Q := by
  refine ent (own := RX4) (Qc := va_Qv Q (WQ g)) (by decide) rfl (Nat.le_of_ble_eq_true rfl) ?_
  intro p e s m below meth c A ls C hl hW
  have hl : lv_has ls 8 [(0, .ref (gad g 0)), (1, .int p1)] := hl
  unfold wp_X4_takeBackTurn at h
  refine lv_aload_n C.1 C.2.1 dX4_takeBackTurn_0 rfl (lv_at hl 0 rfl) ?_
  refine fg_X4_27 C hW dX4_takeBackTurn_1 ?_
  refine x_Vi (rest := []) C hW (c_X0_sets l g (Or.inl rfl) h) km_X0_sets (oLay (Or.inl rfl)) rfl qm_X4_216 ⟨rfl, rfl⟩ (by decide) rfl hl.1 rfl (Nat.le_of_ble_eq_true rfl) ⟨Nat.zero_le _, Nat.zero_le _⟩ dX4_takeBackTurn_4 (fun r1 u1 H locs h hW => ?_)
  refine lv_istore_n (lv' := [(2, .int r1), (0, .ref (gad g 0)), (1, .int p1)]) C.1 C.2.1 dX4_takeBackTurn_7 rfl hl (by decide) rfl (fun ls hl => ?_)
  refine lv_iconst (v := 0) C.1 C.2.1 dX4_takeBackTurn_8 (by decide) ?_
  refine lv_istore_n (lv' := [(3, .int 0), (2, .int r1), (0, .ref (gad g 0)), (1, .int p1)]) C.1 C.2.1 dX4_takeBackTurn_9 rfl hl (by decide) rfl (fun ls hl => ?_)
  obtain ⟨n, h⟩ := h
  exact k_X4_takeBackTurn_L10 C n r1 0 u1 _ _ _ h hW (lv_sub hl [2, 3, 1, 0] rfl)
set_option maxRecDepth 100000 in
theorem k_X4_duel_J80 {p : Program} {l : Launch} {e : Env} {s : State} {m : MethodId} {args : Array Value} {below : List Frame} {meth : Method} {c : Code} {g : GG} {A : Nat → Prop} {p1 : Int32} {Q : Int32 → St → Prop} (C : MC p s m args meth c cX4_duel 4 RX4 (some .int) g A) {K64 : Int32 → St → Prop} (hK64 : ∀ (v3 : Int32) (u : St) (H : Heap) (locs : List Loc) (ls : Array Slot), K64 v3 u → WD g A s u H locs → lv_has ls 4 [(0, .ref (gad g 0)), (3, .int v3)] → W p l e rm_X4_duel s m args below meth c H locs 0 0 (MQ below (va_Qi Q (WQ g) A) args s 0 0 A) (F0 m 64 ls [])) : ∀ (v3 : Int32) (t0 : Int32) (u : St) (H : Heap) (locs : List Loc) (ls : Array Slot), wp_X4_duel_J80 p1 Q K64 v3 t0 u → WD g A s u H locs → lv_has ls 4 [(0, .ref (gad g 0)), (3, .int v3)] → W p l e rm_X4_duel s m args below meth c H locs 0 0 (MQ below (va_Qi Q (WQ g) A) args s 0 0 A) (F0 m 80 ls [.int t0, .ref (gad g 0)]) := by
  intro v3 t0 u H locs ls h hW hl
  refine x_Vv (rest := []) C hW (c_X4_takeBackTurn l g h) km_X4_takeBackTurn oKeys rfl qm_X4_263 ⟨rfl, rfl⟩ (by decide) rfl hl.1 rfl (Nat.le_of_ble_eq_true rfl) ⟨Nat.zero_le _, Nat.zero_le _⟩ dX4_duel_80 (fun u13 H locs h hW => ?_)
  refine lv_iinc (v := (v3 + (-1))) (lv' := [(3, .int (v3 + (-1))), (0, .ref (gad g 0))]) C.1 C.2.1 dX4_duel_83 hl (k := 1) rfl rfl (by decide) rfl (fun ls hl => ?_)
  refine lv_goto (tgt := 64) C.1 C.2.1 dX4_duel_86 (by decide) ?_
  exact hK64 (v3 + (-1)) u13 _ _ _ h hW (lv_sub hl [1, 0] rfl)
set_option maxRecDepth 100000 in
theorem k_X4_duel_B64 {p : Program} {l : Launch} {e : Env} {s : State} {m : MethodId} {args : Array Value} {below : List Frame} {meth : Method} {c : Code} {g : GG} {A : Nat → Prop} {p1 : Int32} {Q : Int32 → St → Prop} (C : MC p s m args meth c cX4_duel 4 RX4 (some .int) g A) {K64 : Int32 → St → Prop} (hK64 : ∀ (v3 : Int32) (u : St) (H : Heap) (locs : List Loc) (ls : Array Slot), K64 v3 u → WD g A s u H locs → lv_has ls 4 [(0, .ref (gad g 0)), (3, .int v3)] → W p l e rm_X4_duel s m args below meth c H locs 0 0 (MQ below (va_Qi Q (WQ g) A) args s 0 0 A) (F0 m 64 ls [])) : ∀ (v3 : Int32) (u : St) (H : Heap) (locs : List Loc) (ls : Array Slot), wp_X4_duel_B64 p1 Q K64 v3 u → WD g A s u H locs → lv_has ls 4 [(0, .ref (gad g 0)), (3, .int v3)] → W p l e rm_X4_duel s m args below meth c H locs 0 0 (MQ below (va_Qi Q (WQ g) A) args s 0 0 A) (F0 m 64 ls []) := by
  intro v3 u H locs ls h hW hl
  refine lv_iload_n C.1 C.2.1 dX4_duel_64 rfl (lv_at hl 1 rfl) ?_
  refine lv_if_lt (tgt := 89) C.1 C.2.1 dX4_duel_65 (by decide) (fun c10 => ?_) (fun c10 => ?_)
  · have h := h.1 c10
    refine lv_aload_n C.1 C.2.1 dX4_duel_89 rfl (lv_at hl 0 rfl) ?_
    refine lv_aload_n C.1 C.2.1 dX4_duel_90 rfl (lv_at hl 0 rfl) ?_
    refine fg_X4_37 C hW dX4_duel_91 ?_
    refine fg_X4_179 C hW (Or.inl rfl) dX4_duel_94 ?_
    refine x_Vi (rest := []) C hW (c_X4_valueOf l g h) km_X4_valueOf oKeys rfl qm_X4_267 ⟨rfl, rfl⟩ (by decide) rfl hl.1 rfl (Nat.le_of_ble_eq_true rfl) ⟨Nat.zero_le _, Nat.zero_le _⟩ dX4_duel_97 (fun r11 u11 H locs h hW => ?_)
    exact x_iret C hW h dX4_duel_100
  · have h := h.2 c10
    refine lv_aload_n C.1 C.2.1 dX4_duel_68 rfl (lv_at hl 0 rfl) ?_
    refine lv_iload_n C.1 C.2.1 dX4_duel_69 rfl (lv_at hl 1 rfl) ?_
    refine lv_iconst (v := 2) C.1 C.2.1 dX4_duel_70 (by decide) ?_
    refine lv_irem C.1 C.2.1 dX4_duel_71 (by decide) ?_
    refine lv_if_ne (tgt := 79) C.1 C.2.1 dX4_duel_72 (by decide) (fun c12 => ?_) (fun c12 => ?_)
    · have h := h.1 c12
      refine lv_iconst (v := 0) C.1 C.2.1 dX4_duel_79 (by decide) ?_
      exact k_X4_duel_J80 C hK64 v3 0 u _ _ _ h hW hl
    · have h := h.2 c12
      refine lv_iconst (v := 1) C.1 C.2.1 dX4_duel_75 (by decide) ?_
      refine lv_goto (tgt := 80) C.1 C.2.1 dX4_duel_76 (by decide) ?_
      exact k_X4_duel_J80 C hK64 v3 1 u _ _ _ h hW hl
theorem k_X4_duel_L64 {p : Program} {l : Launch} {e : Env} {s : State} {m : MethodId} {args : Array Value} {below : List Frame} {meth : Method} {c : Code} {g : GG} {A : Nat → Prop} {p1 : Int32} {Q : Int32 → St → Prop} (C : MC p s m args meth c cX4_duel 4 RX4 (some .int) g A) : ∀ (n : Nat), ∀ (v3 : Int32) (u : St) (H : Heap) (locs : List Loc) (ls : Array Slot), wp_X4_duel_L64 p1 Q n v3 u → WD g A s u H locs → lv_has ls 4 [(0, .ref (gad g 0)), (3, .int v3)] → W p l e rm_X4_duel s m args below meth c H locs 0 0 (MQ below (va_Qi Q (WQ g) A) args s 0 0 A) (F0 m 64 ls []) := by
  intro n
  induction n with
  | zero => intro v3 u H locs ls h; exact False.elim h
  | succ n ih => exact k_X4_duel_B64 (p1 := p1) C ih
set_option maxRecDepth 100000 in
theorem k_X4_duel_B38 {p : Program} {l : Launch} {e : Env} {s : State} {m : MethodId} {args : Array Value} {below : List Frame} {meth : Method} {c : Code} {g : GG} {A : Nat → Prop} {p1 : Int32} {Q : Int32 → St → Prop} (C : MC p s m args meth c cX4_duel 4 RX4 (some .int) g A) {K38 : Int32 → Int32 → St → Prop} (hK38 : ∀ (v2 : Int32) (v3 : Int32) (u : St) (H : Heap) (locs : List Loc) (ls : Array Slot), K38 v2 v3 u → WD g A s u H locs → lv_has ls 4 [(0, .ref (gad g 0)), (1, .int p1), (2, .int v2), (3, .int v3)] → W p l e rm_X4_duel s m args below meth c H locs 0 0 (MQ below (va_Qi Q (WQ g) A) args s 0 0 A) (F0 m 38 ls [])) : ∀ (v2 : Int32) (v3 : Int32) (u : St) (H : Heap) (locs : List Loc) (ls : Array Slot), wp_X4_duel_B38 p1 Q K38 v2 v3 u → WD g A s u H locs → lv_has ls 4 [(0, .ref (gad g 0)), (1, .int p1), (2, .int v2), (3, .int v3)] → W p l e rm_X4_duel s m args below meth c H locs 0 0 (MQ below (va_Qi Q (WQ g) A) args s 0 0 A) (F0 m 38 ls []) := by
  intro v2 v3 u H locs ls h hW hl
  refine lv_iload_n C.1 C.2.1 dX4_duel_38 rfl (lv_at hl 3 rfl) ?_
  refine lv_iload_n C.1 C.2.1 dX4_duel_39 rfl (lv_at hl 2 rfl) ?_
  refine lv_icmp_ge (tgt := 60) C.1 C.2.1 dX4_duel_40 (by decide) (fun c6 => ?_) (fun c6 => ?_)
  · have h := h.1 c6
    refine lv_iload_n C.1 C.2.1 dX4_duel_60 rfl (lv_at hl 1 rfl) ?_
    refine lv_iconst (v := 1) C.1 C.2.1 dX4_duel_61 (by decide) ?_
    refine lv_isub C.1 C.2.1 dX4_duel_62 ?_
    refine lv_istore_n (lv' := [(3, .int (p1 - 1)), (0, .ref (gad g 0)), (1, .int p1), (2, .int v2)]) C.1 C.2.1 dX4_duel_63 rfl hl (by decide) rfl (fun ls hl => ?_)
    obtain ⟨n, h⟩ := h
    exact k_X4_duel_L64 C n (p1 - 1) u _ _ _ h hW (lv_sub hl [1, 0] rfl)
  · have h := h.2 c6
    refine lv_aload_n C.1 C.2.1 dX4_duel_43 rfl (lv_at hl 0 rfl) ?_
    refine fg_X4_51 C hW dX4_duel_44 ?_
    refine lv_iload_n C.1 C.2.1 dX4_duel_47 rfl (lv_at hl 3 rfl) ?_
    refine lv_aload_n C.1 C.2.1 dX4_duel_48 rfl (lv_at hl 0 rfl) ?_
    refine lv_iload_n C.1 C.2.1 dX4_duel_49 rfl (lv_at hl 3 rfl) ?_
    refine x_Vi (rest := [.int v3, .ref (gad g 30)]) C hW (c_X4_ghostsOf l g h) km_X4_ghostsOf oKeys rfl qm_X4_260 ⟨rfl, rfl⟩ (by decide) rfl hl.1 rfl (Nat.le_of_ble_eq_true rfl) ⟨Nat.zero_le _, Nat.zero_le _⟩ dX4_duel_50 (fun r7 u7 H locs h hW => ?_)
    obtain ⟨h8, h⟩ := h
    refine x_iast C hW g_30 h8 dX4_duel_53 (fun u9 H locs e9 hW => ?_)
    have h := nxt_get h e9
    refine lv_iinc (v := (v3 + 1)) (lv' := [(3, .int (v3 + 1)), (0, .ref (gad g 0)), (1, .int p1), (2, .int v2)]) C.1 C.2.1 dX4_duel_54 hl (k := 3) rfl rfl (by decide) rfl (fun ls hl => ?_)
    refine lv_goto (tgt := 38) C.1 C.2.1 dX4_duel_57 (by decide) ?_
    exact hK38 v2 (v3 + 1) u9 _ _ _ h hW (lv_sub hl [1, 2, 3, 0] rfl)
theorem k_X4_duel_L38 {p : Program} {l : Launch} {e : Env} {s : State} {m : MethodId} {args : Array Value} {below : List Frame} {meth : Method} {c : Code} {g : GG} {A : Nat → Prop} {p1 : Int32} {Q : Int32 → St → Prop} (C : MC p s m args meth c cX4_duel 4 RX4 (some .int) g A) : ∀ (n : Nat), ∀ (v2 : Int32) (v3 : Int32) (u : St) (H : Heap) (locs : List Loc) (ls : Array Slot), wp_X4_duel_L38 p1 Q n v2 v3 u → WD g A s u H locs → lv_has ls 4 [(0, .ref (gad g 0)), (1, .int p1), (2, .int v2), (3, .int v3)] → W p l e rm_X4_duel s m args below meth c H locs 0 0 (MQ below (va_Qi Q (WQ g) A) args s 0 0 A) (F0 m 38 ls []) := by
  intro n
  induction n with
  | zero => intro v2 v3 u H locs ls h; exact False.elim h
  | succ n ih => exact k_X4_duel_B38 (p1 := p1) C ih
set_option maxRecDepth 100000 in
theorem c_X4_duel (l : Launch) (g : GG) {p1 : Int32} {u : St} {Q : Int32 → St → Prop} (h : wp_X4_duel p1 u Q) : CI l yX4_duel cX4_duel 4 (some .int) rm_X4_duel g [.ref (gad g 0), .int p1] u Q := by
  refine ent (own := RX4) (Qc := va_Qi Q (WQ g)) (by decide) rfl (Nat.le_of_ble_eq_true rfl) ?_
  intro p e s m below meth c A ls C hl hW
  have hl : lv_has ls 4 [(0, .ref (gad g 0)), (1, .int p1)] := hl
  unfold wp_X4_duel at h
  refine lv_iload_n C.1 C.2.1 dX4_duel_0 rfl (lv_at hl 1 rfl) ?_
  refine lv_if_lt (tgt := 9) C.1 C.2.1 dX4_duel_1 (by decide) (fun c1 => ?_) (fun c1 => ?_)
  · have h := h.1 c1
    refine lv_iconst (v := (-1)) C.1 C.2.1 dX4_duel_9 (by decide) ?_
    exact x_iret C hW h dX4_duel_10
  · have h := h.2 c1
    refine lv_iload_n C.1 C.2.1 dX4_duel_4 rfl (lv_at hl 1 rfl) ?_
    refine lv_iconst (v := 4) C.1 C.2.1 dX4_duel_5 (by decide) ?_
    refine lv_icmp_le (tgt := 11) C.1 C.2.1 dX4_duel_6 (by decide) (fun c2 => ?_) (fun c2 => ?_)
    · have h := h.1 c2
      refine lv_aload_n C.1 C.2.1 dX4_duel_11 rfl (lv_at hl 0 rfl) ?_
      refine fg_X4_27 C hW dX4_duel_12 ?_
      refine fg_X4_137 C hW (Or.inl rfl) dX4_duel_15 ?_
      refine lv_if_ne (tgt := 24) C.1 C.2.1 dX4_duel_18 (by decide) (fun c3 => ?_) (fun c3 => ?_)
      · have h := h.1 c3
        refine lv_aload_n C.1 C.2.1 dX4_duel_24 rfl (lv_at hl 0 rfl) ?_
        refine x_Vv (rest := []) C hW (c_X4_fillBySet l g h) km_X4_fillBySet oKeys rfl qm_X4_225 ⟨rfl, rfl⟩ (by decide) rfl hl.1 rfl (Nat.le_of_ble_eq_true rfl) ⟨Nat.zero_le _, Nat.zero_le _⟩ dX4_duel_25 (fun u4 H locs h hW => ?_)
        refine lv_aload_n C.1 C.2.1 dX4_duel_28 rfl (lv_at hl 0 rfl) ?_
        refine fg_X4_27 C hW dX4_duel_29 ?_
        refine x_Vi (rest := []) C hW (c_X0_sets l g (Or.inl rfl) h) km_X0_sets (oLay (Or.inl rfl)) rfl qm_X4_216 ⟨rfl, rfl⟩ (by decide) rfl hl.1 rfl (Nat.le_of_ble_eq_true rfl) ⟨Nat.zero_le _, Nat.zero_le _⟩ dX4_duel_32 (fun r5 u5 H locs h hW => ?_)
        refine lv_istore_n (lv' := [(2, .int r5), (0, .ref (gad g 0)), (1, .int p1)]) C.1 C.2.1 dX4_duel_35 rfl hl (by decide) rfl (fun ls hl => ?_)
        refine lv_iconst (v := 0) C.1 C.2.1 dX4_duel_36 (by decide) ?_
        refine lv_istore_n (lv' := [(3, .int 0), (2, .int r5), (0, .ref (gad g 0)), (1, .int p1)]) C.1 C.2.1 dX4_duel_37 rfl hl (by decide) rfl (fun ls hl => ?_)
        obtain ⟨n, h⟩ := h
        exact k_X4_duel_L38 C n r5 0 u5 _ _ _ h hW (lv_sub hl [2, 3, 1, 0] rfl)
      · have h := h.2 c3
        refine lv_bipush (v := (-4)) C.1 C.2.1 dX4_duel_21 (by decide) ?_
        exact x_iret C hW h dX4_duel_23
    · have h := h.2 c2
      refine lv_iconst (v := (-1)) C.1 C.2.1 dX4_duel_9 (by decide) ?_
      exact x_iret C hW h dX4_duel_10
set_option maxRecDepth 100000 in
theorem c_X4_fault (l : Launch) (g : GG) {p1 : Int32} {u : St} {Q : Int32 → St → Prop} (h : wp_X4_fault p1 u Q) : CI l yX4_fault cX4_fault 3 (some .int) rm_X4_fault g [.ref (gad g 0), .int p1] u Q := by
  refine ent (own := RX4) (Qc := va_Qi Q (WQ g)) (by decide) rfl (Nat.le_of_ble_eq_true rfl) ?_
  intro p e s m below meth c A ls C hl hW
  have hl : lv_has ls 3 [(0, .ref (gad g 0)), (1, .int p1)] := hl
  unfold wp_X4_fault at h
  refine lv_aload_n C.1 C.2.1 dX4_fault_0 rfl (lv_at hl 0 rfl) ?_
  refine lv_aload_n C.1 C.2.1 dX4_fault_1 rfl (lv_at hl 0 rfl) ?_
  refine fg_X4_18 C hW dX4_fault_2 ?_
  refine lv_iload_n C.1 C.2.1 dX4_fault_5 rfl (lv_at hl 1 rfl) ?_
  refine x_Vi (rest := []) C hW (c_X4_refuseShelfPlace l g (Or.inr (Or.inl rfl)) h) km_X4_refuseShelfPlace oKeys rfl qm_X4_100 ⟨rfl, rfl⟩ (by decide) rfl hl.1 rfl (Nat.le_of_ble_eq_true rfl) ⟨Nat.zero_le _, Nat.zero_le _⟩ dX4_fault_6 (fun r1 u1 H locs h hW => ?_)
  refine lv_istore_n (lv' := [(2, .int r1), (0, .ref (gad g 0)), (1, .int p1)]) C.1 C.2.1 dX4_fault_9 rfl hl (by decide) rfl (fun ls hl => ?_)
  refine lv_iload_n C.1 C.2.1 dX4_fault_10 rfl (lv_at hl 0 rfl) ?_
  refine lv_if_eq (tgt := 16) C.1 C.2.1 dX4_fault_11 (by decide) (fun c2 => ?_) (fun c2 => ?_)
  · have h := h.1 c2
    refine lv_aload_n C.1 C.2.1 dX4_fault_16 rfl (lv_at hl 1 rfl) ?_
    refine fg_X4_31 C hW dX4_fault_17 ?_
    refine lv_aload_n C.1 C.2.1 dX4_fault_20 rfl (lv_at hl 1 rfl) ?_
    refine fg_X4_18 C hW dX4_fault_21 ?_
    refine lv_iload_n C.1 C.2.1 dX4_fault_24 rfl (lv_at hl 2 rfl) ?_
    refine x_Vi (rest := []) C hW (c_X0_readFrom l g (Or.inr rfl) (Or.inr (Or.inl rfl)) h) km_X0_readFrom (oLay (Or.inr rfl)) rfl qm_X4_127 ⟨rfl, rfl⟩ (by decide) rfl hl.1 rfl (Nat.le_of_ble_eq_true rfl) ⟨Nat.zero_le _, Nat.zero_le _⟩ dX4_fault_25 (fun r3 u3 H locs h hW => ?_)
    exact x_iret C hW h dX4_fault_28
  · have h := h.2 c2
    refine lv_iload_n C.1 C.2.1 dX4_fault_14 rfl (lv_at hl 0 rfl) ?_
    exact x_iret C hW h dX4_fault_15
set_option maxRecDepth 100000 in
theorem k_X4_fillByKind_B66 {p : Program} {l : Launch} {e : Env} {s : State} {m : MethodId} {args : Array Value} {below : List Frame} {meth : Method} {c : Code} {g : GG} {A : Nat → Prop} {p1 : Int32} {p2 : Int32} {Q : St → Prop} (C : MC p s m args meth c cX4_fillByKind 6 RX4 none g A) {K22 : Int32 → Int32 → St → Prop} (hK22 : ∀ (v3 : Int32) (v4 : Int32) (u : St) (H : Heap) (locs : List Loc) (ls : Array Slot), K22 v3 v4 u → WD g A s u H locs → lv_has ls 6 [(0, .ref (gad g 0)), (1, .int p1), (2, .int p2), (3, .int v3), (4, .int v4)] → W p l e rm_X4_fillByKind s m args below meth c H locs 0 0 (MQ below (va_Qv Q (WQ g) A) args s 0 0 A) (F0 m 22 ls [])) {K66 : Int32 → Int32 → Int32 → St → Prop} (hK66 : ∀ (v3 : Int32) (v4 : Int32) (v5 : Int32) (u : St) (H : Heap) (locs : List Loc) (ls : Array Slot), K66 v3 v4 v5 u → WD g A s u H locs → lv_has ls 6 [(0, .ref (gad g 0)), (1, .int p1), (2, .int p2), (3, .int v3), (4, .int v4), (5, .int v5)] → W p l e rm_X4_fillByKind s m args below meth c H locs 0 0 (MQ below (va_Qv Q (WQ g) A) args s 0 0 A) (F0 m 66 ls [])) : ∀ (v3 : Int32) (v4 : Int32) (v5 : Int32) (u : St) (H : Heap) (locs : List Loc) (ls : Array Slot), wp_X4_fillByKind_B66 p1 p2 Q K22 K66 v3 v4 v5 u → WD g A s u H locs → lv_has ls 6 [(0, .ref (gad g 0)), (1, .int p1), (2, .int p2), (3, .int v3), (4, .int v4), (5, .int v5)] → W p l e rm_X4_fillByKind s m args below meth c H locs 0 0 (MQ below (va_Qv Q (WQ g) A) args s 0 0 A) (F0 m 66 ls []) := by
  intro v3 v4 v5 u H locs ls h hW hl
  refine lv_iload C.1 C.2.1 dX4_fillByKind_66 (lv_at hl 5 rfl) ?_
  refine lv_iload_n C.1 C.2.1 dX4_fillByKind_68 rfl (lv_at hl 3 rfl) ?_
  refine lv_icmp_ge (tgt := 97) C.1 C.2.1 dX4_fillByKind_69 (by decide) (fun c8 => ?_) (fun c8 => ?_)
  · have h := h.1 c8
    refine lv_iinc (v := (v4 + 1)) (lv' := [(4, .int (v4 + 1)), (0, .ref (gad g 0)), (1, .int p1), (2, .int p2), (3, .int v3), (5, .int v5)]) C.1 C.2.1 dX4_fillByKind_97 hl (k := 4) rfl rfl (by decide) rfl (fun ls hl => ?_)
    refine lv_goto (tgt := 22) C.1 C.2.1 dX4_fillByKind_100 (by decide) ?_
    exact hK22 v3 (v4 + 1) u _ _ _ h hW (lv_sub hl [1, 2, 3, 4, 0] rfl)
  · have h := h.2 c8
    refine lv_aload_n C.1 C.2.1 dX4_fillByKind_72 rfl (lv_at hl 0 rfl) ?_
    refine fg_X4_57 C hW dX4_fillByKind_73 ?_
    refine lv_iload C.1 C.2.1 dX4_fillByKind_76 (lv_at hl 4 rfl) ?_
    obtain ⟨h9, h⟩ := h
    refine x_aald C hW g_31 h9 dX4_fillByKind_78 ?_
    refine lv_iload C.1 C.2.1 dX4_fillByKind_79 (lv_at hl 5 rfl) ?_
    refine lv_aload_n C.1 C.2.1 dX4_fillByKind_81 rfl (lv_at hl 0 rfl) ?_
    refine fg_X4_47 C hW dX4_fillByKind_82 ?_
    refine lv_iload C.1 C.2.1 dX4_fillByKind_85 (lv_at hl 5 rfl) ?_
    refine x_Vi (rest := [.int v5, .ref (gad g (32 + Int32.toNatClampNeg v4))]) C hW (c_X3_toldOf l g h) km_X3_toldOf oWires rfl qm_X4_219 ⟨rfl, rfl⟩ (by decide) rfl hl.1 rfl (Nat.le_of_ble_eq_true rfl) ⟨Nat.zero_le _, Nat.zero_le _⟩ dX4_fillByKind_87 (fun r10 u10 H locs h hW => ?_)
    obtain ⟨h11, h⟩ := h
    refine x_iast C hW (gBk h9) h11 dX4_fillByKind_90 (fun u12 H locs e12 hW => ?_)
    have h := nxt_get h e12
    refine lv_iinc (v := (v5 + 1)) (lv' := [(5, .int (v5 + 1)), (0, .ref (gad g 0)), (1, .int p1), (2, .int p2), (3, .int v3), (4, .int v4)]) C.1 C.2.1 dX4_fillByKind_91 hl (k := 5) rfl rfl (by decide) rfl (fun ls hl => ?_)
    refine lv_goto (tgt := 66) C.1 C.2.1 dX4_fillByKind_94 (by decide) ?_
    exact hK66 v3 v4 (v5 + 1) u12 _ _ _ h hW (lv_sub hl [1, 2, 3, 4, 5, 0] rfl)
theorem k_X4_fillByKind_L66 {p : Program} {l : Launch} {e : Env} {s : State} {m : MethodId} {args : Array Value} {below : List Frame} {meth : Method} {c : Code} {g : GG} {A : Nat → Prop} {p1 : Int32} {p2 : Int32} {Q : St → Prop} (C : MC p s m args meth c cX4_fillByKind 6 RX4 none g A) {K22 : Int32 → Int32 → St → Prop} (hK22 : ∀ (v3 : Int32) (v4 : Int32) (u : St) (H : Heap) (locs : List Loc) (ls : Array Slot), K22 v3 v4 u → WD g A s u H locs → lv_has ls 6 [(0, .ref (gad g 0)), (1, .int p1), (2, .int p2), (3, .int v3), (4, .int v4)] → W p l e rm_X4_fillByKind s m args below meth c H locs 0 0 (MQ below (va_Qv Q (WQ g) A) args s 0 0 A) (F0 m 22 ls [])) : ∀ (n : Nat), ∀ (v3 : Int32) (v4 : Int32) (v5 : Int32) (u : St) (H : Heap) (locs : List Loc) (ls : Array Slot), wp_X4_fillByKind_L66 p1 p2 Q K22 n v3 v4 v5 u → WD g A s u H locs → lv_has ls 6 [(0, .ref (gad g 0)), (1, .int p1), (2, .int p2), (3, .int v3), (4, .int v4), (5, .int v5)] → W p l e rm_X4_fillByKind s m args below meth c H locs 0 0 (MQ below (va_Qv Q (WQ g) A) args s 0 0 A) (F0 m 66 ls []) := by
  intro n
  induction n with
  | zero => intro v3 v4 v5 u H locs ls h; exact False.elim h
  | succ n ih => exact k_X4_fillByKind_B66 (p1 := p1) (p2 := p2) C hK22 ih
set_option maxRecDepth 100000 in
theorem k_X4_fillByKind_B22 {p : Program} {l : Launch} {e : Env} {s : State} {m : MethodId} {args : Array Value} {below : List Frame} {meth : Method} {c : Code} {g : GG} {A : Nat → Prop} {p1 : Int32} {p2 : Int32} {Q : St → Prop} (C : MC p s m args meth c cX4_fillByKind 6 RX4 none g A) {K22 : Int32 → Int32 → St → Prop} (hK22 : ∀ (v3 : Int32) (v4 : Int32) (u : St) (H : Heap) (locs : List Loc) (ls : Array Slot), K22 v3 v4 u → WD g A s u H locs → lv_has ls 6 [(0, .ref (gad g 0)), (1, .int p1), (2, .int p2), (3, .int v3), (4, .int v4)] → W p l e rm_X4_fillByKind s m args below meth c H locs 0 0 (MQ below (va_Qv Q (WQ g) A) args s 0 0 A) (F0 m 22 ls [])) : ∀ (v3 : Int32) (v4 : Int32) (u : St) (H : Heap) (locs : List Loc) (ls : Array Slot), wp_X4_fillByKind_B22 p1 p2 Q K22 v3 v4 u → WD g A s u H locs → lv_has ls 6 [(0, .ref (gad g 0)), (1, .int p1), (2, .int p2), (3, .int v3), (4, .int v4)] → W p l e rm_X4_fillByKind s m args below meth c H locs 0 0 (MQ below (va_Qv Q (WQ g) A) args s 0 0 A) (F0 m 22 ls []) := by
  intro v3 v4 u H locs ls h hW hl
  refine lv_iload C.1 C.2.1 dX4_fillByKind_22 (lv_at hl 4 rfl) ?_
  refine lv_bipush (v := 6) C.1 C.2.1 dX4_fillByKind_24 (by decide) ?_
  refine lv_icmp_ge (tgt := 103) C.1 C.2.1 dX4_fillByKind_26 (by decide) (fun c3 => ?_) (fun c3 => ?_)
  · have h := h.1 c3
    exact x_vret C hW h dX4_fillByKind_103
  · have h := h.2 c3
    refine lv_iload_n C.1 C.2.1 dX4_fillByKind_29 rfl (lv_at hl 2 rfl) ?_
    refine lv_iload C.1 C.2.1 dX4_fillByKind_30 (lv_at hl 4 rfl) ?_
    refine x_Si (rest := []) C hW (c_X4_holds l g h) km_X4_holds qm_X4_222 ⟨rfl, rfl⟩ (by decide) rfl hl.1 rfl (Nat.le_of_ble_eq_true rfl) ⟨Nat.zero_le _, Nat.zero_le _⟩ dX4_fillByKind_32 (fun r4 u4 H locs h hW => ?_)
    refine lv_if_eq (tgt := 97) C.1 C.2.1 dX4_fillByKind_35 (by decide) (fun c5 => ?_) (fun c5 => ?_)
    · have h := h.1 c5
      refine lv_iinc (v := (v4 + 1)) (lv' := [(4, .int (v4 + 1)), (0, .ref (gad g 0)), (1, .int p1), (2, .int p2), (3, .int v3)]) C.1 C.2.1 dX4_fillByKind_97 hl (k := 4) rfl rfl (by decide) rfl (fun ls hl => ?_)
      refine lv_goto (tgt := 22) C.1 C.2.1 dX4_fillByKind_100 (by decide) ?_
      exact hK22 v3 (v4 + 1) u4 _ _ _ h hW (lv_sub hl [1, 2, 3, 4, 0] rfl)
    · have h := h.2 c5
      refine lv_aload_n C.1 C.2.1 dX4_fillByKind_38 rfl (lv_at hl 0 rfl) ?_
      refine fg_X4_31 C hW dX4_fillByKind_39 ?_
      refine lv_iload_n C.1 C.2.1 dX4_fillByKind_42 rfl (lv_at hl 1 rfl) ?_
      refine lv_iload C.1 C.2.1 dX4_fillByKind_43 (lv_at hl 4 rfl) ?_
      refine x_Vv (rest := []) C hW (c_X0_turnInto l g (Or.inr rfl) h) km_X0_turnInto (oLay (Or.inr rfl)) rfl qm_X4_235 ⟨rfl, rfl⟩ (by decide) rfl hl.1 rfl (Nat.le_of_ble_eq_true rfl) ⟨Nat.zero_le _, Nat.zero_le _⟩ dX4_fillByKind_45 (fun u6 H locs h hW => ?_)
      refine lv_aload_n C.1 C.2.1 dX4_fillByKind_48 rfl (lv_at hl 0 rfl) ?_
      refine fg_X4_47 C hW dX4_fillByKind_49 ?_
      refine lv_aload_n C.1 C.2.1 dX4_fillByKind_52 rfl (lv_at hl 0 rfl) ?_
      refine fg_X4_31 C hW dX4_fillByKind_53 ?_
      refine lv_aload_n C.1 C.2.1 dX4_fillByKind_56 rfl (lv_at hl 0 rfl) ?_
      refine fg_X4_37 C hW dX4_fillByKind_57 ?_
      refine x_Vv (rest := []) C hW (c_X3_attach l g (Or.inr rfl) (Or.inl rfl) h) km_X3_attach oWires rfl qm_X4_175 ⟨rfl, rfl⟩ (by decide) rfl hl.1 rfl (Nat.le_of_ble_eq_true rfl) ⟨Nat.zero_le _, Nat.zero_le _⟩ dX4_fillByKind_60 (fun u7 H locs h hW => ?_)
      refine lv_iconst (v := 0) C.1 C.2.1 dX4_fillByKind_63 (by decide) ?_
      refine lv_istore (lv' := [(5, .int 0), (0, .ref (gad g 0)), (1, .int p1), (2, .int p2), (3, .int v3), (4, .int v4)]) C.1 C.2.1 dX4_fillByKind_64 hl (by decide) rfl (fun ls hl => ?_)
      obtain ⟨n, h⟩ := h
      exact k_X4_fillByKind_L66 C hK22 n v3 v4 0 u7 _ _ _ h hW (lv_sub hl [1, 2, 3, 4, 5, 0] rfl)
theorem k_X4_fillByKind_L22 {p : Program} {l : Launch} {e : Env} {s : State} {m : MethodId} {args : Array Value} {below : List Frame} {meth : Method} {c : Code} {g : GG} {A : Nat → Prop} {p1 : Int32} {p2 : Int32} {Q : St → Prop} (C : MC p s m args meth c cX4_fillByKind 6 RX4 none g A) : ∀ (n : Nat), ∀ (v3 : Int32) (v4 : Int32) (u : St) (H : Heap) (locs : List Loc) (ls : Array Slot), wp_X4_fillByKind_L22 p1 p2 Q n v3 v4 u → WD g A s u H locs → lv_has ls 6 [(0, .ref (gad g 0)), (1, .int p1), (2, .int p2), (3, .int v3), (4, .int v4)] → W p l e rm_X4_fillByKind s m args below meth c H locs 0 0 (MQ below (va_Qv Q (WQ g) A) args s 0 0 A) (F0 m 22 ls []) := by
  intro n
  induction n with
  | zero => intro v3 v4 u H locs ls h; exact False.elim h
  | succ n ih => exact k_X4_fillByKind_B22 (p1 := p1) (p2 := p2) C ih
set_option maxRecDepth 100000 in
theorem c_X4_fillByKind (l : Launch) (g : GG) {p1 : Int32} {p2 : Int32} {u : St} {Q : St → Prop} (h : wp_X4_fillByKind p1 p2 u Q) : CV l yX4_fillByKind cX4_fillByKind 6 none rm_X4_fillByKind g [.ref (gad g 0), .int p1, .int p2] u Q := by
  refine ent (own := RX4) (Qc := va_Qv Q (WQ g)) (by decide) rfl (Nat.le_of_ble_eq_true rfl) ?_
  intro p e s m below meth c A ls C hl hW
  have hl : lv_has ls 6 [(0, .ref (gad g 0)), (1, .int p1), (2, .int p2)] := hl
  unfold wp_X4_fillByKind at h
  refine lv_aload_n C.1 C.2.1 dX4_fillByKind_0 rfl (lv_at hl 0 rfl) ?_
  refine fg_X4_31 C hW dX4_fillByKind_1 ?_
  refine lv_aload_n C.1 C.2.1 dX4_fillByKind_4 rfl (lv_at hl 0 rfl) ?_
  refine fg_X4_27 C hW dX4_fillByKind_5 ?_
  refine x_Vv (rest := []) C hW (c_X0_copyFrom l g (Or.inr rfl) (Or.inl rfl) h) km_X0_copyFrom (oLay (Or.inr rfl)) rfl qm_X4_130 ⟨rfl, rfl⟩ (by decide) rfl hl.1 rfl (Nat.le_of_ble_eq_true rfl) ⟨Nat.zero_le _, Nat.zero_le _⟩ dX4_fillByKind_8 (fun u1 H locs h hW => ?_)
  refine lv_aload_n C.1 C.2.1 dX4_fillByKind_11 rfl (lv_at hl 0 rfl) ?_
  refine fg_X4_27 C hW dX4_fillByKind_12 ?_
  refine x_Vi (rest := []) C hW (c_X0_sets l g (Or.inl rfl) h) km_X0_sets (oLay (Or.inl rfl)) rfl qm_X4_216 ⟨rfl, rfl⟩ (by decide) rfl hl.1 rfl (Nat.le_of_ble_eq_true rfl) ⟨Nat.zero_le _, Nat.zero_le _⟩ dX4_fillByKind_15 (fun r2 u2 H locs h hW => ?_)
  refine lv_istore_n (lv' := [(3, .int r2), (0, .ref (gad g 0)), (1, .int p1), (2, .int p2)]) C.1 C.2.1 dX4_fillByKind_18 rfl hl (by decide) rfl (fun ls hl => ?_)
  refine lv_iconst (v := 0) C.1 C.2.1 dX4_fillByKind_19 (by decide) ?_
  refine lv_istore (lv' := [(4, .int 0), (3, .int r2), (0, .ref (gad g 0)), (1, .int p1), (2, .int p2)]) C.1 C.2.1 dX4_fillByKind_20 hl (by decide) rfl (fun ls hl => ?_)
  obtain ⟨n, h⟩ := h
  exact k_X4_fillByKind_L22 C n r2 0 u2 _ _ _ h hW (lv_sub hl [2, 3, 4, 1, 0] rfl)
set_option maxRecDepth 100000 in
theorem c_X4_finding (l : Launch) (g : GG) {u : St} {Q : Int32 → St → Prop} (h : wp_X4_finding u Q) : CI l yX4_finding cX4_finding 1 (some .int) rm_X4_finding g [.ref (gad g 0)] u Q := by
  refine ent (own := RX4) (Qc := va_Qi Q (WQ g)) (by decide) rfl (Nat.le_of_ble_eq_true rfl) ?_
  intro p e s m below meth c A ls C hl hW
  have hl : lv_has ls 1 [(0, .ref (gad g 0))] := hl
  unfold wp_X4_finding at h
  refine lv_aload_n C.1 C.2.1 dX4_finding_0 rfl (lv_at hl 0 rfl) ?_
  refine fg_X4_63 C hW dX4_finding_1 ?_
  exact x_iret C hW h dX4_finding_4
set_option maxRecDepth 100000 in
theorem c_X4_findings (l : Launch) (g : GG) {p1 : Int32} {u : St} {Q : Int32 → St → Prop} (h : wp_X4_findings p1 u Q) : CI l yX4_findings cX4_findings 2 (some .int) rm_X4_findings g [.ref (gad g 0), .int p1] u Q := by
  refine ent (own := RX4) (Qc := va_Qi Q (WQ g)) (by decide) rfl (Nat.le_of_ble_eq_true rfl) ?_
  intro p e s m below meth c A ls C hl hW
  have hl : lv_has ls 2 [(0, .ref (gad g 0)), (1, .int p1)] := hl
  unfold wp_X4_findings at h
  refine lv_iload_n C.1 C.2.1 dX4_findings_0 rfl (lv_at hl 1 rfl) ?_
  refine lv_iconst (v := 1) C.1 C.2.1 dX4_findings_1 (by decide) ?_
  refine lv_icmp_lt (tgt := 10) C.1 C.2.1 dX4_findings_2 (by decide) (fun c1 => ?_) (fun c1 => ?_)
  · have h := h.1 c1
    refine lv_iconst (v := (-1)) C.1 C.2.1 dX4_findings_10 (by decide) ?_
    exact x_iret C hW h dX4_findings_11
  · have h := h.2 c1
    refine lv_iload_n C.1 C.2.1 dX4_findings_5 rfl (lv_at hl 1 rfl) ?_
    refine lv_iconst (v := 5) C.1 C.2.1 dX4_findings_6 (by decide) ?_
    refine lv_icmp_le (tgt := 12) C.1 C.2.1 dX4_findings_7 (by decide) (fun c2 => ?_) (fun c2 => ?_)
    · have h := h.1 c2
      refine lv_aload_n C.1 C.2.1 dX4_findings_12 rfl (lv_at hl 0 rfl) ?_
      refine fg_X4_60 C hW dX4_findings_13 ?_
      refine lv_iload_n C.1 C.2.1 dX4_findings_16 rfl (lv_at hl 1 rfl) ?_
      obtain ⟨h3, h⟩ := h
      refine x_iald C hW g_38 h3 dX4_findings_17 ?_
      exact x_iret C hW h dX4_findings_18
    · have h := h.2 c2
      refine lv_iconst (v := (-1)) C.1 C.2.1 dX4_findings_10 (by decide) ?_
      exact x_iret C hW h dX4_findings_11
set_option maxRecDepth 100000 in
theorem k_X4_fits_B24 {p : Program} {l : Launch} {e : Env} {s : State} {m : MethodId} {args : Array Value} {below : List Frame} {meth : Method} {c : Code} {g : GG} {A : Nat → Prop} {b1 : Nat} {p2 : Int32} (hb1 : isLay b1) {Q : Int32 → St → Prop} (C : MC p s m args meth c cX4_fits 5 RX4 (some .boolean) g A) {K24 : Int32 → Int32 → St → Prop} (hK24 : ∀ (v3 : Int32) (v4 : Int32) (u : St) (H : Heap) (locs : List Loc) (ls : Array Slot), K24 v3 v4 u → WD g A s u H locs → lv_has ls 5 [(0, .ref (gad g 0)), (2, .int p2), (3, .int v3), (4, .int v4)] → W p l e rm_X4_fits s m args below meth c H locs 0 0 (MQ below (va_Qi Q (WQ g) A) args s 0 0 A) (F0 m 24 ls [])) : ∀ (v3 : Int32) (v4 : Int32) (u : St) (H : Heap) (locs : List Loc) (ls : Array Slot), wp_X4_fits_B24 b1 p2 Q K24 v3 v4 u → WD g A s u H locs → lv_has ls 5 [(0, .ref (gad g 0)), (2, .int p2), (3, .int v3), (4, .int v4)] → W p l e rm_X4_fits s m args below meth c H locs 0 0 (MQ below (va_Qi Q (WQ g) A) args s 0 0 A) (F0 m 24 ls []) := by
  intro v3 v4 u H locs ls h hW hl
  refine lv_iload C.1 C.2.1 dX4_fits_24 (lv_at hl 3 rfl) ?_
  refine lv_iconst (v := 1) C.1 C.2.1 dX4_fits_26 (by decide) ?_
  refine lv_iadd C.1 C.2.1 dX4_fits_27 ?_
  refine lv_iload_n C.1 C.2.1 dX4_fits_28 rfl (lv_at hl 2 rfl) ?_
  refine lv_icmp_ge (tgt := 72) C.1 C.2.1 dX4_fits_29 (by decide) (fun c3 => ?_) (fun c3 => ?_)
  · have h := h.1 c3
    refine lv_iconst (v := 1) C.1 C.2.1 dX4_fits_72 (by decide) ?_
    exact x_zret C hW rfl h dX4_fits_73
  · have h := h.2 c3
    refine lv_aload_n C.1 C.2.1 dX4_fits_32 rfl (lv_at hl 0 rfl) ?_
    refine fg_X4_47 C hW dX4_fits_33 ?_
    refine lv_aload_n C.1 C.2.1 dX4_fits_36 rfl (lv_at hl 0 rfl) ?_
    refine fg_X4_14 C hW dX4_fits_37 ?_
    refine lv_iload_n C.1 C.2.1 dX4_fits_40 rfl (lv_at hl 1 rfl) ?_
    refine lv_iload C.1 C.2.1 dX4_fits_41 (lv_at hl 3 rfl) ?_
    refine x_Vi (rest := [.ref (gad g 24)]) C hW (c_X2_get l g (Or.inl rfl) h) km_X2_get (oShf (Or.inl rfl)) rfl qm_X4_93 ⟨rfl, rfl⟩ (by decide) rfl hl.1 rfl (Nat.le_of_ble_eq_true rfl) ⟨Nat.zero_le _, Nat.zero_le _⟩ dX4_fits_43 (fun r4 u4 H locs h hW => ?_)
    refine x_Vi (rest := []) C hW (c_X3_toldOf l g h) km_X3_toldOf oWires rfl qm_X4_219 ⟨rfl, rfl⟩ (by decide) rfl hl.1 rfl (Nat.le_of_ble_eq_true rfl) ⟨Nat.zero_le _, Nat.zero_le _⟩ dX4_fits_46 (fun r5 u5 H locs h hW => ?_)
    refine lv_aload_n C.1 C.2.1 dX4_fits_49 rfl (lv_at hl 0 rfl) ?_
    refine fg_X4_14 C hW dX4_fits_50 ?_
    refine lv_iload_n C.1 C.2.1 dX4_fits_53 rfl (lv_at hl 1 rfl) ?_
    refine lv_iload C.1 C.2.1 dX4_fits_54 (lv_at hl 3 rfl) ?_
    refine lv_iconst (v := 1) C.1 C.2.1 dX4_fits_56 (by decide) ?_
    refine lv_iadd C.1 C.2.1 dX4_fits_57 ?_
    refine x_Vi (rest := [.int r5]) C hW (c_X2_get l g (Or.inl rfl) h) km_X2_get (oShf (Or.inl rfl)) rfl qm_X4_93 ⟨rfl, rfl⟩ (by decide) rfl hl.1 rfl (Nat.le_of_ble_eq_true rfl) ⟨Nat.zero_le _, Nat.zero_le _⟩ dX4_fits_58 (fun r6 u6 H locs h hW => ?_)
    refine lv_icmp_eq (tgt := 66) C.1 C.2.1 dX4_fits_61 (by decide) (fun c7 => ?_) (fun c7 => ?_)
    · have h := h.1 c7
      refine lv_iinc (v := (v4 + 2)) (lv' := [(4, .int (v4 + 2)), (0, .ref (gad g 0)), (2, .int p2), (3, .int v3)]) C.1 C.2.1 dX4_fits_66 hl (k := 3) rfl rfl (by decide) rfl (fun ls hl => ?_)
      refine lv_goto (tgt := 24) C.1 C.2.1 dX4_fits_69 (by decide) ?_
      exact hK24 v3 (v4 + 2) u6 _ _ _ h hW (lv_sub hl [1, 2, 3, 0] rfl)
    · have h := h.2 c7
      refine lv_iconst (v := 0) C.1 C.2.1 dX4_fits_64 (by decide) ?_
      exact x_zret C hW rfl h dX4_fits_65
theorem k_X4_fits_L24 {p : Program} {l : Launch} {e : Env} {s : State} {m : MethodId} {args : Array Value} {below : List Frame} {meth : Method} {c : Code} {g : GG} {A : Nat → Prop} {b1 : Nat} {p2 : Int32} (hb1 : isLay b1) {Q : Int32 → St → Prop} (C : MC p s m args meth c cX4_fits 5 RX4 (some .boolean) g A) : ∀ (n : Nat), ∀ (v3 : Int32) (v4 : Int32) (u : St) (H : Heap) (locs : List Loc) (ls : Array Slot), wp_X4_fits_L24 b1 p2 Q n v3 v4 u → WD g A s u H locs → lv_has ls 5 [(0, .ref (gad g 0)), (2, .int p2), (3, .int v3), (4, .int v4)] → W p l e rm_X4_fits s m args below meth c H locs 0 0 (MQ below (va_Qi Q (WQ g) A) args s 0 0 A) (F0 m 24 ls []) := by
  intro n
  induction n with
  | zero => intro v3 v4 u H locs ls h; exact False.elim h
  | succ n ih => exact k_X4_fits_B24 (b1 := b1) (p2 := p2) hb1 C ih
set_option maxRecDepth 100000 in
theorem c_X4_fits (l : Launch) (g : GG) {b1 : Nat} {p2 : Int32} (hb1 : isLay b1) {u : St} {Q : Int32 → St → Prop} (h : wp_X4_fits b1 p2 u Q) : CI l yX4_fits cX4_fits 5 (some .boolean) rm_X4_fits g [.ref (gad g 0), .ref (gad g b1), .int p2] u Q := by
  refine ent (own := RX4) (Qc := va_Qi Q (WQ g)) (by decide) rfl (Nat.le_of_ble_eq_true rfl) ?_
  intro p e s m below meth c A ls C hl hW
  have hl : lv_has ls 5 [(0, .ref (gad g 0)), (1, .ref (gad g b1)), (2, .int p2)] := hl
  unfold wp_X4_fits at h
  refine lv_aload_n C.1 C.2.1 dX4_fits_0 rfl (lv_at hl 0 rfl) ?_
  refine fg_X4_47 C hW dX4_fits_1 ?_
  refine lv_aload_n C.1 C.2.1 dX4_fits_4 rfl (lv_at hl 1 rfl) ?_
  refine lv_aload_n C.1 C.2.1 dX4_fits_5 rfl (lv_at hl 0 rfl) ?_
  refine fg_X4_37 C hW dX4_fits_6 ?_
  refine x_Vv (rest := []) C hW (c_X3_attach l g hb1 (Or.inl rfl) h) km_X3_attach oWires rfl qm_X4_175 ⟨rfl, rfl⟩ (by decide) rfl hl.1 rfl (Nat.le_of_ble_eq_true rfl) ⟨Nat.zero_le _, Nat.zero_le _⟩ dX4_fits_9 (fun u1 H locs h hW => ?_)
  refine lv_aload_n C.1 C.2.1 dX4_fits_12 rfl (lv_at hl 0 rfl) ?_
  refine fg_X4_14 C hW dX4_fits_13 ?_
  refine lv_iload_n C.1 C.2.1 dX4_fits_16 rfl (lv_at hl 2 rfl) ?_
  refine x_Vi (rest := []) C hW (c_X2_size l g (Or.inl rfl) h) km_X2_size (oShf (Or.inl rfl)) rfl qm_X4_120 ⟨rfl, rfl⟩ (by decide) rfl hl.1 rfl (Nat.le_of_ble_eq_true rfl) ⟨Nat.zero_le _, Nat.zero_le _⟩ dX4_fits_17 (fun r2 u2 H locs h hW => ?_)
  refine lv_istore_n (lv' := [(3, .int r2), (0, .ref (gad g 0)), (1, .ref (gad g b1)), (2, .int p2)]) C.1 C.2.1 dX4_fits_20 rfl hl (by decide) rfl (fun ls hl => ?_)
  refine lv_iconst (v := 0) C.1 C.2.1 dX4_fits_21 (by decide) ?_
  refine lv_istore (lv' := [(4, .int 0), (3, .int r2), (0, .ref (gad g 0)), (1, .ref (gad g b1)), (2, .int p2)]) C.1 C.2.1 dX4_fits_22 hl (by decide) rfl (fun ls hl => ?_)
  obtain ⟨n, h⟩ := h
  exact k_X4_fits_L24 hb1 C n r2 0 u2 _ _ _ h hW (lv_sub hl [2, 4, 1, 0] rfl)
set_option maxRecDepth 100000 in
theorem c_X4_ghosts (l : Launch) (g : GG) {u : St} {Q : Int32 → St → Prop} (h : wp_X4_ghosts u Q) : CI l yX4_ghosts cX4_ghosts 2 (some .int) rm_X4_ghosts g [.ref (gad g 0)] u Q := by
  refine ent (own := RX4) (Qc := va_Qi Q (WQ g)) (by decide) rfl (Nat.le_of_ble_eq_true rfl) ?_
  intro p e s m below meth c A ls C hl hW
  have hl : lv_has ls 2 [(0, .ref (gad g 0))] := hl
  unfold wp_X4_ghosts at h
  refine lv_aload_n C.1 C.2.1 dX4_ghosts_0 rfl (lv_at hl 0 rfl) ?_
  refine x_Vi (rest := []) C hW (c_X4_toldNow l g h) km_X4_toldNow oKeys rfl qm_X4_152 ⟨rfl, rfl⟩ (by decide) rfl hl.1 rfl (Nat.le_of_ble_eq_true rfl) ⟨Nat.zero_le _, Nat.zero_le _⟩ dX4_ghosts_1 (fun r1 u1 H locs h hW => ?_)
  refine lv_istore_n (lv' := [(1, .int r1), (0, .ref (gad g 0))]) C.1 C.2.1 dX4_ghosts_4 rfl hl (by decide) rfl (fun ls hl => ?_)
  refine lv_aload_n C.1 C.2.1 dX4_ghosts_5 rfl (lv_at hl 1 rfl) ?_
  refine lv_aload_n C.1 C.2.1 dX4_ghosts_6 rfl (lv_at hl 1 rfl) ?_
  refine fg_X4_37 C hW dX4_ghosts_7 ?_
  refine fg_X4_179 C hW (Or.inl rfl) dX4_ghosts_10 ?_
  refine lv_iload_n C.1 C.2.1 dX4_ghosts_13 rfl (lv_at hl 0 rfl) ?_
  refine lv_iconst (v := (-1)) C.1 C.2.1 dX4_ghosts_14 (by decide) ?_
  refine lv_ixor C.1 C.2.1 dX4_ghosts_15 ?_
  refine lv_iand C.1 C.2.1 dX4_ghosts_16 ?_
  refine fp_X4_67 C hW dX4_ghosts_17 (fun u2 H locs e2 hW => ?_)
  have h := nxt_get h e2
  refine lv_iload_n C.1 C.2.1 dX4_ghosts_20 rfl (lv_at hl 0 rfl) ?_
  refine lv_aload_n C.1 C.2.1 dX4_ghosts_21 rfl (lv_at hl 1 rfl) ?_
  refine fg_X4_37 C hW dX4_ghosts_22 ?_
  refine fg_X4_179 C hW (Or.inl rfl) dX4_ghosts_25 ?_
  refine lv_iconst (v := (-1)) C.1 C.2.1 dX4_ghosts_28 (by decide) ?_
  refine lv_ixor C.1 C.2.1 dX4_ghosts_29 ?_
  refine lv_iand C.1 C.2.1 dX4_ghosts_30 ?_
  exact x_iret C hW h dX4_ghosts_31
set_option maxRecDepth 100000 in
theorem k_X4_greatestPart_B18 {p : Program} {l : Launch} {e : Env} {s : State} {m : MethodId} {args : Array Value} {below : List Frame} {meth : Method} {c : Code} {g : GG} {A : Nat → Prop} {p1 : Int32} {p2 : Int32} {Q : Int32 → St → Prop} (C : MC p s m args meth c cX4_greatestPart 7 RX4 (some .int) g A) {K5 : Int32 → Int32 → St → Prop} (hK5 : ∀ (v3 : Int32) (v4 : Int32) (u : St) (H : Heap) (locs : List Loc) (ls : Array Slot), K5 v3 v4 u → WD g A s u H locs → lv_has ls 7 [(0, .ref (gad g 0)), (1, .int p1), (2, .int p2), (3, .int v3), (4, .int v4)] → W p l e rm_X4_greatestPart s m args below meth c H locs 0 0 (MQ below (va_Qi Q (WQ g) A) args s 0 0 A) (F0 m 5 ls [])) {K18 : Int32 → Int32 → Int32 → Int32 → St → Prop} (hK18 : ∀ (v3 : Int32) (v4 : Int32) (v5 : Int32) (v6 : Int32) (u : St) (H : Heap) (locs : List Loc) (ls : Array Slot), K18 v3 v4 v5 v6 u → WD g A s u H locs → lv_has ls 7 [(0, .ref (gad g 0)), (1, .int p1), (2, .int p2), (3, .int v3), (4, .int v4), (5, .int v5), (6, .int v6)] → W p l e rm_X4_greatestPart s m args below meth c H locs 0 0 (MQ below (va_Qi Q (WQ g) A) args s 0 0 A) (F0 m 18 ls [])) : ∀ (v3 : Int32) (v4 : Int32) (v5 : Int32) (v6 : Int32) (u : St) (H : Heap) (locs : List Loc) (ls : Array Slot), wp_X4_greatestPart_B18 p1 p2 Q K5 K18 v3 v4 v5 v6 u → WD g A s u H locs → lv_has ls 7 [(0, .ref (gad g 0)), (1, .int p1), (2, .int p2), (3, .int v3), (4, .int v4), (5, .int v5), (6, .int v6)] → W p l e rm_X4_greatestPart s m args below meth c H locs 0 0 (MQ below (va_Qi Q (WQ g) A) args s 0 0 A) (F0 m 18 ls []) := by
  intro v3 v4 v5 v6 u H locs ls h hW hl
  refine lv_iload C.1 C.2.1 dX4_greatestPart_18 (lv_at hl 6 rfl) ?_
  refine lv_bipush (v := 6) C.1 C.2.1 dX4_greatestPart_20 (by decide) ?_
  refine lv_icmp_ge (tgt := 73) C.1 C.2.1 dX4_greatestPart_22 (by decide) (fun c2 => ?_) (fun c2 => ?_)
  · have h := h.1 c2
    refine lv_iload_n C.1 C.2.1 dX4_greatestPart_73 rfl (lv_at hl 3 rfl) ?_
    refine lv_iload C.1 C.2.1 dX4_greatestPart_74 (lv_at hl 5 rfl) ?_
    refine x_mmax C hl.1 qm_X4_170 (by decide) (Nat.le_of_ble_eq_true rfl) ⟨Nat.zero_le _, Nat.zero_le _⟩ dX4_greatestPart_76 ?_
    refine lv_istore_n (lv' := [(3, .int (if v3 < v5 then v5 else v3)), (0, .ref (gad g 0)), (1, .int p1), (2, .int p2), (4, .int v4), (5, .int v5), (6, .int v6)]) C.1 C.2.1 dX4_greatestPart_79 rfl hl (by decide) rfl (fun ls hl => ?_)
    refine lv_iinc (v := (v4 + 1)) (lv' := [(4, .int (v4 + 1)), (3, .int (if v3 < v5 then v5 else v3)), (0, .ref (gad g 0)), (1, .int p1), (2, .int p2), (5, .int v5), (6, .int v6)]) C.1 C.2.1 dX4_greatestPart_80 hl (k := 4) rfl rfl (by decide) rfl (fun ls hl => ?_)
    refine lv_goto (tgt := 5) C.1 C.2.1 dX4_greatestPart_83 (by decide) ?_
    exact hK5 (if v3 < v5 then v5 else v3) (v4 + 1) u _ _ _ h hW (lv_sub hl [2, 3, 4, 1, 0] rfl)
  · have h := h.2 c2
    refine lv_iload_n C.1 C.2.1 dX4_greatestPart_25 rfl (lv_at hl 1 rfl) ?_
    refine lv_iload C.1 C.2.1 dX4_greatestPart_26 (lv_at hl 4 rfl) ?_
    refine x_Si (rest := []) C hW (c_X4_holds l g h) km_X4_holds qm_X4_222 ⟨rfl, rfl⟩ (by decide) rfl hl.1 rfl (Nat.le_of_ble_eq_true rfl) ⟨Nat.zero_le _, Nat.zero_le _⟩ dX4_greatestPart_28 (fun r3 u3 H locs h hW => ?_)
    refine lv_if_eq (tgt := 67) C.1 C.2.1 dX4_greatestPart_31 (by decide) (fun c4 => ?_) (fun c4 => ?_)
    · have h := h.1 c4
      refine lv_iinc (v := (v6 + 1)) (lv' := [(6, .int (v6 + 1)), (0, .ref (gad g 0)), (1, .int p1), (2, .int p2), (3, .int v3), (4, .int v4), (5, .int v5)]) C.1 C.2.1 dX4_greatestPart_67 hl (k := 6) rfl rfl (by decide) rfl (fun ls hl => ?_)
      refine lv_goto (tgt := 18) C.1 C.2.1 dX4_greatestPart_70 (by decide) ?_
      exact hK18 v3 v4 v5 (v6 + 1) u3 _ _ _ h hW (lv_sub hl [1, 2, 3, 4, 5, 6, 0] rfl)
    · have h := h.2 c4
      refine lv_iload_n C.1 C.2.1 dX4_greatestPart_34 rfl (lv_at hl 1 rfl) ?_
      refine lv_iload C.1 C.2.1 dX4_greatestPart_35 (lv_at hl 6 rfl) ?_
      refine x_Si (rest := []) C hW (c_X4_holds l g h) km_X4_holds qm_X4_222 ⟨rfl, rfl⟩ (by decide) rfl hl.1 rfl (Nat.le_of_ble_eq_true rfl) ⟨Nat.zero_le _, Nat.zero_le _⟩ dX4_greatestPart_37 (fun r5 u5 H locs h hW => ?_)
      refine lv_if_eq (tgt := 67) C.1 C.2.1 dX4_greatestPart_40 (by decide) (fun c6 => ?_) (fun c6 => ?_)
      · have h := h.1 c6
        refine lv_iinc (v := (v6 + 1)) (lv' := [(6, .int (v6 + 1)), (0, .ref (gad g 0)), (1, .int p1), (2, .int p2), (3, .int v3), (4, .int v4), (5, .int v5)]) C.1 C.2.1 dX4_greatestPart_67 hl (k := 6) rfl rfl (by decide) rfl (fun ls hl => ?_)
        refine lv_goto (tgt := 18) C.1 C.2.1 dX4_greatestPart_70 (by decide) ?_
        exact hK18 v3 v4 v5 (v6 + 1) u5 _ _ _ h hW (lv_sub hl [1, 2, 3, 4, 5, 6, 0] rfl)
      · have h := h.2 c6
        refine lv_aload_n C.1 C.2.1 dX4_greatestPart_43 rfl (lv_at hl 0 rfl) ?_
        refine fg_X4_57 C hW dX4_greatestPart_44 ?_
        refine lv_iload C.1 C.2.1 dX4_greatestPart_47 (lv_at hl 6 rfl) ?_
        obtain ⟨h7, h⟩ := h
        refine x_aald C hW g_31 h7 dX4_greatestPart_49 ?_
        refine lv_iload_n C.1 C.2.1 dX4_greatestPart_50 rfl (lv_at hl 2 rfl) ?_
        obtain ⟨h8, h⟩ := h
        refine x_iald C hW (gBk h7) h8 dX4_greatestPart_51 ?_
        refine lv_aload_n C.1 C.2.1 dX4_greatestPart_52 rfl (lv_at hl 0 rfl) ?_
        refine fg_X4_57 C hW dX4_greatestPart_53 ?_
        refine lv_iload C.1 C.2.1 dX4_greatestPart_56 (lv_at hl 4 rfl) ?_
        obtain ⟨h9, h⟩ := h
        refine x_aald C hW g_31 h9 dX4_greatestPart_58 ?_
        refine lv_iload_n C.1 C.2.1 dX4_greatestPart_59 rfl (lv_at hl 2 rfl) ?_
        obtain ⟨h10, h⟩ := h
        refine x_iald C hW (gBk h9) h10 dX4_greatestPart_60 ?_
        refine lv_icmp_ne (tgt := 67) C.1 C.2.1 dX4_greatestPart_61 (by decide) (fun c11 => ?_) (fun c11 => ?_)
        · have h := h.1 c11
          refine lv_iinc (v := (v6 + 1)) (lv' := [(6, .int (v6 + 1)), (0, .ref (gad g 0)), (1, .int p1), (2, .int p2), (3, .int v3), (4, .int v4), (5, .int v5)]) C.1 C.2.1 dX4_greatestPart_67 hl (k := 6) rfl rfl (by decide) rfl (fun ls hl => ?_)
          refine lv_goto (tgt := 18) C.1 C.2.1 dX4_greatestPart_70 (by decide) ?_
          exact hK18 v3 v4 v5 (v6 + 1) u5 _ _ _ h hW (lv_sub hl [1, 2, 3, 4, 5, 6, 0] rfl)
        · have h := h.2 c11
          refine lv_iinc (v := (v5 + 1)) (lv' := [(5, .int (v5 + 1)), (0, .ref (gad g 0)), (1, .int p1), (2, .int p2), (3, .int v3), (4, .int v4), (6, .int v6)]) C.1 C.2.1 dX4_greatestPart_64 hl (k := 5) rfl rfl (by decide) rfl (fun ls hl => ?_)
          refine lv_iinc (v := (v6 + 1)) (lv' := [(6, .int (v6 + 1)), (5, .int (v5 + 1)), (0, .ref (gad g 0)), (1, .int p1), (2, .int p2), (3, .int v3), (4, .int v4)]) C.1 C.2.1 dX4_greatestPart_67 hl (k := 6) rfl rfl (by decide) rfl (fun ls hl => ?_)
          refine lv_goto (tgt := 18) C.1 C.2.1 dX4_greatestPart_70 (by decide) ?_
          exact hK18 v3 v4 (v5 + 1) (v6 + 1) u5 _ _ _ h hW (lv_sub hl [2, 3, 4, 5, 6, 1, 0] rfl)
theorem k_X4_greatestPart_L18 {p : Program} {l : Launch} {e : Env} {s : State} {m : MethodId} {args : Array Value} {below : List Frame} {meth : Method} {c : Code} {g : GG} {A : Nat → Prop} {p1 : Int32} {p2 : Int32} {Q : Int32 → St → Prop} (C : MC p s m args meth c cX4_greatestPart 7 RX4 (some .int) g A) {K5 : Int32 → Int32 → St → Prop} (hK5 : ∀ (v3 : Int32) (v4 : Int32) (u : St) (H : Heap) (locs : List Loc) (ls : Array Slot), K5 v3 v4 u → WD g A s u H locs → lv_has ls 7 [(0, .ref (gad g 0)), (1, .int p1), (2, .int p2), (3, .int v3), (4, .int v4)] → W p l e rm_X4_greatestPart s m args below meth c H locs 0 0 (MQ below (va_Qi Q (WQ g) A) args s 0 0 A) (F0 m 5 ls [])) : ∀ (n : Nat), ∀ (v3 : Int32) (v4 : Int32) (v5 : Int32) (v6 : Int32) (u : St) (H : Heap) (locs : List Loc) (ls : Array Slot), wp_X4_greatestPart_L18 p1 p2 Q K5 n v3 v4 v5 v6 u → WD g A s u H locs → lv_has ls 7 [(0, .ref (gad g 0)), (1, .int p1), (2, .int p2), (3, .int v3), (4, .int v4), (5, .int v5), (6, .int v6)] → W p l e rm_X4_greatestPart s m args below meth c H locs 0 0 (MQ below (va_Qi Q (WQ g) A) args s 0 0 A) (F0 m 18 ls []) := by
  intro n
  induction n with
  | zero => intro v3 v4 v5 v6 u H locs ls h; exact False.elim h
  | succ n ih => exact k_X4_greatestPart_B18 (p1 := p1) (p2 := p2) C hK5 ih
set_option maxRecDepth 100000 in
theorem k_X4_greatestPart_B5 {p : Program} {l : Launch} {e : Env} {s : State} {m : MethodId} {args : Array Value} {below : List Frame} {meth : Method} {c : Code} {g : GG} {A : Nat → Prop} {p1 : Int32} {p2 : Int32} {Q : Int32 → St → Prop} (C : MC p s m args meth c cX4_greatestPart 7 RX4 (some .int) g A) {K5 : Int32 → Int32 → St → Prop} (hK5 : ∀ (v3 : Int32) (v4 : Int32) (u : St) (H : Heap) (locs : List Loc) (ls : Array Slot), K5 v3 v4 u → WD g A s u H locs → lv_has ls 7 [(0, .ref (gad g 0)), (1, .int p1), (2, .int p2), (3, .int v3), (4, .int v4)] → W p l e rm_X4_greatestPart s m args below meth c H locs 0 0 (MQ below (va_Qi Q (WQ g) A) args s 0 0 A) (F0 m 5 ls [])) : ∀ (v3 : Int32) (v4 : Int32) (u : St) (H : Heap) (locs : List Loc) (ls : Array Slot), wp_X4_greatestPart_B5 p1 p2 Q K5 v3 v4 u → WD g A s u H locs → lv_has ls 7 [(0, .ref (gad g 0)), (1, .int p1), (2, .int p2), (3, .int v3), (4, .int v4)] → W p l e rm_X4_greatestPart s m args below meth c H locs 0 0 (MQ below (va_Qi Q (WQ g) A) args s 0 0 A) (F0 m 5 ls []) := by
  intro v3 v4 u H locs ls h hW hl
  refine lv_iload C.1 C.2.1 dX4_greatestPart_5 (lv_at hl 4 rfl) ?_
  refine lv_bipush (v := 6) C.1 C.2.1 dX4_greatestPart_7 (by decide) ?_
  refine lv_icmp_ge (tgt := 86) C.1 C.2.1 dX4_greatestPart_9 (by decide) (fun c1 => ?_) (fun c1 => ?_)
  · have h := h.1 c1
    refine lv_iload_n C.1 C.2.1 dX4_greatestPart_86 rfl (lv_at hl 3 rfl) ?_
    exact x_iret C hW h dX4_greatestPart_87
  · have h := h.2 c1
    refine lv_iconst (v := 0) C.1 C.2.1 dX4_greatestPart_12 (by decide) ?_
    refine lv_istore (lv' := [(5, .int 0), (0, .ref (gad g 0)), (1, .int p1), (2, .int p2), (3, .int v3), (4, .int v4)]) C.1 C.2.1 dX4_greatestPart_13 hl (by decide) rfl (fun ls hl => ?_)
    refine lv_iconst (v := 0) C.1 C.2.1 dX4_greatestPart_15 (by decide) ?_
    refine lv_istore (lv' := [(6, .int 0), (5, .int 0), (0, .ref (gad g 0)), (1, .int p1), (2, .int p2), (3, .int v3), (4, .int v4)]) C.1 C.2.1 dX4_greatestPart_16 hl (by decide) rfl (fun ls hl => ?_)
    obtain ⟨n, h⟩ := h
    exact k_X4_greatestPart_L18 C hK5 n v3 v4 0 0 u _ _ _ h hW (lv_sub hl [2, 3, 4, 5, 6, 1, 0] rfl)
theorem k_X4_greatestPart_L5 {p : Program} {l : Launch} {e : Env} {s : State} {m : MethodId} {args : Array Value} {below : List Frame} {meth : Method} {c : Code} {g : GG} {A : Nat → Prop} {p1 : Int32} {p2 : Int32} {Q : Int32 → St → Prop} (C : MC p s m args meth c cX4_greatestPart 7 RX4 (some .int) g A) : ∀ (n : Nat), ∀ (v3 : Int32) (v4 : Int32) (u : St) (H : Heap) (locs : List Loc) (ls : Array Slot), wp_X4_greatestPart_L5 p1 p2 Q n v3 v4 u → WD g A s u H locs → lv_has ls 7 [(0, .ref (gad g 0)), (1, .int p1), (2, .int p2), (3, .int v3), (4, .int v4)] → W p l e rm_X4_greatestPart s m args below meth c H locs 0 0 (MQ below (va_Qi Q (WQ g) A) args s 0 0 A) (F0 m 5 ls []) := by
  intro n
  induction n with
  | zero => intro v3 v4 u H locs ls h; exact False.elim h
  | succ n ih => exact k_X4_greatestPart_B5 (p1 := p1) (p2 := p2) C ih
set_option maxRecDepth 100000 in
theorem c_X4_greatestPart (l : Launch) (g : GG) {p1 : Int32} {p2 : Int32} {u : St} {Q : Int32 → St → Prop} (h : wp_X4_greatestPart p1 p2 u Q) : CI l yX4_greatestPart cX4_greatestPart 7 (some .int) rm_X4_greatestPart g [.ref (gad g 0), .int p1, .int p2] u Q := by
  refine ent (own := RX4) (Qc := va_Qi Q (WQ g)) (by decide) rfl (Nat.le_of_ble_eq_true rfl) ?_
  intro p e s m below meth c A ls C hl hW
  have hl : lv_has ls 7 [(0, .ref (gad g 0)), (1, .int p1), (2, .int p2)] := hl
  unfold wp_X4_greatestPart at h
  refine lv_iconst (v := 0) C.1 C.2.1 dX4_greatestPart_0 (by decide) ?_
  refine lv_istore_n (lv' := [(3, .int 0), (0, .ref (gad g 0)), (1, .int p1), (2, .int p2)]) C.1 C.2.1 dX4_greatestPart_1 rfl hl (by decide) rfl (fun ls hl => ?_)
  refine lv_iconst (v := 0) C.1 C.2.1 dX4_greatestPart_2 (by decide) ?_
  refine lv_istore (lv' := [(4, .int 0), (3, .int 0), (0, .ref (gad g 0)), (1, .int p1), (2, .int p2)]) C.1 C.2.1 dX4_greatestPart_3 hl (by decide) rfl (fun ls hl => ?_)
  obtain ⟨n, h⟩ := h
  exact k_X4_greatestPart_L5 C n 0 0 u _ _ _ h hW (lv_sub hl [2, 3, 4, 1, 0] rfl)
set_option maxRecDepth 100000 in
theorem k_X4_haunts_B46 {p : Program} {l : Launch} {e : Env} {s : State} {m : MethodId} {args : Array Value} {below : List Frame} {meth : Method} {c : Code} {g : GG} {A : Nat → Prop} {p1 : Int32} {Q : Int32 → St → Prop} (C : MC p s m args meth c cX4_haunts 7 RX4 (some .int) g A) {K46 : Int32 → Int32 → Int32 → Int32 → St → Prop} (hK46 : ∀ (v2 : Int32) (v3 : Int32) (v4 : Int32) (v5 : Int32) (u : St) (H : Heap) (locs : List Loc) (ls : Array Slot), K46 v2 v3 v4 v5 u → WD g A s u H locs → lv_has ls 7 [(0, .ref (gad g 0)), (1, .int p1), (2, .int v2), (3, .int v3), (4, .int v4), (5, .int v5)] → W p l e rm_X4_haunts s m args below meth c H locs 0 0 (MQ below (va_Qi Q (WQ g) A) args s 0 0 A) (F0 m 46 ls [])) : ∀ (v2 : Int32) (v3 : Int32) (v4 : Int32) (v5 : Int32) (u : St) (H : Heap) (locs : List Loc) (ls : Array Slot), wp_X4_haunts_B46 p1 Q K46 v2 v3 v4 v5 u → WD g A s u H locs → lv_has ls 7 [(0, .ref (gad g 0)), (1, .int p1), (2, .int v2), (3, .int v3), (4, .int v4), (5, .int v5)] → W p l e rm_X4_haunts s m args below meth c H locs 0 0 (MQ below (va_Qi Q (WQ g) A) args s 0 0 A) (F0 m 46 ls []) := by
  intro v2 v3 v4 v5 u H locs ls h hW hl
  refine lv_iload C.1 C.2.1 dX4_haunts_46 (lv_at hl 5 rfl) ?_
  refine lv_iload_n C.1 C.2.1 dX4_haunts_48 rfl (lv_at hl 2 rfl) ?_
  refine lv_icmp_ge (tgt := 103) C.1 C.2.1 dX4_haunts_49 (by decide) (fun c5 => ?_) (fun c5 => ?_)
  · have h := h.1 c5
    refine lv_iload C.1 C.2.1 dX4_haunts_103 (lv_at hl 4 rfl) ?_
    refine lv_bipush (v := (-9)) C.1 C.2.1 dX4_haunts_105 (by decide) ?_
    refine lv_icmp_eq (tgt := 115) C.1 C.2.1 dX4_haunts_107 (by decide) (fun c6 => ?_) (fun c6 => ?_)
    · have h := h.1 c6
      refine lv_iload C.1 C.2.1 dX4_haunts_115 (lv_at hl 4 rfl) ?_
      exact x_iret C hW h dX4_haunts_117
    · have h := h.2 c6
      refine lv_aload_n C.1 C.2.1 dX4_haunts_110 rfl (lv_at hl 0 rfl) ?_
      refine lv_iload_n C.1 C.2.1 dX4_haunts_111 rfl (lv_at hl 3 rfl) ?_
      refine fp_X4_67 C hW dX4_haunts_112 (fun u7 H locs e7 hW => ?_)
      have h := nxt_get h e7
      refine lv_iload C.1 C.2.1 dX4_haunts_115 (lv_at hl 4 rfl) ?_
      exact x_iret C hW h dX4_haunts_117
  · have h := h.2 c5
    refine lv_iload C.1 C.2.1 dX4_haunts_52 (lv_at hl 5 rfl) ?_
    refine x_Si (rest := []) C hW (c_J6_bitCount_0f7a4 l g h) km_J6_bitCount_0f7a4 qm_X4_156 ⟨rfl, rfl⟩ (by decide) rfl hl.1 rfl (Nat.le_of_ble_eq_true rfl) ⟨Nat.zero_le _, Nat.zero_le _⟩ dX4_haunts_54 (fun r8 u8 H locs h hW => ?_)
    refine lv_istore (lv' := [(6, .int r8), (0, .ref (gad g 0)), (1, .int p1), (2, .int v2), (3, .int v3), (4, .int v4), (5, .int v5)]) C.1 C.2.1 dX4_haunts_57 hl (by decide) rfl (fun ls hl => ?_)
    refine lv_iload C.1 C.2.1 dX4_haunts_59 (lv_at hl 6 rfl) ?_
    refine lv_iload_n C.1 C.2.1 dX4_haunts_61 rfl (lv_at hl 2 rfl) ?_
    refine x_Si (rest := []) C hW (c_X4_holds l g h) km_X4_holds qm_X4_222 ⟨rfl, rfl⟩ (by decide) rfl hl.1 rfl (Nat.le_of_ble_eq_true rfl) ⟨Nat.zero_le _, Nat.zero_le _⟩ dX4_haunts_62 (fun r9 u9 H locs h hW => ?_)
    refine lv_if_ne (tgt := 97) C.1 C.2.1 dX4_haunts_65 (by decide) (fun c10 => ?_) (fun c10 => ?_)
    · have h := h.1 c10
      refine lv_iinc (v := (v5 + 1)) (lv' := [(5, .int (v5 + 1)), (6, .int r8), (0, .ref (gad g 0)), (1, .int p1), (2, .int v2), (3, .int v3), (4, .int v4)]) C.1 C.2.1 dX4_haunts_97 hl (k := 6) rfl rfl (by decide) rfl (fun ls hl => ?_)
      refine lv_goto (tgt := 46) C.1 C.2.1 dX4_haunts_100 (by decide) ?_
      exact hK46 v2 v3 v4 (v5 + 1) u9 _ _ _ h hW (lv_sub hl [2, 3, 4, 5, 6, 0] rfl)
    · have h := h.2 c10
      refine lv_iload C.1 C.2.1 dX4_haunts_68 (lv_at hl 0 rfl) ?_
      refine lv_iload_n C.1 C.2.1 dX4_haunts_70 rfl (lv_at hl 4 rfl) ?_
      refine lv_icmp_ge (tgt := 97) C.1 C.2.1 dX4_haunts_71 (by decide) (fun c11 => ?_) (fun c11 => ?_)
      · have h := h.1 c11
        refine lv_iinc (v := (v5 + 1)) (lv' := [(5, .int (v5 + 1)), (6, .int r8), (0, .ref (gad g 0)), (1, .int p1), (2, .int v2), (3, .int v3), (4, .int v4)]) C.1 C.2.1 dX4_haunts_97 hl (k := 6) rfl rfl (by decide) rfl (fun ls hl => ?_)
        refine lv_goto (tgt := 46) C.1 C.2.1 dX4_haunts_100 (by decide) ?_
        exact hK46 v2 v3 v4 (v5 + 1) u9 _ _ _ h hW (lv_sub hl [2, 3, 4, 5, 6, 0] rfl)
      · have h := h.2 c11
        refine lv_aload_n C.1 C.2.1 dX4_haunts_74 rfl (lv_at hl 1 rfl) ?_
        refine fg_X4_47 C hW dX4_haunts_75 ?_
        refine lv_iload C.1 C.2.1 dX4_haunts_78 (lv_at hl 6 rfl) ?_
        refine x_Vi (rest := []) C hW (c_X3_toldOf l g h) km_X3_toldOf oWires rfl qm_X4_219 ⟨rfl, rfl⟩ (by decide) rfl hl.1 rfl (Nat.le_of_ble_eq_true rfl) ⟨Nat.zero_le _, Nat.zero_le _⟩ dX4_haunts_80 (fun r12 u12 H locs h hW => ?_)
        refine lv_iload_n C.1 C.2.1 dX4_haunts_83 rfl (lv_at hl 2 rfl) ?_
        refine x_Si (rest := []) C hW (c_X4_holds l g h) km_X4_holds qm_X4_222 ⟨rfl, rfl⟩ (by decide) rfl hl.1 rfl (Nat.le_of_ble_eq_true rfl) ⟨Nat.zero_le _, Nat.zero_le _⟩ dX4_haunts_84 (fun r13 u13 H locs h hW => ?_)
        refine lv_if_eq (tgt := 97) C.1 C.2.1 dX4_haunts_87 (by decide) (fun c14 => ?_) (fun c14 => ?_)
        · have h := h.1 c14
          refine lv_iinc (v := (v5 + 1)) (lv' := [(5, .int (v5 + 1)), (6, .int r8), (0, .ref (gad g 0)), (1, .int p1), (2, .int v2), (3, .int v3), (4, .int v4)]) C.1 C.2.1 dX4_haunts_97 hl (k := 6) rfl rfl (by decide) rfl (fun ls hl => ?_)
          refine lv_goto (tgt := 46) C.1 C.2.1 dX4_haunts_100 (by decide) ?_
          exact hK46 v2 v3 v4 (v5 + 1) u13 _ _ _ h hW (lv_sub hl [2, 3, 4, 5, 6, 0] rfl)
        · have h := h.2 c14
          refine lv_iload C.1 C.2.1 dX4_haunts_90 (lv_at hl 0 rfl) ?_
          refine lv_istore_n (lv' := [(3, .int r8), (6, .int r8), (0, .ref (gad g 0)), (1, .int p1), (2, .int v2), (4, .int v4), (5, .int v5)]) C.1 C.2.1 dX4_haunts_92 rfl hl (by decide) rfl (fun ls hl => ?_)
          refine lv_iload C.1 C.2.1 dX4_haunts_93 (lv_at hl 6 rfl) ?_
          refine lv_istore (lv' := [(4, .int v5), (3, .int r8), (6, .int r8), (0, .ref (gad g 0)), (1, .int p1), (2, .int v2), (5, .int v5)]) C.1 C.2.1 dX4_haunts_95 hl (by decide) rfl (fun ls hl => ?_)
          refine lv_iinc (v := (v5 + 1)) (lv' := [(5, .int (v5 + 1)), (4, .int v5), (3, .int r8), (6, .int r8), (0, .ref (gad g 0)), (1, .int p1), (2, .int v2)]) C.1 C.2.1 dX4_haunts_97 hl (k := 6) rfl rfl (by decide) rfl (fun ls hl => ?_)
          refine lv_goto (tgt := 46) C.1 C.2.1 dX4_haunts_100 (by decide) ?_
          exact hK46 v2 r8 v5 (v5 + 1) u13 _ _ _ h hW (lv_sub hl [4, 5, 6, 2, 1, 0] rfl)
theorem k_X4_haunts_L46 {p : Program} {l : Launch} {e : Env} {s : State} {m : MethodId} {args : Array Value} {below : List Frame} {meth : Method} {c : Code} {g : GG} {A : Nat → Prop} {p1 : Int32} {Q : Int32 → St → Prop} (C : MC p s m args meth c cX4_haunts 7 RX4 (some .int) g A) : ∀ (n : Nat), ∀ (v2 : Int32) (v3 : Int32) (v4 : Int32) (v5 : Int32) (u : St) (H : Heap) (locs : List Loc) (ls : Array Slot), wp_X4_haunts_L46 p1 Q n v2 v3 v4 v5 u → WD g A s u H locs → lv_has ls 7 [(0, .ref (gad g 0)), (1, .int p1), (2, .int v2), (3, .int v3), (4, .int v4), (5, .int v5)] → W p l e rm_X4_haunts s m args below meth c H locs 0 0 (MQ below (va_Qi Q (WQ g) A) args s 0 0 A) (F0 m 46 ls []) := by
  intro n
  induction n with
  | zero => intro v2 v3 v4 v5 u H locs ls h; exact False.elim h
  | succ n ih => exact k_X4_haunts_B46 (p1 := p1) C ih
set_option maxRecDepth 100000 in
theorem c_X4_haunts (l : Launch) (g : GG) {p1 : Int32} {u : St} {Q : Int32 → St → Prop} (h : wp_X4_haunts p1 u Q) : CI l yX4_haunts cX4_haunts 7 (some .int) rm_X4_haunts g [.ref (gad g 0), .int p1] u Q := by
  refine ent (own := RX4) (Qc := va_Qi Q (WQ g)) (by decide) rfl (Nat.le_of_ble_eq_true rfl) ?_
  intro p e s m below meth c A ls C hl hW
  have hl : lv_has ls 7 [(0, .ref (gad g 0)), (1, .int p1)] := hl
  unfold wp_X4_haunts at h
  refine lv_aload_n C.1 C.2.1 dX4_haunts_0 rfl (lv_at hl 0 rfl) ?_
  refine fg_X4_27 C hW dX4_haunts_1 ?_
  refine lv_iload_n C.1 C.2.1 dX4_haunts_4 rfl (lv_at hl 1 rfl) ?_
  refine x_Vi (rest := []) C hW (c_X0_has l g (Or.inl rfl) h) km_X0_has (oLay (Or.inl rfl)) rfl qm_X4_139 ⟨rfl, rfl⟩ (by decide) rfl hl.1 rfl (Nat.le_of_ble_eq_true rfl) ⟨Nat.zero_le _, Nat.zero_le _⟩ dX4_haunts_5 (fun r1 u1 H locs h hW => ?_)
  refine lv_if_ne (tgt := 13) C.1 C.2.1 dX4_haunts_8 (by decide) (fun c2 => ?_) (fun c2 => ?_)
  · have h := h.1 c2
    refine lv_aload_n C.1 C.2.1 dX4_haunts_13 rfl (lv_at hl 0 rfl) ?_
    refine fg_X4_27 C hW dX4_haunts_14 ?_
    refine x_Vi (rest := []) C hW (c_X0_sets l g (Or.inl rfl) h) km_X0_sets (oLay (Or.inl rfl)) rfl qm_X4_216 ⟨rfl, rfl⟩ (by decide) rfl hl.1 rfl (Nat.le_of_ble_eq_true rfl) ⟨Nat.zero_le _, Nat.zero_le _⟩ dX4_haunts_17 (fun r3 u3 H locs h hW => ?_)
    refine lv_istore_n (lv' := [(2, .int r3), (0, .ref (gad g 0)), (1, .int p1)]) C.1 C.2.1 dX4_haunts_20 rfl hl (by decide) rfl (fun ls hl => ?_)
    refine lv_bipush (v := 8) C.1 C.2.1 dX4_haunts_21 (by decide) ?_
    refine lv_istore_n (lv' := [(3, .int 8), (2, .int r3), (0, .ref (gad g 0)), (1, .int p1)]) C.1 C.2.1 dX4_haunts_23 rfl hl (by decide) rfl (fun ls hl => ?_)
    refine lv_bipush (v := (-9)) C.1 C.2.1 dX4_haunts_24 (by decide) ?_
    refine lv_istore (lv' := [(4, .int (-9)), (3, .int 8), (2, .int r3), (0, .ref (gad g 0)), (1, .int p1)]) C.1 C.2.1 dX4_haunts_26 hl (by decide) rfl (fun ls hl => ?_)
    refine lv_aload_n C.1 C.2.1 dX4_haunts_28 rfl (lv_at hl 3 rfl) ?_
    refine fg_X4_47 C hW dX4_haunts_29 ?_
    refine lv_aload_n C.1 C.2.1 dX4_haunts_32 rfl (lv_at hl 3 rfl) ?_
    refine fg_X4_27 C hW dX4_haunts_33 ?_
    refine lv_aload_n C.1 C.2.1 dX4_haunts_36 rfl (lv_at hl 3 rfl) ?_
    refine fg_X4_37 C hW dX4_haunts_37 ?_
    refine x_Vv (rest := []) C hW (c_X3_attach l g (Or.inl rfl) (Or.inl rfl) h) km_X3_attach oWires rfl qm_X4_175 ⟨rfl, rfl⟩ (by decide) rfl hl.1 rfl (Nat.le_of_ble_eq_true rfl) ⟨Nat.zero_le _, Nat.zero_le _⟩ dX4_haunts_40 (fun u4 H locs h hW => ?_)
    refine lv_iconst (v := 0) C.1 C.2.1 dX4_haunts_43 (by decide) ?_
    refine lv_istore (lv' := [(5, .int 0), (4, .int (-9)), (3, .int 8), (2, .int r3), (0, .ref (gad g 0)), (1, .int p1)]) C.1 C.2.1 dX4_haunts_44 hl (by decide) rfl (fun ls hl => ?_)
    obtain ⟨n, h⟩ := h
    exact k_X4_haunts_L46 C n r3 8 (-9) 0 u4 _ _ _ h hW (lv_sub hl [4, 5, 3, 2, 1, 0] rfl)
  · have h := h.2 c2
    refine lv_iconst (v := (-1)) C.1 C.2.1 dX4_haunts_11 (by decide) ?_
    exact x_iret C hW h dX4_haunts_12
set_option maxRecDepth 100000 in
theorem k_X4_isAmongFirst_B2 {p : Program} {l : Launch} {e : Env} {s : State} {m : MethodId} {args : Array Value} {below : List Frame} {meth : Method} {c : Code} {g : GG} {A : Nat → Prop} {p1 : Int32} {p2 : Int32} {Q : Int32 → St → Prop} (C : MC p s m args meth c cX4_isAmongFirst 4 RX4 (some .boolean) g A) {K2 : Int32 → St → Prop} (hK2 : ∀ (v3 : Int32) (u : St) (H : Heap) (locs : List Loc) (ls : Array Slot), K2 v3 u → WD g A s u H locs → lv_has ls 4 [(0, .ref (gad g 0)), (1, .int p1), (2, .int p2), (3, .int v3)] → W p l e rm_X4_isAmongFirst s m args below meth c H locs 0 0 (MQ below (va_Qi Q (WQ g) A) args s 0 0 A) (F0 m 2 ls [])) : ∀ (v3 : Int32) (u : St) (H : Heap) (locs : List Loc) (ls : Array Slot), wp_X4_isAmongFirst_B2 p1 p2 Q K2 v3 u → WD g A s u H locs → lv_has ls 4 [(0, .ref (gad g 0)), (1, .int p1), (2, .int p2), (3, .int v3)] → W p l e rm_X4_isAmongFirst s m args below meth c H locs 0 0 (MQ below (va_Qi Q (WQ g) A) args s 0 0 A) (F0 m 2 ls []) := by
  intro v3 u H locs ls h hW hl
  refine lv_iload_n C.1 C.2.1 dX4_isAmongFirst_2 rfl (lv_at hl 3 rfl) ?_
  refine lv_iload_n C.1 C.2.1 dX4_isAmongFirst_3 rfl (lv_at hl 1 rfl) ?_
  refine lv_icmp_ge (tgt := 32) C.1 C.2.1 dX4_isAmongFirst_4 (by decide) (fun c1 => ?_) (fun c1 => ?_)
  · have h := h.1 c1
    refine lv_iconst (v := 0) C.1 C.2.1 dX4_isAmongFirst_32 (by decide) ?_
    exact x_zret C hW rfl h dX4_isAmongFirst_33
  · have h := h.2 c1
    refine lv_iload_n C.1 C.2.1 dX4_isAmongFirst_7 rfl (lv_at hl 3 rfl) ?_
    refine lv_sipush (v := 128) C.1 C.2.1 dX4_isAmongFirst_8 (by decide) ?_
    refine lv_icmp_ge (tgt := 32) C.1 C.2.1 dX4_isAmongFirst_11 (by decide) (fun c2 => ?_) (fun c2 => ?_)
    · have h := h.1 c2
      refine lv_iconst (v := 0) C.1 C.2.1 dX4_isAmongFirst_32 (by decide) ?_
      exact x_zret C hW rfl h dX4_isAmongFirst_33
    · have h := h.2 c2
      refine lv_aload_n C.1 C.2.1 dX4_isAmongFirst_14 rfl (lv_at hl 0 rfl) ?_
      refine fg_X4_51 C hW dX4_isAmongFirst_15 ?_
      refine lv_iload_n C.1 C.2.1 dX4_isAmongFirst_18 rfl (lv_at hl 3 rfl) ?_
      obtain ⟨h3, h⟩ := h
      refine x_iald C hW g_30 h3 dX4_isAmongFirst_19 ?_
      refine lv_iload_n C.1 C.2.1 dX4_isAmongFirst_20 rfl (lv_at hl 2 rfl) ?_
      refine lv_icmp_ne (tgt := 26) C.1 C.2.1 dX4_isAmongFirst_21 (by decide) (fun c4 => ?_) (fun c4 => ?_)
      · have h := h.1 c4
        refine lv_iinc (v := (v3 + 1)) (lv' := [(3, .int (v3 + 1)), (0, .ref (gad g 0)), (1, .int p1), (2, .int p2)]) C.1 C.2.1 dX4_isAmongFirst_26 hl (k := 3) rfl rfl (by decide) rfl (fun ls hl => ?_)
        refine lv_goto (tgt := 2) C.1 C.2.1 dX4_isAmongFirst_29 (by decide) ?_
        exact hK2 (v3 + 1) u _ _ _ h hW (lv_sub hl [1, 2, 3, 0] rfl)
      · have h := h.2 c4
        refine lv_iconst (v := 1) C.1 C.2.1 dX4_isAmongFirst_24 (by decide) ?_
        exact x_zret C hW rfl h dX4_isAmongFirst_25
theorem k_X4_isAmongFirst_L2 {p : Program} {l : Launch} {e : Env} {s : State} {m : MethodId} {args : Array Value} {below : List Frame} {meth : Method} {c : Code} {g : GG} {A : Nat → Prop} {p1 : Int32} {p2 : Int32} {Q : Int32 → St → Prop} (C : MC p s m args meth c cX4_isAmongFirst 4 RX4 (some .boolean) g A) : ∀ (n : Nat), ∀ (v3 : Int32) (u : St) (H : Heap) (locs : List Loc) (ls : Array Slot), wp_X4_isAmongFirst_L2 p1 p2 Q n v3 u → WD g A s u H locs → lv_has ls 4 [(0, .ref (gad g 0)), (1, .int p1), (2, .int p2), (3, .int v3)] → W p l e rm_X4_isAmongFirst s m args below meth c H locs 0 0 (MQ below (va_Qi Q (WQ g) A) args s 0 0 A) (F0 m 2 ls []) := by
  intro n
  induction n with
  | zero => intro v3 u H locs ls h; exact False.elim h
  | succ n ih => exact k_X4_isAmongFirst_B2 (p1 := p1) (p2 := p2) C ih
set_option maxRecDepth 100000 in
theorem c_X4_isAmongFirst (l : Launch) (g : GG) {p1 : Int32} {p2 : Int32} {u : St} {Q : Int32 → St → Prop} (h : wp_X4_isAmongFirst p1 p2 u Q) : CI l yX4_isAmongFirst cX4_isAmongFirst 4 (some .boolean) rm_X4_isAmongFirst g [.ref (gad g 0), .int p1, .int p2] u Q := by
  refine ent (own := RX4) (Qc := va_Qi Q (WQ g)) (by decide) rfl (Nat.le_of_ble_eq_true rfl) ?_
  intro p e s m below meth c A ls C hl hW
  have hl : lv_has ls 4 [(0, .ref (gad g 0)), (1, .int p1), (2, .int p2)] := hl
  unfold wp_X4_isAmongFirst at h
  refine lv_iconst (v := 0) C.1 C.2.1 dX4_isAmongFirst_0 (by decide) ?_
  refine lv_istore_n (lv' := [(3, .int 0), (0, .ref (gad g 0)), (1, .int p1), (2, .int p2)]) C.1 C.2.1 dX4_isAmongFirst_1 rfl hl (by decide) rfl (fun ls hl => ?_)
  obtain ⟨n, h⟩ := h
  exact k_X4_isAmongFirst_L2 C n 0 u _ _ _ h hW (lv_sub hl [1, 2, 3, 0] rfl)
set_option maxRecDepth 100000 in
theorem c_X4_keep (l : Launch) (g : GG) {p1 : Int32} {u : St} {Q : Int32 → St → Prop} (h : wp_X4_keep p1 u Q) : CI l yX4_keep cX4_keep 2 (some .int) rm_X4_keep g [.ref (gad g 0), .int p1] u Q := by
  refine ent (own := RX4) (Qc := va_Qi Q (WQ g)) (by decide) rfl (Nat.le_of_ble_eq_true rfl) ?_
  intro p e s m below meth c A ls C hl hW
  have hl : lv_has ls 2 [(0, .ref (gad g 0)), (1, .int p1)] := hl
  unfold wp_X4_keep at h
  refine lv_iload_n C.1 C.2.1 dX4_keep_0 rfl (lv_at hl 1 rfl) ?_
  refine lv_iconst (v := 3) C.1 C.2.1 dX4_keep_1 (by decide) ?_
  refine x_Si (rest := []) C hW (c_X4_within l g h) km_X4_within qm_X4_81 ⟨rfl, rfl⟩ (by decide) rfl hl.1 rfl (Nat.le_of_ble_eq_true rfl) ⟨Nat.zero_le _, Nat.zero_le _⟩ dX4_keep_2 (fun r1 u1 H locs h hW => ?_)
  refine lv_if_ne (tgt := 10) C.1 C.2.1 dX4_keep_5 (by decide) (fun c2 => ?_) (fun c2 => ?_)
  · have h := h.1 c2
    refine lv_aload_n C.1 C.2.1 dX4_keep_10 rfl (lv_at hl 0 rfl) ?_
    refine fg_X4_27 C hW dX4_keep_11 ?_
    refine fg_X4_137 C hW (Or.inl rfl) dX4_keep_14 ?_
    refine lv_if_ne (tgt := 23) C.1 C.2.1 dX4_keep_17 (by decide) (fun c3 => ?_) (fun c3 => ?_)
    · have h := h.1 c3
      refine lv_aload_n C.1 C.2.1 dX4_keep_23 rfl (lv_at hl 0 rfl) ?_
      refine fg_X4_21 C hW dX4_keep_24 ?_
      refine lv_iconst (v := 3) C.1 C.2.1 dX4_keep_27 (by decide) ?_
      refine lv_iload_n C.1 C.2.1 dX4_keep_28 rfl (lv_at hl 1 rfl) ?_
      refine x_Vv (rest := []) C hW (c_X2_moveAll l g (Or.inr (Or.inr rfl)) h) km_X2_moveAll (oShf (Or.inr (Or.inr rfl))) rfl qm_X4_200 ⟨rfl, rfl⟩ (by decide) rfl hl.1 rfl (Nat.le_of_ble_eq_true rfl) ⟨Nat.zero_le _, Nat.zero_le _⟩ dX4_keep_29 (fun u4 H locs h hW => ?_)
      refine lv_aload_n C.1 C.2.1 dX4_keep_32 rfl (lv_at hl 0 rfl) ?_
      refine fg_X4_21 C hW dX4_keep_33 ?_
      refine lv_iload_n C.1 C.2.1 dX4_keep_36 rfl (lv_at hl 1 rfl) ?_
      refine x_Vi (rest := []) C hW (c_X2_size l g (Or.inr (Or.inr rfl)) h) km_X2_size (oShf (Or.inr (Or.inr rfl))) rfl qm_X4_120 ⟨rfl, rfl⟩ (by decide) rfl hl.1 rfl (Nat.le_of_ble_eq_true rfl) ⟨Nat.zero_le _, Nat.zero_le _⟩ dX4_keep_37 (fun r5 u5 H locs h hW => ?_)
      exact x_iret C hW h dX4_keep_40
    · have h := h.2 c3
      refine lv_bipush (v := (-4)) C.1 C.2.1 dX4_keep_20 (by decide) ?_
      exact x_iret C hW h dX4_keep_22
  · have h := h.2 c2
    refine lv_iconst (v := (-1)) C.1 C.2.1 dX4_keep_8 (by decide) ?_
    exact x_iret C hW h dX4_keep_9
set_option maxRecDepth 100000 in
theorem c_X4_key (l : Launch) (g : GG) {p1 : Int32} {p2 : Int32} {u : St} {Q : Int32 → St → Prop} (h : wp_X4_key p1 p2 u Q) : CI l yX4_key cX4_key 3 (some .int) rm_X4_key g [.ref (gad g 0), .int p1, .int p2] u Q := by
  refine ent (own := RX4) (Qc := va_Qi Q (WQ g)) (by decide) rfl (Nat.le_of_ble_eq_true rfl) ?_
  intro p e s m below meth c A ls C hl hW
  have hl : lv_has ls 3 [(0, .ref (gad g 0)), (1, .int p1), (2, .int p2)] := hl
  unfold wp_X4_key at h
  refine lv_aload_n C.1 C.2.1 dX4_key_0 rfl (lv_at hl 0 rfl) ?_
  refine fg_X4_27 C hW dX4_key_1 ?_
  refine lv_iload_n C.1 C.2.1 dX4_key_4 rfl (lv_at hl 1 rfl) ?_
  refine x_Vi (rest := []) C hW (c_X0_has l g (Or.inl rfl) h) km_X0_has (oLay (Or.inl rfl)) rfl qm_X4_139 ⟨rfl, rfl⟩ (by decide) rfl hl.1 rfl (Nat.le_of_ble_eq_true rfl) ⟨Nat.zero_le _, Nat.zero_le _⟩ dX4_key_5 (fun r1 u1 H locs h hW => ?_)
  refine lv_if_eq (tgt := 20) C.1 C.2.1 dX4_key_8 (by decide) (fun c2 => ?_) (fun c2 => ?_)
  · have h := h.1 c2
    refine lv_iconst (v := (-1)) C.1 C.2.1 dX4_key_20 (by decide) ?_
    exact x_iret C hW h dX4_key_21
  · have h := h.2 c2
    refine lv_iload_n C.1 C.2.1 dX4_key_11 rfl (lv_at hl 2 rfl) ?_
    refine lv_bipush (v := 8) C.1 C.2.1 dX4_key_12 (by decide) ?_
    refine x_Si (rest := []) C hW (c_X4_within l g h) km_X4_within qm_X4_81 ⟨rfl, rfl⟩ (by decide) rfl hl.1 rfl (Nat.le_of_ble_eq_true rfl) ⟨Nat.zero_le _, Nat.zero_le _⟩ dX4_key_14 (fun r3 u3 H locs h hW => ?_)
    refine lv_if_ne (tgt := 22) C.1 C.2.1 dX4_key_17 (by decide) (fun c4 => ?_) (fun c4 => ?_)
    · have h := h.1 c4
      refine lv_aload_n C.1 C.2.1 dX4_key_22 rfl (lv_at hl 0 rfl) ?_
      refine lv_aload_n C.1 C.2.1 dX4_key_23 rfl (lv_at hl 0 rfl) ?_
      refine lv_iload_n C.1 C.2.1 dX4_key_24 rfl (lv_at hl 1 rfl) ?_
      refine lv_iload_n C.1 C.2.1 dX4_key_25 rfl (lv_at hl 2 rfl) ?_
      refine x_Vi (rest := [.ref (gad g 0)]) C hW (c_X4_keyFact l g h) km_X4_keyFact oKeys rfl qm_X4_140 ⟨rfl, rfl⟩ (by decide) rfl hl.1 rfl (Nat.le_of_ble_eq_true rfl) ⟨Nat.zero_le _, Nat.zero_le _⟩ dX4_key_26 (fun r5 u5 H locs h hW => ?_)
      refine fp_X4_67 C hW dX4_key_29 (fun u6 H locs e6 hW => ?_)
      have h := nxt_get h e6
      refine lv_iconst (v := 1) C.1 C.2.1 dX4_key_32 (by decide) ?_
      exact x_iret C hW h dX4_key_33
    · have h := h.2 c4
      refine lv_iconst (v := (-1)) C.1 C.2.1 dX4_key_20 (by decide) ?_
      exact x_iret C hW h dX4_key_21
set_option maxRecDepth 100000 in
theorem k_X4_kindsThatFit_B16 {p : Program} {l : Launch} {e : Env} {s : State} {m : MethodId} {args : Array Value} {below : List Frame} {meth : Method} {c : Code} {g : GG} {A : Nat → Prop} {p1 : Int32} {p2 : Int32} {Q : Int32 → St → Prop} (C : MC p s m args meth c cX4_kindsThatFit 5 RX4 (some .int) g A) {K16 : Int32 → Int32 → St → Prop} (hK16 : ∀ (v3 : Int32) (v4 : Int32) (u : St) (H : Heap) (locs : List Loc) (ls : Array Slot), K16 v3 v4 u → WD g A s u H locs → lv_has ls 5 [(0, .ref (gad g 0)), (1, .int p1), (2, .int p2), (3, .int v3), (4, .int v4)] → W p l e rm_X4_kindsThatFit s m args below meth c H locs 0 0 (MQ below (va_Qi Q (WQ g) A) args s 0 0 A) (F0 m 16 ls [])) : ∀ (v3 : Int32) (v4 : Int32) (u : St) (H : Heap) (locs : List Loc) (ls : Array Slot), wp_X4_kindsThatFit_B16 p1 p2 Q K16 v3 v4 u → WD g A s u H locs → lv_has ls 5 [(0, .ref (gad g 0)), (1, .int p1), (2, .int p2), (3, .int v3), (4, .int v4)] → W p l e rm_X4_kindsThatFit s m args below meth c H locs 0 0 (MQ below (va_Qi Q (WQ g) A) args s 0 0 A) (F0 m 16 ls []) := by
  intro v3 v4 u H locs ls h hW hl
  refine lv_iload C.1 C.2.1 dX4_kindsThatFit_16 (lv_at hl 4 rfl) ?_
  refine lv_bipush (v := 6) C.1 C.2.1 dX4_kindsThatFit_18 (by decide) ?_
  refine lv_icmp_ge (tgt := 58) C.1 C.2.1 dX4_kindsThatFit_20 (by decide) (fun c2 => ?_) (fun c2 => ?_)
  · have h := h.1 c2
    refine lv_iload_n C.1 C.2.1 dX4_kindsThatFit_58 rfl (lv_at hl 3 rfl) ?_
    exact x_iret C hW h dX4_kindsThatFit_59
  · have h := h.2 c2
    refine lv_aload_n C.1 C.2.1 dX4_kindsThatFit_23 rfl (lv_at hl 0 rfl) ?_
    refine fg_X4_31 C hW dX4_kindsThatFit_24 ?_
    refine lv_iload_n C.1 C.2.1 dX4_kindsThatFit_27 rfl (lv_at hl 1 rfl) ?_
    refine lv_iload C.1 C.2.1 dX4_kindsThatFit_28 (lv_at hl 4 rfl) ?_
    refine x_Vv (rest := []) C hW (c_X0_turnInto l g (Or.inr rfl) h) km_X0_turnInto (oLay (Or.inr rfl)) rfl qm_X4_235 ⟨rfl, rfl⟩ (by decide) rfl hl.1 rfl (Nat.le_of_ble_eq_true rfl) ⟨Nat.zero_le _, Nat.zero_le _⟩ dX4_kindsThatFit_30 (fun u3 H locs h hW => ?_)
    refine lv_aload_n C.1 C.2.1 dX4_kindsThatFit_33 rfl (lv_at hl 0 rfl) ?_
    refine lv_aload_n C.1 C.2.1 dX4_kindsThatFit_34 rfl (lv_at hl 0 rfl) ?_
    refine fg_X4_31 C hW dX4_kindsThatFit_35 ?_
    refine lv_iload_n C.1 C.2.1 dX4_kindsThatFit_38 rfl (lv_at hl 2 rfl) ?_
    refine x_Vi (rest := []) C hW (c_X4_fits l g (Or.inr rfl) h) km_X4_fits oKeys rfl qm_X4_250 ⟨rfl, rfl⟩ (by decide) rfl hl.1 rfl (Nat.le_of_ble_eq_true rfl) ⟨Nat.zero_le _, Nat.zero_le _⟩ dX4_kindsThatFit_39 (fun r4 u4 H locs h hW => ?_)
    refine lv_if_eq (tgt := 52) C.1 C.2.1 dX4_kindsThatFit_42 (by decide) (fun c5 => ?_) (fun c5 => ?_)
    · have h := h.1 c5
      refine lv_iinc (v := (v4 + 1)) (lv' := [(4, .int (v4 + 1)), (0, .ref (gad g 0)), (1, .int p1), (2, .int p2), (3, .int v3)]) C.1 C.2.1 dX4_kindsThatFit_52 hl (k := 4) rfl rfl (by decide) rfl (fun ls hl => ?_)
      refine lv_goto (tgt := 16) C.1 C.2.1 dX4_kindsThatFit_55 (by decide) ?_
      exact hK16 v3 (v4 + 1) u4 _ _ _ h hW (lv_sub hl [1, 2, 3, 4, 0] rfl)
    · have h := h.2 c5
      refine lv_iload_n C.1 C.2.1 dX4_kindsThatFit_45 rfl (lv_at hl 3 rfl) ?_
      refine lv_iconst (v := 1) C.1 C.2.1 dX4_kindsThatFit_46 (by decide) ?_
      refine lv_iload C.1 C.2.1 dX4_kindsThatFit_47 (lv_at hl 4 rfl) ?_
      refine lv_ishl C.1 C.2.1 dX4_kindsThatFit_49 ?_
      refine lv_ior C.1 C.2.1 dX4_kindsThatFit_50 ?_
      refine lv_istore_n (lv' := [(3, .int (v3 ||| (1 <<< (v4 &&& 31)))), (0, .ref (gad g 0)), (1, .int p1), (2, .int p2), (4, .int v4)]) C.1 C.2.1 dX4_kindsThatFit_51 rfl hl (by decide) rfl (fun ls hl => ?_)
      refine lv_iinc (v := (v4 + 1)) (lv' := [(4, .int (v4 + 1)), (3, .int (v3 ||| (1 <<< (v4 &&& 31)))), (0, .ref (gad g 0)), (1, .int p1), (2, .int p2)]) C.1 C.2.1 dX4_kindsThatFit_52 hl (k := 4) rfl rfl (by decide) rfl (fun ls hl => ?_)
      refine lv_goto (tgt := 16) C.1 C.2.1 dX4_kindsThatFit_55 (by decide) ?_
      exact hK16 (v3 ||| (1 <<< (v4 &&& 31))) (v4 + 1) u4 _ _ _ h hW (lv_sub hl [2, 3, 4, 1, 0] rfl)
theorem k_X4_kindsThatFit_L16 {p : Program} {l : Launch} {e : Env} {s : State} {m : MethodId} {args : Array Value} {below : List Frame} {meth : Method} {c : Code} {g : GG} {A : Nat → Prop} {p1 : Int32} {p2 : Int32} {Q : Int32 → St → Prop} (C : MC p s m args meth c cX4_kindsThatFit 5 RX4 (some .int) g A) : ∀ (n : Nat), ∀ (v3 : Int32) (v4 : Int32) (u : St) (H : Heap) (locs : List Loc) (ls : Array Slot), wp_X4_kindsThatFit_L16 p1 p2 Q n v3 v4 u → WD g A s u H locs → lv_has ls 5 [(0, .ref (gad g 0)), (1, .int p1), (2, .int p2), (3, .int v3), (4, .int v4)] → W p l e rm_X4_kindsThatFit s m args below meth c H locs 0 0 (MQ below (va_Qi Q (WQ g) A) args s 0 0 A) (F0 m 16 ls []) := by
  intro n
  induction n with
  | zero => intro v3 v4 u H locs ls h; exact False.elim h
  | succ n ih => exact k_X4_kindsThatFit_B16 (p1 := p1) (p2 := p2) C ih
set_option maxRecDepth 100000 in
theorem c_X4_kindsThatFit (l : Launch) (g : GG) {p1 : Int32} {p2 : Int32} {u : St} {Q : Int32 → St → Prop} (h : wp_X4_kindsThatFit p1 p2 u Q) : CI l yX4_kindsThatFit cX4_kindsThatFit 5 (some .int) rm_X4_kindsThatFit g [.ref (gad g 0), .int p1, .int p2] u Q := by
  refine ent (own := RX4) (Qc := va_Qi Q (WQ g)) (by decide) rfl (Nat.le_of_ble_eq_true rfl) ?_
  intro p e s m below meth c A ls C hl hW
  have hl : lv_has ls 5 [(0, .ref (gad g 0)), (1, .int p1), (2, .int p2)] := hl
  unfold wp_X4_kindsThatFit at h
  refine lv_aload_n C.1 C.2.1 dX4_kindsThatFit_0 rfl (lv_at hl 0 rfl) ?_
  refine fg_X4_31 C hW dX4_kindsThatFit_1 ?_
  refine lv_aload_n C.1 C.2.1 dX4_kindsThatFit_4 rfl (lv_at hl 0 rfl) ?_
  refine fg_X4_27 C hW dX4_kindsThatFit_5 ?_
  refine x_Vv (rest := []) C hW (c_X0_copyFrom l g (Or.inr rfl) (Or.inl rfl) h) km_X0_copyFrom (oLay (Or.inr rfl)) rfl qm_X4_130 ⟨rfl, rfl⟩ (by decide) rfl hl.1 rfl (Nat.le_of_ble_eq_true rfl) ⟨Nat.zero_le _, Nat.zero_le _⟩ dX4_kindsThatFit_8 (fun u1 H locs h hW => ?_)
  refine lv_iconst (v := 0) C.1 C.2.1 dX4_kindsThatFit_11 (by decide) ?_
  refine lv_istore_n (lv' := [(3, .int 0), (0, .ref (gad g 0)), (1, .int p1), (2, .int p2)]) C.1 C.2.1 dX4_kindsThatFit_12 rfl hl (by decide) rfl (fun ls hl => ?_)
  refine lv_iconst (v := 0) C.1 C.2.1 dX4_kindsThatFit_13 (by decide) ?_
  refine lv_istore (lv' := [(4, .int 0), (3, .int 0), (0, .ref (gad g 0)), (1, .int p1), (2, .int p2)]) C.1 C.2.1 dX4_kindsThatFit_14 hl (by decide) rfl (fun ls hl => ?_)
  obtain ⟨n, h⟩ := h
  exact k_X4_kindsThatFit_L16 C n 0 0 u1 _ _ _ h hW (lv_sub hl [2, 3, 4, 1, 0] rfl)
set_option maxRecDepth 100000 in
theorem k_X4_refusePairs_B55 {p : Program} {l : Launch} {e : Env} {s : State} {m : MethodId} {args : Array Value} {below : List Frame} {meth : Method} {c : Code} {g : GG} {A : Nat → Prop} {p1 : Int32} {p2 : Int32} {Q : Int32 → St → Prop} (C : MC p s m args meth c cX4_refusePairs 6 RX4 (some .int) g A) {K55 : Int32 → Int32 → St → Prop} (hK55 : ∀ (v4 : Int32) (v5 : Int32) (u : St) (H : Heap) (locs : List Loc) (ls : Array Slot), K55 v4 v5 u → WD g A s u H locs → lv_has ls 6 [(0, .ref (gad g 0)), (2, .int p2), (4, .int v4), (5, .int v5)] → W p l e rm_X4_refusePairs s m args below meth c H locs 0 0 (MQ below (va_Qi Q (WQ g) A) args s 0 0 A) (F0 m 55 ls [])) : ∀ (v4 : Int32) (v5 : Int32) (u : St) (H : Heap) (locs : List Loc) (ls : Array Slot), wp_X4_refusePairs_B55 p1 p2 Q K55 v4 v5 u → WD g A s u H locs → lv_has ls 6 [(0, .ref (gad g 0)), (2, .int p2), (4, .int v4), (5, .int v5)] → W p l e rm_X4_refusePairs s m args below meth c H locs 0 0 (MQ below (va_Qi Q (WQ g) A) args s 0 0 A) (F0 m 55 ls []) := by
  intro v4 v5 u H locs ls h hW hl
  refine lv_iload C.1 C.2.1 dX4_refusePairs_55 (lv_at hl 3 rfl) ?_
  refine lv_iload C.1 C.2.1 dX4_refusePairs_57 (lv_at hl 2 rfl) ?_
  refine lv_icmp_ge (tgt := 97) C.1 C.2.1 dX4_refusePairs_59 (by decide) (fun c8 => ?_) (fun c8 => ?_)
  · have h := h.1 c8
    refine lv_iconst (v := 0) C.1 C.2.1 dX4_refusePairs_97 (by decide) ?_
    exact x_iret C hW h dX4_refusePairs_98
  · have h := h.2 c8
    refine lv_aload_n C.1 C.2.1 dX4_refusePairs_62 rfl (lv_at hl 0 rfl) ?_
    refine fg_X4_14 C hW dX4_refusePairs_63 ?_
    refine lv_iload_n C.1 C.2.1 dX4_refusePairs_66 rfl (lv_at hl 1 rfl) ?_
    refine lv_iload C.1 C.2.1 dX4_refusePairs_67 (lv_at hl 3 rfl) ?_
    refine x_Vi (rest := []) C hW (c_X2_get l g (Or.inl rfl) h) km_X2_get (oShf (Or.inl rfl)) rfl qm_X4_93 ⟨rfl, rfl⟩ (by decide) rfl hl.1 rfl (Nat.le_of_ble_eq_true rfl) ⟨Nat.zero_le _, Nat.zero_le _⟩ dX4_refusePairs_69 (fun r9 u9 H locs h hW => ?_)
    refine lv_aload_n C.1 C.2.1 dX4_refusePairs_72 rfl (lv_at hl 0 rfl) ?_
    refine fg_X4_27 C hW dX4_refusePairs_73 ?_
    refine x_Vi (rest := [.int r9]) C hW (c_X0_sets l g (Or.inl rfl) h) km_X0_sets (oLay (Or.inl rfl)) rfl qm_X4_216 ⟨rfl, rfl⟩ (by decide) rfl hl.1 rfl (Nat.le_of_ble_eq_true rfl) ⟨Nat.zero_le _, Nat.zero_le _⟩ dX4_refusePairs_76 (fun r10 u10 H locs h hW => ?_)
    refine x_Si (rest := []) C hW (c_X4_within l g h) km_X4_within qm_X4_81 ⟨rfl, rfl⟩ (by decide) rfl hl.1 rfl (Nat.le_of_ble_eq_true rfl) ⟨Nat.zero_le _, Nat.zero_le _⟩ dX4_refusePairs_79 (fun r11 u11 H locs h hW => ?_)
    refine lv_if_ne (tgt := 91) C.1 C.2.1 dX4_refusePairs_82 (by decide) (fun c12 => ?_) (fun c12 => ?_)
    · have h := h.1 c12
      refine lv_iinc (v := (v5 + 1)) (lv' := [(5, .int (v5 + 1)), (0, .ref (gad g 0)), (2, .int p2), (4, .int v4)]) C.1 C.2.1 dX4_refusePairs_91 hl (k := 3) rfl rfl (by decide) rfl (fun ls hl => ?_)
      refine lv_goto (tgt := 55) C.1 C.2.1 dX4_refusePairs_94 (by decide) ?_
      exact hK55 v4 (v5 + 1) u11 _ _ _ h hW (lv_sub hl [1, 2, 3, 0] rfl)
    · have h := h.2 c12
      refine lv_aload_n C.1 C.2.1 dX4_refusePairs_85 rfl (lv_at hl 0 rfl) ?_
      refine lv_iconst (v := 3) C.1 C.2.1 dX4_refusePairs_86 (by decide) ?_
      refine x_Vi (rest := []) C hW (c_X4_found l g h) km_X4_found oKeys rfl qm_X4_85 ⟨rfl, rfl⟩ (by decide) rfl hl.1 rfl (Nat.le_of_ble_eq_true rfl) ⟨Nat.zero_le _, Nat.zero_le _⟩ dX4_refusePairs_87 (fun r13 u13 H locs h hW => ?_)
      exact x_iret C hW h dX4_refusePairs_90
theorem k_X4_refusePairs_L55 {p : Program} {l : Launch} {e : Env} {s : State} {m : MethodId} {args : Array Value} {below : List Frame} {meth : Method} {c : Code} {g : GG} {A : Nat → Prop} {p1 : Int32} {p2 : Int32} {Q : Int32 → St → Prop} (C : MC p s m args meth c cX4_refusePairs 6 RX4 (some .int) g A) : ∀ (n : Nat), ∀ (v4 : Int32) (v5 : Int32) (u : St) (H : Heap) (locs : List Loc) (ls : Array Slot), wp_X4_refusePairs_L55 p1 p2 Q n v4 v5 u → WD g A s u H locs → lv_has ls 6 [(0, .ref (gad g 0)), (2, .int p2), (4, .int v4), (5, .int v5)] → W p l e rm_X4_refusePairs s m args below meth c H locs 0 0 (MQ below (va_Qi Q (WQ g) A) args s 0 0 A) (F0 m 55 ls []) := by
  intro n
  induction n with
  | zero => intro v4 v5 u H locs ls h; exact False.elim h
  | succ n ih => exact k_X4_refusePairs_B55 (p1 := p1) (p2 := p2) C ih
set_option maxRecDepth 100000 in
theorem c_X4_refusePairs (l : Launch) (g : GG) {p1 : Int32} {p2 : Int32} {u : St} {Q : Int32 → St → Prop} (h : wp_X4_refusePairs p1 p2 u Q) : CI l yX4_refusePairs cX4_refusePairs 6 (some .int) rm_X4_refusePairs g [.ref (gad g 0), .int p1, .int p2] u Q := by
  refine ent (own := RX4) (Qc := va_Qi Q (WQ g)) (by decide) rfl (Nat.le_of_ble_eq_true rfl) ?_
  intro p e s m below meth c A ls C hl hW
  have hl : lv_has ls 6 [(0, .ref (gad g 0)), (1, .int p1), (2, .int p2)] := hl
  unfold wp_X4_refusePairs at h
  refine lv_aload_n C.1 C.2.1 dX4_refusePairs_0 rfl (lv_at hl 0 rfl) ?_
  refine fg_X4_27 C hW dX4_refusePairs_1 ?_
  refine lv_iload_n C.1 C.2.1 dX4_refusePairs_4 rfl (lv_at hl 1 rfl) ?_
  refine x_Vi (rest := []) C hW (c_X0_has l g (Or.inl rfl) h) km_X0_has (oLay (Or.inl rfl)) rfl qm_X4_139 ⟨rfl, rfl⟩ (by decide) rfl hl.1 rfl (Nat.le_of_ble_eq_true rfl) ⟨Nat.zero_le _, Nat.zero_le _⟩ dX4_refusePairs_5 (fun r1 u1 H locs h hW => ?_)
  refine lv_if_ne (tgt := 13) C.1 C.2.1 dX4_refusePairs_8 (by decide) (fun c2 => ?_) (fun c2 => ?_)
  · have h := h.1 c2
    refine lv_aload_n C.1 C.2.1 dX4_refusePairs_13 rfl (lv_at hl 0 rfl) ?_
    refine lv_aload_n C.1 C.2.1 dX4_refusePairs_14 rfl (lv_at hl 0 rfl) ?_
    refine fg_X4_14 C hW dX4_refusePairs_15 ?_
    refine lv_iload_n C.1 C.2.1 dX4_refusePairs_18 rfl (lv_at hl 2 rfl) ?_
    refine x_Vi (rest := []) C hW (c_X4_refuseShelfPlace l g (Or.inl rfl) h) km_X4_refuseShelfPlace oKeys rfl qm_X4_100 ⟨rfl, rfl⟩ (by decide) rfl hl.1 rfl (Nat.le_of_ble_eq_true rfl) ⟨Nat.zero_le _, Nat.zero_le _⟩ dX4_refusePairs_19 (fun r3 u3 H locs h hW => ?_)
    refine lv_istore_n (lv' := [(3, .int r3), (0, .ref (gad g 0)), (1, .int p1), (2, .int p2)]) C.1 C.2.1 dX4_refusePairs_22 rfl hl (by decide) rfl (fun ls hl => ?_)
    refine lv_iload_n C.1 C.2.1 dX4_refusePairs_23 rfl (lv_at hl 0 rfl) ?_
    refine lv_if_eq (tgt := 29) C.1 C.2.1 dX4_refusePairs_24 (by decide) (fun c4 => ?_) (fun c4 => ?_)
    · have h := h.1 c4
      refine lv_aload_n C.1 C.2.1 dX4_refusePairs_29 rfl (lv_at hl 1 rfl) ?_
      refine fg_X4_14 C hW dX4_refusePairs_30 ?_
      refine lv_iload_n C.1 C.2.1 dX4_refusePairs_33 rfl (lv_at hl 3 rfl) ?_
      refine x_Vi (rest := []) C hW (c_X2_size l g (Or.inl rfl) h) km_X2_size (oShf (Or.inl rfl)) rfl qm_X4_120 ⟨rfl, rfl⟩ (by decide) rfl hl.1 rfl (Nat.le_of_ble_eq_true rfl) ⟨Nat.zero_le _, Nat.zero_le _⟩ dX4_refusePairs_34 (fun r5 u5 H locs h hW => ?_)
      refine lv_istore (lv' := [(4, .int r5), (3, .int r3), (0, .ref (gad g 0)), (1, .int p1), (2, .int p2)]) C.1 C.2.1 dX4_refusePairs_37 hl (by decide) rfl (fun ls hl => ?_)
      refine lv_iload C.1 C.2.1 dX4_refusePairs_39 (lv_at hl 0 rfl) ?_
      refine lv_iconst (v := 2) C.1 C.2.1 dX4_refusePairs_41 (by decide) ?_
      refine lv_irem C.1 C.2.1 dX4_refusePairs_42 (by decide) ?_
      refine lv_if_eq (tgt := 52) C.1 C.2.1 dX4_refusePairs_43 (by decide) (fun c6 => ?_) (fun c6 => ?_)
      · have h := h.1 c6
        refine lv_iconst (v := 0) C.1 C.2.1 dX4_refusePairs_52 (by decide) ?_
        refine lv_istore (lv' := [(5, .int 0), (4, .int r5), (3, .int r3), (0, .ref (gad g 0)), (1, .int p1), (2, .int p2)]) C.1 C.2.1 dX4_refusePairs_53 hl (by decide) rfl (fun ls hl => ?_)
        obtain ⟨n, h⟩ := h
        exact k_X4_refusePairs_L55 C n r5 0 u5 _ _ _ h hW (lv_sub hl [3, 5, 1, 0] rfl)
      · have h := h.2 c6
        refine lv_aload_n C.1 C.2.1 dX4_refusePairs_46 rfl (lv_at hl 2 rfl) ?_
        refine lv_iconst (v := 5) C.1 C.2.1 dX4_refusePairs_47 (by decide) ?_
        refine x_Vi (rest := []) C hW (c_X4_found l g h) km_X4_found oKeys rfl qm_X4_85 ⟨rfl, rfl⟩ (by decide) rfl hl.1 rfl (Nat.le_of_ble_eq_true rfl) ⟨Nat.zero_le _, Nat.zero_le _⟩ dX4_refusePairs_48 (fun r7 u7 H locs h hW => ?_)
        exact x_iret C hW h dX4_refusePairs_51
    · have h := h.2 c4
      refine lv_iload_n C.1 C.2.1 dX4_refusePairs_27 rfl (lv_at hl 0 rfl) ?_
      exact x_iret C hW h dX4_refusePairs_28
  · have h := h.2 c2
    refine lv_iconst (v := (-1)) C.1 C.2.1 dX4_refusePairs_11 (by decide) ?_
    exact x_iret C hW h dX4_refusePairs_12
set_option maxRecDepth 100000 in
theorem c_X4_kinds (l : Launch) (g : GG) {p1 : Int32} {p2 : Int32} {u : St} {Q : Int32 → St → Prop} (h : wp_X4_kinds p1 p2 u Q) : CI l yX4_kinds cX4_kinds 4 (some .int) rm_X4_kinds g [.ref (gad g 0), .int p1, .int p2] u Q := by
  refine ent (own := RX4) (Qc := va_Qi Q (WQ g)) (by decide) rfl (Nat.le_of_ble_eq_true rfl) ?_
  intro p e s m below meth c A ls C hl hW
  have hl : lv_has ls 4 [(0, .ref (gad g 0)), (1, .int p1), (2, .int p2)] := hl
  unfold wp_X4_kinds at h
  refine lv_aload_n C.1 C.2.1 dX4_kinds_0 rfl (lv_at hl 0 rfl) ?_
  refine lv_iload_n C.1 C.2.1 dX4_kinds_1 rfl (lv_at hl 1 rfl) ?_
  refine lv_iload_n C.1 C.2.1 dX4_kinds_2 rfl (lv_at hl 2 rfl) ?_
  refine x_Vi (rest := []) C hW (c_X4_refusePairs l g h) km_X4_refusePairs oKeys rfl qm_X4_238 ⟨rfl, rfl⟩ (by decide) rfl hl.1 rfl (Nat.le_of_ble_eq_true rfl) ⟨Nat.zero_le _, Nat.zero_le _⟩ dX4_kinds_3 (fun r1 u1 H locs h hW => ?_)
  refine lv_istore_n (lv' := [(3, .int r1), (0, .ref (gad g 0)), (1, .int p1), (2, .int p2)]) C.1 C.2.1 dX4_kinds_6 rfl hl (by decide) rfl (fun ls hl => ?_)
  refine lv_iload_n C.1 C.2.1 dX4_kinds_7 rfl (lv_at hl 0 rfl) ?_
  refine lv_if_eq (tgt := 15) C.1 C.2.1 dX4_kinds_8 (by decide) (fun c2 => ?_) (fun c2 => ?_)
  · have h := h.1 c2
    refine lv_aload_n C.1 C.2.1 dX4_kinds_15 rfl (lv_at hl 1 rfl) ?_
    refine lv_iload_n C.1 C.2.1 dX4_kinds_16 rfl (lv_at hl 2 rfl) ?_
    refine lv_iload_n C.1 C.2.1 dX4_kinds_17 rfl (lv_at hl 3 rfl) ?_
    refine x_Vi (rest := []) C hW (c_X4_kindsThatFit l g h) km_X4_kindsThatFit oKeys rfl qm_X4_241 ⟨rfl, rfl⟩ (by decide) rfl hl.1 rfl (Nat.le_of_ble_eq_true rfl) ⟨Nat.zero_le _, Nat.zero_le _⟩ dX4_kinds_18 (fun r3 u3 H locs h hW => ?_)
    exact x_iret C hW h dX4_kinds_21
  · have h := h.2 c2
    refine lv_iload_n C.1 C.2.1 dX4_kinds_11 rfl (lv_at hl 0 rfl) ?_
    refine lv_goto (tgt := 21) C.1 C.2.1 dX4_kinds_12 (by decide) ?_
    exact x_iret C hW h dX4_kinds_21
set_option maxRecDepth 100000 in
theorem k_X4_later_B57 {p : Program} {l : Launch} {e : Env} {s : State} {m : MethodId} {args : Array Value} {below : List Frame} {meth : Method} {c : Code} {g : GG} {A : Nat → Prop} {p1 : Int32} {Q : Int32 → St → Prop} (C : MC p s m args meth c cX4_later 5 RX4 (some .int) g A) {K57 : Int32 → Int32 → Int32 → St → Prop} (hK57 : ∀ (v2 : Int32) (v3 : Int32) (v4 : Int32) (u : St) (H : Heap) (locs : List Loc) (ls : Array Slot), K57 v2 v3 v4 u → WD g A s u H locs → lv_has ls 5 [(0, .ref (gad g 0)), (1, .int p1), (2, .int v2), (3, .int v3), (4, .int v4)] → W p l e rm_X4_later s m args below meth c H locs 0 0 (MQ below (va_Qi Q (WQ g) A) args s 0 0 A) (F0 m 57 ls [])) : ∀ (v2 : Int32) (v3 : Int32) (v4 : Int32) (u : St) (H : Heap) (locs : List Loc) (ls : Array Slot), wp_X4_later_B57 p1 Q K57 v2 v3 v4 u → WD g A s u H locs → lv_has ls 5 [(0, .ref (gad g 0)), (1, .int p1), (2, .int v2), (3, .int v3), (4, .int v4)] → W p l e rm_X4_later s m args below meth c H locs 0 0 (MQ below (va_Qi Q (WQ g) A) args s 0 0 A) (F0 m 57 ls []) := by
  intro v2 v3 v4 u H locs ls h hW hl
  refine lv_iload C.1 C.2.1 dX4_later_57 (lv_at hl 4 rfl) ?_
  refine lv_iload_n C.1 C.2.1 dX4_later_59 rfl (lv_at hl 1 rfl) ?_
  refine lv_icmp_ge (tgt := 111) C.1 C.2.1 dX4_later_60 (by decide) (fun c8 => ?_) (fun c8 => ?_)
  · have h := h.1 c8
    refine lv_aload_n C.1 C.2.1 dX4_later_111 rfl (lv_at hl 0 rfl) ?_
    refine lv_iload_n C.1 C.2.1 dX4_later_112 rfl (lv_at hl 3 rfl) ?_
    refine fp_X4_67 C hW dX4_later_113 (fun u9 H locs e9 hW => ?_)
    have h := nxt_get h e9
    refine lv_iload_n C.1 C.2.1 dX4_later_116 rfl (lv_at hl 2 rfl) ?_
    exact x_iret C hW h dX4_later_117
  · have h := h.2 c8
    refine lv_aload_n C.1 C.2.1 dX4_later_63 rfl (lv_at hl 0 rfl) ?_
    refine fg_X4_41 C hW dX4_later_64 ?_
    refine x_Vv (rest := []) C hW (c_X1_passScan l g (Or.inr rfl) h) km_X1_passScan (oMom (Or.inr rfl)) rfl qm_X4_210 ⟨rfl, rfl⟩ (by decide) rfl hl.1 rfl (Nat.le_of_ble_eq_true rfl) ⟨Nat.zero_le _, Nat.zero_le _⟩ dX4_later_67 (fun u10 H locs h hW => ?_)
    refine lv_aload_n C.1 C.2.1 dX4_later_70 rfl (lv_at hl 0 rfl) ?_
    refine lv_aload_n C.1 C.2.1 dX4_later_71 rfl (lv_at hl 0 rfl) ?_
    refine fg_X4_41 C hW dX4_later_72 ?_
    refine x_Vi (rest := []) C hW (c_X4_toldAt l g (Or.inr rfl) h) km_X4_toldAt oKeys rfl qm_X4_206 ⟨rfl, rfl⟩ (by decide) rfl hl.1 rfl (Nat.le_of_ble_eq_true rfl) ⟨Nat.zero_le _, Nat.zero_le _⟩ dX4_later_75 (fun r11 u11 H locs h hW => ?_)
    refine lv_istore_n (lv' := [(2, .int r11), (0, .ref (gad g 0)), (1, .int p1), (3, .int v3), (4, .int v4)]) C.1 C.2.1 dX4_later_78 rfl hl (by decide) rfl (fun ls hl => ?_)
    refine lv_iload_n C.1 C.2.1 dX4_later_79 rfl (lv_at hl 3 rfl) ?_
    refine lv_sipush (v := 128) C.1 C.2.1 dX4_later_80 (by decide) ?_
    refine lv_icmp_ge (tgt := 105) C.1 C.2.1 dX4_later_83 (by decide) (fun c12 => ?_) (fun c12 => ?_)
    · have h := h.1 c12
      refine lv_iinc (v := (v4 + 1)) (lv' := [(4, .int (v4 + 1)), (2, .int r11), (0, .ref (gad g 0)), (1, .int p1), (3, .int v3)]) C.1 C.2.1 dX4_later_105 hl (k := 4) rfl rfl (by decide) rfl (fun ls hl => ?_)
      refine lv_goto (tgt := 57) C.1 C.2.1 dX4_later_108 (by decide) ?_
      exact hK57 r11 v3 (v4 + 1) u11 _ _ _ h hW (lv_sub hl [2, 3, 1, 4, 0] rfl)
    · have h := h.2 c12
      refine lv_aload_n C.1 C.2.1 dX4_later_86 rfl (lv_at hl 1 rfl) ?_
      refine lv_iload_n C.1 C.2.1 dX4_later_87 rfl (lv_at hl 3 rfl) ?_
      refine lv_iload_n C.1 C.2.1 dX4_later_88 rfl (lv_at hl 0 rfl) ?_
      refine x_Vi (rest := []) C hW (c_X4_isAmongFirst l g h) km_X4_isAmongFirst oKeys rfl qm_X4_213 ⟨rfl, rfl⟩ (by decide) rfl hl.1 rfl (Nat.le_of_ble_eq_true rfl) ⟨Nat.zero_le _, Nat.zero_le _⟩ dX4_later_89 (fun r13 u13 H locs h hW => ?_)
      refine lv_if_ne (tgt := 105) C.1 C.2.1 dX4_later_92 (by decide) (fun c14 => ?_) (fun c14 => ?_)
      · have h := h.1 c14
        refine lv_iinc (v := (v4 + 1)) (lv' := [(4, .int (v4 + 1)), (2, .int r11), (0, .ref (gad g 0)), (1, .int p1), (3, .int v3)]) C.1 C.2.1 dX4_later_105 hl (k := 4) rfl rfl (by decide) rfl (fun ls hl => ?_)
        refine lv_goto (tgt := 57) C.1 C.2.1 dX4_later_108 (by decide) ?_
        exact hK57 r11 v3 (v4 + 1) u13 _ _ _ h hW (lv_sub hl [2, 3, 1, 4, 0] rfl)
      · have h := h.2 c14
        refine lv_aload_n C.1 C.2.1 dX4_later_95 rfl (lv_at hl 1 rfl) ?_
        refine fg_X4_51 C hW dX4_later_96 ?_
        refine lv_iload_n C.1 C.2.1 dX4_later_99 rfl (lv_at hl 3 rfl) ?_
        refine lv_iload_n C.1 C.2.1 dX4_later_100 rfl (lv_at hl 0 rfl) ?_
        obtain ⟨h15, h⟩ := h
        refine x_iast C hW g_30 h15 dX4_later_101 (fun u16 H locs e16 hW => ?_)
        have h := nxt_get h e16
        refine lv_iinc (v := (v3 + 1)) (lv' := [(3, .int (v3 + 1)), (2, .int r11), (0, .ref (gad g 0)), (1, .int p1), (4, .int v4)]) C.1 C.2.1 dX4_later_102 hl (k := 3) rfl rfl (by decide) rfl (fun ls hl => ?_)
        refine lv_iinc (v := (v4 + 1)) (lv' := [(4, .int (v4 + 1)), (3, .int (v3 + 1)), (2, .int r11), (0, .ref (gad g 0)), (1, .int p1)]) C.1 C.2.1 dX4_later_105 hl (k := 4) rfl rfl (by decide) rfl (fun ls hl => ?_)
        refine lv_goto (tgt := 57) C.1 C.2.1 dX4_later_108 (by decide) ?_
        exact hK57 r11 (v3 + 1) (v4 + 1) u16 _ _ _ h hW (lv_sub hl [3, 4, 2, 1, 0] rfl)
theorem k_X4_later_L57 {p : Program} {l : Launch} {e : Env} {s : State} {m : MethodId} {args : Array Value} {below : List Frame} {meth : Method} {c : Code} {g : GG} {A : Nat → Prop} {p1 : Int32} {Q : Int32 → St → Prop} (C : MC p s m args meth c cX4_later 5 RX4 (some .int) g A) : ∀ (n : Nat), ∀ (v2 : Int32) (v3 : Int32) (v4 : Int32) (u : St) (H : Heap) (locs : List Loc) (ls : Array Slot), wp_X4_later_L57 p1 Q n v2 v3 v4 u → WD g A s u H locs → lv_has ls 5 [(0, .ref (gad g 0)), (1, .int p1), (2, .int v2), (3, .int v3), (4, .int v4)] → W p l e rm_X4_later s m args below meth c H locs 0 0 (MQ below (va_Qi Q (WQ g) A) args s 0 0 A) (F0 m 57 ls []) := by
  intro n
  induction n with
  | zero => intro v2 v3 v4 u H locs ls h; exact False.elim h
  | succ n ih => exact k_X4_later_B57 (p1 := p1) C ih
set_option maxRecDepth 100000 in
theorem c_X4_later (l : Launch) (g : GG) {p1 : Int32} {u : St} {Q : Int32 → St → Prop} (h : wp_X4_later p1 u Q) : CI l yX4_later cX4_later 5 (some .int) rm_X4_later g [.ref (gad g 0), .int p1] u Q := by
  refine ent (own := RX4) (Qc := va_Qi Q (WQ g)) (by decide) rfl (Nat.le_of_ble_eq_true rfl) ?_
  intro p e s m below meth c A ls C hl hW
  have hl : lv_has ls 5 [(0, .ref (gad g 0)), (1, .int p1)] := hl
  unfold wp_X4_later at h
  refine lv_iload_n C.1 C.2.1 dX4_later_0 rfl (lv_at hl 1 rfl) ?_
  refine lv_if_lt (tgt := 10) C.1 C.2.1 dX4_later_1 (by decide) (fun c1 => ?_) (fun c1 => ?_)
  · have h := h.1 c1
    refine lv_iconst (v := (-1)) C.1 C.2.1 dX4_later_10 (by decide) ?_
    exact x_iret C hW h dX4_later_11
  · have h := h.2 c1
    refine lv_iload_n C.1 C.2.1 dX4_later_4 rfl (lv_at hl 1 rfl) ?_
    refine lv_bipush (v := 20) C.1 C.2.1 dX4_later_5 (by decide) ?_
    refine lv_icmp_le (tgt := 12) C.1 C.2.1 dX4_later_7 (by decide) (fun c2 => ?_) (fun c2 => ?_)
    · have h := h.1 c2
      refine lv_aload_n C.1 C.2.1 dX4_later_12 rfl (lv_at hl 0 rfl) ?_
      refine fg_X4_27 C hW dX4_later_13 ?_
      refine fg_X4_137 C hW (Or.inl rfl) dX4_later_16 ?_
      refine lv_if_ne (tgt := 25) C.1 C.2.1 dX4_later_19 (by decide) (fun c3 => ?_) (fun c3 => ?_)
      · have h := h.1 c3
        refine lv_aload_n C.1 C.2.1 dX4_later_25 rfl (lv_at hl 0 rfl) ?_
        refine fg_X4_41 C hW dX4_later_26 ?_
        refine lv_aload_n C.1 C.2.1 dX4_later_29 rfl (lv_at hl 0 rfl) ?_
        refine fg_X4_37 C hW dX4_later_30 ?_
        refine x_Vv (rest := []) C hW (c_X1_copyFrom l g (Or.inr rfl) (Or.inl rfl) h) km_X1_copyFrom (oMom (Or.inr rfl)) rfl qm_X4_203 ⟨rfl, rfl⟩ (by decide) rfl hl.1 rfl (Nat.le_of_ble_eq_true rfl) ⟨Nat.zero_le _, Nat.zero_le _⟩ dX4_later_33 (fun u4 H locs h hW => ?_)
        refine lv_aload_n C.1 C.2.1 dX4_later_36 rfl (lv_at hl 0 rfl) ?_
        refine lv_aload_n C.1 C.2.1 dX4_later_37 rfl (lv_at hl 0 rfl) ?_
        refine fg_X4_41 C hW dX4_later_38 ?_
        refine x_Vi (rest := []) C hW (c_X4_toldAt l g (Or.inr rfl) h) km_X4_toldAt oKeys rfl qm_X4_206 ⟨rfl, rfl⟩ (by decide) rfl hl.1 rfl (Nat.le_of_ble_eq_true rfl) ⟨Nat.zero_le _, Nat.zero_le _⟩ dX4_later_41 (fun r5 u5 H locs h hW => ?_)
        refine lv_istore_n (lv' := [(2, .int r5), (0, .ref (gad g 0)), (1, .int p1)]) C.1 C.2.1 dX4_later_44 rfl hl (by decide) rfl (fun ls hl => ?_)
        refine lv_aload_n C.1 C.2.1 dX4_later_45 rfl (lv_at hl 1 rfl) ?_
        refine fg_X4_51 C hW dX4_later_46 ?_
        refine lv_iconst (v := 0) C.1 C.2.1 dX4_later_49 (by decide) ?_
        refine lv_iload_n C.1 C.2.1 dX4_later_50 rfl (lv_at hl 0 rfl) ?_
        obtain ⟨h6, h⟩ := h
        refine x_iast C hW g_30 h6 dX4_later_51 (fun u7 H locs e7 hW => ?_)
        have h := nxt_get h e7
        refine lv_iconst (v := 1) C.1 C.2.1 dX4_later_52 (by decide) ?_
        refine lv_istore_n (lv' := [(3, .int 1), (2, .int r5), (0, .ref (gad g 0)), (1, .int p1)]) C.1 C.2.1 dX4_later_53 rfl hl (by decide) rfl (fun ls hl => ?_)
        refine lv_iconst (v := 0) C.1 C.2.1 dX4_later_54 (by decide) ?_
        refine lv_istore (lv' := [(4, .int 0), (3, .int 1), (2, .int r5), (0, .ref (gad g 0)), (1, .int p1)]) C.1 C.2.1 dX4_later_55 hl (by decide) rfl (fun ls hl => ?_)
        obtain ⟨n, h⟩ := h
        exact k_X4_later_L57 C n r5 1 0 u7 _ _ _ h hW (lv_sub hl [3, 4, 2, 1, 0] rfl)
      · have h := h.2 c3
        refine lv_bipush (v := (-4)) C.1 C.2.1 dX4_later_22 (by decide) ?_
        exact x_iret C hW h dX4_later_24
    · have h := h.2 c2
      refine lv_iconst (v := (-1)) C.1 C.2.1 dX4_later_10 (by decide) ?_
      exact x_iret C hW h dX4_later_11
set_option maxRecDepth 100000 in
theorem c_X4_lay (l : Launch) (g : GG) {p1 : Int32} {p2 : Int32} {p3 : Int32} {u : St} {Q : Int32 → St → Prop} (h : wp_X4_lay p1 p2 p3 u Q) : CI l yX4_lay cX4_lay 5 (some .int) rm_X4_lay g [.ref (gad g 0), .int p1, .int p2, .int p3] u Q := by
  refine ent (own := RX4) (Qc := va_Qi Q (WQ g)) (by decide) rfl (Nat.le_of_ble_eq_true rfl) ?_
  intro p e s m below meth c A ls C hl hW
  have hl : lv_has ls 5 [(0, .ref (gad g 0)), (1, .int p1), (2, .int p2), (3, .int p3)] := hl
  unfold wp_X4_lay at h
  refine lv_aload_n C.1 C.2.1 dX4_lay_0 rfl (lv_at hl 0 rfl) ?_
  refine lv_aload_n C.1 C.2.1 dX4_lay_1 rfl (lv_at hl 0 rfl) ?_
  refine fg_X4_14 C hW dX4_lay_2 ?_
  refine lv_iload_n C.1 C.2.1 dX4_lay_5 rfl (lv_at hl 1 rfl) ?_
  refine lv_iload_n C.1 C.2.1 dX4_lay_6 rfl (lv_at hl 2 rfl) ?_
  refine x_Vi (rest := []) C hW (c_X4_refusePlace l g (Or.inl rfl) h) km_X4_refusePlace oKeys rfl qm_X4_89 ⟨rfl, rfl⟩ (by decide) rfl hl.1 rfl (Nat.le_of_ble_eq_true rfl) ⟨Nat.zero_le _, Nat.zero_le _⟩ dX4_lay_7 (fun r1 u1 H locs h hW => ?_)
  refine lv_istore (lv' := [(4, .int r1), (0, .ref (gad g 0)), (1, .int p1), (2, .int p2), (3, .int p3)]) C.1 C.2.1 dX4_lay_10 hl (by decide) rfl (fun ls hl => ?_)
  refine lv_iload C.1 C.2.1 dX4_lay_12 (lv_at hl 0 rfl) ?_
  refine lv_if_eq (tgt := 20) C.1 C.2.1 dX4_lay_14 (by decide) (fun c2 => ?_) (fun c2 => ?_)
  · have h := h.1 c2
    refine lv_aload_n C.1 C.2.1 dX4_lay_20 rfl (lv_at hl 1 rfl) ?_
    refine lv_aload_n C.1 C.2.1 dX4_lay_21 rfl (lv_at hl 1 rfl) ?_
    refine fg_X4_14 C hW dX4_lay_22 ?_
    refine lv_iload_n C.1 C.2.1 dX4_lay_25 rfl (lv_at hl 2 rfl) ?_
    refine lv_iload_n C.1 C.2.1 dX4_lay_26 rfl (lv_at hl 3 rfl) ?_
    refine x_Vi (rest := [.ref (gad g 0)]) C hW (c_X2_get l g (Or.inl rfl) h) km_X2_get (oShf (Or.inl rfl)) rfl qm_X4_93 ⟨rfl, rfl⟩ (by decide) rfl hl.1 rfl (Nat.le_of_ble_eq_true rfl) ⟨Nat.zero_le _, Nat.zero_le _⟩ dX4_lay_27 (fun r3 u3 H locs h hW => ?_)
    refine fp_X4_67 C hW dX4_lay_30 (fun u4 H locs e4 hW => ?_)
    have h := nxt_get h e4
    refine lv_aload_n C.1 C.2.1 dX4_lay_33 rfl (lv_at hl 1 rfl) ?_
    refine fg_X4_14 C hW dX4_lay_34 ?_
    refine lv_iload_n C.1 C.2.1 dX4_lay_37 rfl (lv_at hl 2 rfl) ?_
    refine lv_iload_n C.1 C.2.1 dX4_lay_38 rfl (lv_at hl 3 rfl) ?_
    refine lv_iload_n C.1 C.2.1 dX4_lay_39 rfl (lv_at hl 4 rfl) ?_
    refine x_Vv (rest := []) C hW (c_X2_set l g (Or.inl rfl) h) km_X2_set (oShf (Or.inl rfl)) rfl qm_X4_97 ⟨rfl, rfl⟩ (by decide) rfl hl.1 rfl (Nat.le_of_ble_eq_true rfl) ⟨Nat.zero_le _, Nat.zero_le _⟩ dX4_lay_40 (fun u5 H locs h hW => ?_)
    refine lv_iconst (v := 1) C.1 C.2.1 dX4_lay_43 (by decide) ?_
    exact x_iret C hW h dX4_lay_44
  · have h := h.2 c2
    refine lv_iload C.1 C.2.1 dX4_lay_17 (lv_at hl 0 rfl) ?_
    exact x_iret C hW h dX4_lay_19
set_option maxRecDepth 100000 in
theorem k_X4_lots_B55 {p : Program} {l : Launch} {e : Env} {s : State} {m : MethodId} {args : Array Value} {below : List Frame} {meth : Method} {c : Code} {g : GG} {A : Nat → Prop} {p1 : Int32} {p2 : Int32} {Q : Int32 → St → Prop} (C : MC p s m args meth c cX4_lots 6 RX4 (some .int) g A) {K55 : Int64 → Int32 → St → Prop} (hK55 : ∀ (v3 : Int64) (v5 : Int32) (u : St) (H : Heap) (locs : List Loc) (ls : Array Slot), K55 v3 v5 u → WD g A s u H locs → lv_has ls 6 [(0, .ref (gad g 0)), (1, .int p1), (3, .long v3), (5, .int v5)] → W p l e rm_X4_lots s m args below meth c H locs 0 0 (MQ below (va_Qi Q (WQ g) A) args s 0 0 A) (F0 m 55 ls [])) : ∀ (v3 : Int64) (v5 : Int32) (u : St) (H : Heap) (locs : List Loc) (ls : Array Slot), wp_X4_lots_B55 p1 p2 Q K55 v3 v5 u → WD g A s u H locs → lv_has ls 6 [(0, .ref (gad g 0)), (1, .int p1), (3, .long v3), (5, .int v5)] → W p l e rm_X4_lots s m args below meth c H locs 0 0 (MQ below (va_Qi Q (WQ g) A) args s 0 0 A) (F0 m 55 ls []) := by
  intro v3 v5 u H locs ls h hW hl
  refine lv_iload C.1 C.2.1 dX4_lots_55 (lv_at hl 3 rfl) ?_
  refine lv_iload_n C.1 C.2.1 dX4_lots_57 rfl (lv_at hl 1 rfl) ?_
  refine lv_icmp_ge (tgt := 86) C.1 C.2.1 dX4_lots_58 (by decide) (fun c8 => ?_) (fun c8 => ?_)
  · have h := h.1 c8
    refine lv_aload_n C.1 C.2.1 dX4_lots_86 rfl (lv_at hl 0 rfl) ?_
    refine x_Vi (rest := []) C hW (c_X4_toldNow l g h) km_X4_toldNow oKeys rfl qm_X4_152 ⟨rfl, rfl⟩ (by decide) rfl hl.1 rfl (Nat.le_of_ble_eq_true rfl) ⟨Nat.zero_le _, Nat.zero_le _⟩ dX4_lots_87 (fun r9 u9 H locs h hW => ?_)
    refine x_Si (rest := []) C hW (c_J6_bitCount_0f7a4 l g h) km_J6_bitCount_0f7a4 qm_X4_156 ⟨rfl, rfl⟩ (by decide) rfl hl.1 rfl (Nat.le_of_ble_eq_true rfl) ⟨Nat.zero_le _, Nat.zero_le _⟩ dX4_lots_90 (fun r10 u10 H locs h hW => ?_)
    exact x_iret C hW h dX4_lots_93
  · have h := h.2 c8
    refine lv_lload_n C.1 C.2.1 dX4_lots_61 rfl (lv_at hl 2 rfl) ?_
    refine lv_ldc2 (v := 48271) C.1 C.2.1 C.2.2.2.1 (C.2.2.2.2.1 _ qk_X4_288) dX4_lots_62 ?_
    refine lv_lmul C.1 C.2.1 dX4_lots_65 ?_
    refine lv_ldc2 (v := 2147483647) C.1 C.2.1 C.2.2.2.1 (C.2.2.2.2.1 _ qk_X4_290) dX4_lots_66 ?_
    refine lv_lrem C.1 C.2.1 dX4_lots_69 (by decide) ?_
    refine lv_lstore_n (lv' := [(3, .long ((v3 * 48271) - ((v3 * 48271) / 2147483647) * 2147483647)), (0, .ref (gad g 0)), (1, .int p1), (5, .int v5)]) C.1 C.2.1 dX4_lots_70 rfl hl (by decide) rfl (fun ls hl => ?_)
    refine lv_aload_n C.1 C.2.1 dX4_lots_71 rfl (lv_at hl 1 rfl) ?_
    refine lv_aload_n C.1 C.2.1 dX4_lots_72 rfl (lv_at hl 1 rfl) ?_
    refine lv_lload_n C.1 C.2.1 dX4_lots_73 rfl (lv_at hl 0 rfl) ?_
    refine x_Vi (rest := [.ref (gad g 0)]) C hW (c_X4_deedByLot l g h) km_X4_deedByLot oKeys rfl qm_X4_292 ⟨rfl, rfl⟩ (by decide) rfl hl.1 rfl (Nat.le_of_ble_eq_true rfl) ⟨Nat.zero_le _, Nat.zero_le _⟩ dX4_lots_74 (fun r11 u11 H locs h hW => ?_)
    refine x_Vv (rest := []) C hW (c_X4_perform l g h) km_X4_perform oKeys rfl qm_X4_188 ⟨rfl, rfl⟩ (by decide) rfl hl.1 rfl (Nat.le_of_ble_eq_true rfl) ⟨Nat.zero_le _, Nat.zero_le _⟩ dX4_lots_77 (fun u12 H locs h hW => ?_)
    refine lv_iinc (v := (v5 + 1)) (lv' := [(5, .int (v5 + 1)), (3, .long ((v3 * 48271) - ((v3 * 48271) / 2147483647) * 2147483647)), (0, .ref (gad g 0)), (1, .int p1)]) C.1 C.2.1 dX4_lots_80 hl (k := 3) rfl rfl (by decide) rfl (fun ls hl => ?_)
    refine lv_goto (tgt := 55) C.1 C.2.1 dX4_lots_83 (by decide) ?_
    exact hK55 ((v3 * 48271) - ((v3 * 48271) / 2147483647) * 2147483647) (v5 + 1) u12 _ _ _ h hW (lv_sub hl [2, 3, 1, 0] rfl)
theorem k_X4_lots_L55 {p : Program} {l : Launch} {e : Env} {s : State} {m : MethodId} {args : Array Value} {below : List Frame} {meth : Method} {c : Code} {g : GG} {A : Nat → Prop} {p1 : Int32} {p2 : Int32} {Q : Int32 → St → Prop} (C : MC p s m args meth c cX4_lots 6 RX4 (some .int) g A) : ∀ (n : Nat), ∀ (v3 : Int64) (v5 : Int32) (u : St) (H : Heap) (locs : List Loc) (ls : Array Slot), wp_X4_lots_L55 p1 p2 Q n v3 v5 u → WD g A s u H locs → lv_has ls 6 [(0, .ref (gad g 0)), (1, .int p1), (3, .long v3), (5, .int v5)] → W p l e rm_X4_lots s m args below meth c H locs 0 0 (MQ below (va_Qi Q (WQ g) A) args s 0 0 A) (F0 m 55 ls []) := by
  intro n
  induction n with
  | zero => intro v3 v5 u H locs ls h; exact False.elim h
  | succ n ih => exact k_X4_lots_B55 (p1 := p1) (p2 := p2) C ih
set_option maxRecDepth 100000 in
theorem c_X4_lots (l : Launch) (g : GG) {p1 : Int32} {p2 : Int32} {u : St} {Q : Int32 → St → Prop} (h : wp_X4_lots p1 p2 u Q) : CI l yX4_lots cX4_lots 6 (some .int) rm_X4_lots g [.ref (gad g 0), .int p1, .int p2] u Q := by
  refine ent (own := RX4) (Qc := va_Qi Q (WQ g)) (by decide) rfl (Nat.le_of_ble_eq_true rfl) ?_
  intro p e s m below meth c A ls C hl hW
  have hl : lv_has ls 6 [(0, .ref (gad g 0)), (1, .int p1), (2, .int p2)] := hl
  unfold wp_X4_lots at h
  refine lv_iload_n C.1 C.2.1 dX4_lots_0 rfl (lv_at hl 1 rfl) ?_
  refine lv_iconst (v := 1) C.1 C.2.1 dX4_lots_1 (by decide) ?_
  refine lv_icmp_lt (tgt := 23) C.1 C.2.1 dX4_lots_2 (by decide) (fun c1 => ?_) (fun c1 => ?_)
  · have h := h.1 c1
    refine lv_iconst (v := (-1)) C.1 C.2.1 dX4_lots_23 (by decide) ?_
    exact x_iret C hW h dX4_lots_24
  · have h := h.2 c1
    refine lv_iload_n C.1 C.2.1 dX4_lots_5 rfl (lv_at hl 1 rfl) ?_
    refine lv_bipush (v := 20) C.1 C.2.1 dX4_lots_6 (by decide) ?_
    refine lv_icmp_gt (tgt := 23) C.1 C.2.1 dX4_lots_8 (by decide) (fun c2 => ?_) (fun c2 => ?_)
    · have h := h.1 c2
      refine lv_iconst (v := (-1)) C.1 C.2.1 dX4_lots_23 (by decide) ?_
      exact x_iret C hW h dX4_lots_24
    · have h := h.2 c2
      refine lv_iload_n C.1 C.2.1 dX4_lots_11 rfl (lv_at hl 2 rfl) ?_
      refine lv_iconst (v := 1) C.1 C.2.1 dX4_lots_12 (by decide) ?_
      refine lv_icmp_lt (tgt := 23) C.1 C.2.1 dX4_lots_13 (by decide) (fun c3 => ?_) (fun c3 => ?_)
      · have h := h.1 c3
        refine lv_iconst (v := (-1)) C.1 C.2.1 dX4_lots_23 (by decide) ?_
        exact x_iret C hW h dX4_lots_24
      · have h := h.2 c3
        refine lv_iload_n C.1 C.2.1 dX4_lots_16 rfl (lv_at hl 2 rfl) ?_
        refine lv_ldcw (v := 2147483647) C.1 C.2.1 C.2.2.2.1 (C.2.2.2.2.1 _ qk_X4_287) dX4_lots_17 ?_
        refine lv_icmp_lt (tgt := 25) C.1 C.2.1 dX4_lots_20 (by decide) (fun c4 => ?_) (fun c4 => ?_)
        · have h := h.1 c4
          refine lv_aload_n C.1 C.2.1 dX4_lots_25 rfl (lv_at hl 0 rfl) ?_
          refine fg_X4_27 C hW dX4_lots_26 ?_
          refine fg_X4_137 C hW (Or.inl rfl) dX4_lots_29 ?_
          refine lv_if_ne (tgt := 38) C.1 C.2.1 dX4_lots_32 (by decide) (fun c5 => ?_) (fun c5 => ?_)
          · have h := h.1 c5
            refine lv_aload_n C.1 C.2.1 dX4_lots_38 rfl (lv_at hl 0 rfl) ?_
            refine lv_iload_n C.1 C.2.1 dX4_lots_39 rfl (lv_at hl 1 rfl) ?_
            refine x_Vi (rest := []) C hW (c_X4_hasNoRoomFor l g h) km_X4_hasNoRoomFor oKeys rfl qm_X4_185 ⟨rfl, rfl⟩ (by decide) rfl hl.1 rfl (Nat.le_of_ble_eq_true rfl) ⟨Nat.zero_le _, Nat.zero_le _⟩ dX4_lots_40 (fun r6 u6 H locs h hW => ?_)
            refine lv_if_eq (tgt := 49) C.1 C.2.1 dX4_lots_43 (by decide) (fun c7 => ?_) (fun c7 => ?_)
            · have h := h.1 c7
              refine lv_iload_n C.1 C.2.1 dX4_lots_49 rfl (lv_at hl 2 rfl) ?_
              refine lv_i2l (v := p2.toInt64) C.1 C.2.1 dX4_lots_50 rfl ?_
              refine lv_lstore_n (lv' := [(3, .long p2.toInt64), (0, .ref (gad g 0)), (1, .int p1), (2, .int p2)]) C.1 C.2.1 dX4_lots_51 rfl hl (by decide) rfl (fun ls hl => ?_)
              refine lv_iconst (v := 0) C.1 C.2.1 dX4_lots_52 (by decide) ?_
              refine lv_istore (lv' := [(5, .int 0), (3, .long p2.toInt64), (0, .ref (gad g 0)), (1, .int p1), (2, .int p2)]) C.1 C.2.1 dX4_lots_53 hl (by decide) rfl (fun ls hl => ?_)
              obtain ⟨n, h⟩ := h
              exact k_X4_lots_L55 C n p2.toInt64 0 u6 _ _ _ h hW (lv_sub hl [2, 3, 1, 0] rfl)
            · have h := h.2 c7
              refine lv_bipush (v := (-2)) C.1 C.2.1 dX4_lots_46 (by decide) ?_
              exact x_iret C hW h dX4_lots_48
          · have h := h.2 c5
            refine lv_bipush (v := (-4)) C.1 C.2.1 dX4_lots_35 (by decide) ?_
            exact x_iret C hW h dX4_lots_37
        · have h := h.2 c4
          refine lv_iconst (v := (-1)) C.1 C.2.1 dX4_lots_23 (by decide) ?_
          exact x_iret C hW h dX4_lots_24
set_option maxRecDepth 100000 in
theorem c_X4_lower (l : Launch) (g : GG) {u : St} {Q : Int64 → St → Prop} (h : wp_X4_lower u Q) : CL l yX4_lower cX4_lower 1 (some .long) rm_X4_lower g [.ref (gad g 0)] u Q := by
  refine ent (own := RX4) (Qc := va_Ql Q (WQ g)) (by decide) rfl (Nat.le_of_ble_eq_true rfl) ?_
  intro p e s m below meth c A ls C hl hW
  have hl : lv_has ls 1 [(0, .ref (gad g 0))] := hl
  unfold wp_X4_lower at h
  refine lv_aload_n C.1 C.2.1 dX4_lower_0 rfl (lv_at hl 0 rfl) ?_
  refine fg_X4_74 C hW dX4_lower_1 ?_
  exact x_lret C hW h dX4_lower_4
set_option maxRecDepth 100000 in
theorem k_X4_scansConducting_J64 {p : Program} {l : Launch} {e : Env} {s : State} {m : MethodId} {args : Array Value} {below : List Frame} {meth : Method} {c : Code} {g : GG} {A : Nat → Prop} {p1 : Int32} {p2 : Int32} {Q : Int32 → St → Prop} (C : MC p s m args meth c cX4_scansConducting 5 RX4 (some .int) g A) {K36 : Int32 → Int32 → St → Prop} (hK36 : ∀ (v3 : Int32) (v4 : Int32) (u : St) (H : Heap) (locs : List Loc) (ls : Array Slot), K36 v3 v4 u → WD g A s u H locs → lv_has ls 5 [(0, .ref (gad g 0)), (1, .int p1), (3, .int v3), (4, .int v4)] → W p l e rm_X4_scansConducting s m args below meth c H locs 0 0 (MQ below (va_Qi Q (WQ g) A) args s 0 0 A) (F0 m 36 ls [])) : ∀ (v3 : Int32) (v4 : Int32) (u : St) (H : Heap) (locs : List Loc) (ls : Array Slot), wp_X4_scansConducting_J64 p1 p2 Q K36 v3 v4 u → WD g A s u H locs → lv_has ls 5 [(0, .ref (gad g 0)), (1, .int p1), (3, .int v3), (4, .int v4)] → W p l e rm_X4_scansConducting s m args below meth c H locs 0 0 (MQ below (va_Qi Q (WQ g) A) args s 0 0 A) (F0 m 64 ls []) := by
  intro v3 v4 u H locs ls h hW hl
  refine lv_aload_n C.1 C.2.1 dX4_scansConducting_64 rfl (lv_at hl 0 rfl) ?_
  refine fg_X4_41 C hW dX4_scansConducting_65 ?_
  refine x_Vv (rest := []) C hW (c_X1_passScan l g (Or.inr rfl) h) km_X1_passScan (oMom (Or.inr rfl)) rfl qm_X4_210 ⟨rfl, rfl⟩ (by decide) rfl hl.1 rfl (Nat.le_of_ble_eq_true rfl) ⟨Nat.zero_le _, Nat.zero_le _⟩ dX4_scansConducting_68 (fun u7 H locs h hW => ?_)
  refine lv_iinc (v := (v4 + 1)) (lv' := [(4, .int (v4 + 1)), (0, .ref (gad g 0)), (1, .int p1), (3, .int v3)]) C.1 C.2.1 dX4_scansConducting_71 hl (k := 3) rfl rfl (by decide) rfl (fun ls hl => ?_)
  refine lv_goto (tgt := 36) C.1 C.2.1 dX4_scansConducting_74 (by decide) ?_
  exact hK36 v3 (v4 + 1) u7 _ _ _ h hW (lv_sub hl [1, 2, 3, 0] rfl)
set_option maxRecDepth 100000 in
theorem k_X4_scansConducting_B36 {p : Program} {l : Launch} {e : Env} {s : State} {m : MethodId} {args : Array Value} {below : List Frame} {meth : Method} {c : Code} {g : GG} {A : Nat → Prop} {p1 : Int32} {p2 : Int32} {Q : Int32 → St → Prop} (C : MC p s m args meth c cX4_scansConducting 5 RX4 (some .int) g A) {K36 : Int32 → Int32 → St → Prop} (hK36 : ∀ (v3 : Int32) (v4 : Int32) (u : St) (H : Heap) (locs : List Loc) (ls : Array Slot), K36 v3 v4 u → WD g A s u H locs → lv_has ls 5 [(0, .ref (gad g 0)), (1, .int p1), (3, .int v3), (4, .int v4)] → W p l e rm_X4_scansConducting s m args below meth c H locs 0 0 (MQ below (va_Qi Q (WQ g) A) args s 0 0 A) (F0 m 36 ls [])) : ∀ (v3 : Int32) (v4 : Int32) (u : St) (H : Heap) (locs : List Loc) (ls : Array Slot), wp_X4_scansConducting_B36 p1 p2 Q K36 v3 v4 u → WD g A s u H locs → lv_has ls 5 [(0, .ref (gad g 0)), (1, .int p1), (3, .int v3), (4, .int v4)] → W p l e rm_X4_scansConducting s m args below meth c H locs 0 0 (MQ below (va_Qi Q (WQ g) A) args s 0 0 A) (F0 m 36 ls []) := by
  intro v3 v4 u H locs ls h hW hl
  refine lv_iload C.1 C.2.1 dX4_scansConducting_36 (lv_at hl 3 rfl) ?_
  refine lv_bipush (v := 8) C.1 C.2.1 dX4_scansConducting_38 (by decide) ?_
  refine lv_icmp_ge (tgt := 77) C.1 C.2.1 dX4_scansConducting_40 (by decide) (fun c4 => ?_) (fun c4 => ?_)
  · have h := h.1 c4
    refine lv_iload_n C.1 C.2.1 dX4_scansConducting_77 rfl (lv_at hl 2 rfl) ?_
    exact x_iret C hW h dX4_scansConducting_78
  · have h := h.2 c4
    refine lv_aload_n C.1 C.2.1 dX4_scansConducting_43 rfl (lv_at hl 0 rfl) ?_
    refine fg_X4_31 C hW dX4_scansConducting_44 ?_
    refine lv_iload_n C.1 C.2.1 dX4_scansConducting_47 rfl (lv_at hl 1 rfl) ?_
    refine lv_aload_n C.1 C.2.1 dX4_scansConducting_48 rfl (lv_at hl 0 rfl) ?_
    refine fg_X4_41 C hW dX4_scansConducting_49 ?_
    refine lv_iconst (v := 1) C.1 C.2.1 dX4_scansConducting_52 (by decide) ?_
    refine lv_iload_n C.1 C.2.1 dX4_scansConducting_53 rfl (lv_at hl 1 rfl) ?_
    refine lv_ishl C.1 C.2.1 dX4_scansConducting_54 ?_
    refine x_Vi (rest := []) C hW (c_X0_conducts l g (Or.inr rfl) (Or.inr rfl) h) km_X0_conducts (oLay (Or.inr rfl)) rfl qm_X4_338 ⟨rfl, rfl⟩ (by decide) rfl hl.1 rfl (Nat.le_of_ble_eq_true rfl) ⟨Nat.zero_le _, Nat.zero_le _⟩ dX4_scansConducting_55 (fun r5 u5 H locs h hW => ?_)
    refine lv_if_eq (tgt := 64) C.1 C.2.1 dX4_scansConducting_58 (by decide) (fun c6 => ?_) (fun c6 => ?_)
    · have h := h.1 c6
      exact k_X4_scansConducting_J64 C hK36 v3 v4 u5 _ _ _ h hW hl
    · have h := h.2 c6
      refine lv_iinc (v := (v3 + 1)) (lv' := [(3, .int (v3 + 1)), (0, .ref (gad g 0)), (1, .int p1), (4, .int v4)]) C.1 C.2.1 dX4_scansConducting_61 hl (k := 2) rfl rfl (by decide) rfl (fun ls hl => ?_)
      exact k_X4_scansConducting_J64 C hK36 (v3 + 1) v4 u5 _ _ _ h hW (lv_sub hl [1, 2, 0, 3] rfl)
theorem k_X4_scansConducting_L36 {p : Program} {l : Launch} {e : Env} {s : State} {m : MethodId} {args : Array Value} {below : List Frame} {meth : Method} {c : Code} {g : GG} {A : Nat → Prop} {p1 : Int32} {p2 : Int32} {Q : Int32 → St → Prop} (C : MC p s m args meth c cX4_scansConducting 5 RX4 (some .int) g A) : ∀ (n : Nat), ∀ (v3 : Int32) (v4 : Int32) (u : St) (H : Heap) (locs : List Loc) (ls : Array Slot), wp_X4_scansConducting_L36 p1 p2 Q n v3 v4 u → WD g A s u H locs → lv_has ls 5 [(0, .ref (gad g 0)), (1, .int p1), (3, .int v3), (4, .int v4)] → W p l e rm_X4_scansConducting s m args below meth c H locs 0 0 (MQ below (va_Qi Q (WQ g) A) args s 0 0 A) (F0 m 36 ls []) := by
  intro n
  induction n with
  | zero => intro v3 v4 u H locs ls h; exact False.elim h
  | succ n ih => exact k_X4_scansConducting_B36 (p1 := p1) (p2 := p2) C ih
set_option maxRecDepth 100000 in
theorem c_X4_scansConducting (l : Launch) (g : GG) {p1 : Int32} {p2 : Int32} {u : St} {Q : Int32 → St → Prop} (h : wp_X4_scansConducting p1 p2 u Q) : CI l yX4_scansConducting cX4_scansConducting 5 (some .int) rm_X4_scansConducting g [.ref (gad g 0), .int p1, .int p2] u Q := by
  refine ent (own := RX4) (Qc := va_Qi Q (WQ g)) (by decide) rfl (Nat.le_of_ble_eq_true rfl) ?_
  intro p e s m below meth c A ls C hl hW
  have hl : lv_has ls 5 [(0, .ref (gad g 0)), (1, .int p1), (2, .int p2)] := hl
  unfold wp_X4_scansConducting at h
  refine lv_aload_n C.1 C.2.1 dX4_scansConducting_0 rfl (lv_at hl 0 rfl) ?_
  refine fg_X4_31 C hW dX4_scansConducting_1 ?_
  refine lv_aload_n C.1 C.2.1 dX4_scansConducting_4 rfl (lv_at hl 0 rfl) ?_
  refine fg_X4_27 C hW dX4_scansConducting_5 ?_
  refine x_Vv (rest := []) C hW (c_X0_copyFrom l g (Or.inr rfl) (Or.inl rfl) h) km_X0_copyFrom (oLay (Or.inr rfl)) rfl qm_X4_130 ⟨rfl, rfl⟩ (by decide) rfl hl.1 rfl (Nat.le_of_ble_eq_true rfl) ⟨Nat.zero_le _, Nat.zero_le _⟩ dX4_scansConducting_8 (fun u1 H locs h hW => ?_)
  refine lv_aload_n C.1 C.2.1 dX4_scansConducting_11 rfl (lv_at hl 0 rfl) ?_
  refine fg_X4_31 C hW dX4_scansConducting_12 ?_
  refine lv_iload_n C.1 C.2.1 dX4_scansConducting_15 rfl (lv_at hl 1 rfl) ?_
  refine lv_iload_n C.1 C.2.1 dX4_scansConducting_16 rfl (lv_at hl 2 rfl) ?_
  refine x_Vv (rest := []) C hW (c_X0_turnInto l g (Or.inr rfl) h) km_X0_turnInto (oLay (Or.inr rfl)) rfl qm_X4_235 ⟨rfl, rfl⟩ (by decide) rfl hl.1 rfl (Nat.le_of_ble_eq_true rfl) ⟨Nat.zero_le _, Nat.zero_le _⟩ dX4_scansConducting_17 (fun u2 H locs h hW => ?_)
  refine lv_aload_n C.1 C.2.1 dX4_scansConducting_20 rfl (lv_at hl 0 rfl) ?_
  refine fg_X4_41 C hW dX4_scansConducting_21 ?_
  refine lv_aload_n C.1 C.2.1 dX4_scansConducting_24 rfl (lv_at hl 0 rfl) ?_
  refine fg_X4_37 C hW dX4_scansConducting_25 ?_
  refine x_Vv (rest := []) C hW (c_X1_copyFrom l g (Or.inr rfl) (Or.inl rfl) h) km_X1_copyFrom (oMom (Or.inr rfl)) rfl qm_X4_203 ⟨rfl, rfl⟩ (by decide) rfl hl.1 rfl (Nat.le_of_ble_eq_true rfl) ⟨Nat.zero_le _, Nat.zero_le _⟩ dX4_scansConducting_28 (fun u3 H locs h hW => ?_)
  refine lv_iconst (v := 0) C.1 C.2.1 dX4_scansConducting_31 (by decide) ?_
  refine lv_istore_n (lv' := [(3, .int 0), (0, .ref (gad g 0)), (1, .int p1), (2, .int p2)]) C.1 C.2.1 dX4_scansConducting_32 rfl hl (by decide) rfl (fun ls hl => ?_)
  refine lv_iconst (v := 0) C.1 C.2.1 dX4_scansConducting_33 (by decide) ?_
  refine lv_istore (lv' := [(4, .int 0), (3, .int 0), (0, .ref (gad g 0)), (1, .int p1), (2, .int p2)]) C.1 C.2.1 dX4_scansConducting_34 hl (by decide) rfl (fun ls hl => ?_)
  obtain ⟨n, h⟩ := h
  exact k_X4_scansConducting_L36 C n 0 0 u3 _ _ _ h hW (lv_sub hl [2, 3, 1, 0] rfl)
set_option maxRecDepth 100000 in
theorem c_X4_toldWerePlain (l : Launch) (g : GG) {p1 : Int32} {u : St} {Q : Int32 → St → Prop} (h : wp_X4_toldWerePlain p1 u Q) : CI l yX4_toldWerePlain cX4_toldWerePlain 2 (some .int) rm_X4_toldWerePlain g [.ref (gad g 0), .int p1] u Q := by
  refine ent (own := RX4) (Qc := va_Qi Q (WQ g)) (by decide) rfl (Nat.le_of_ble_eq_true rfl) ?_
  intro p e s m below meth c A ls C hl hW
  have hl : lv_has ls 2 [(0, .ref (gad g 0)), (1, .int p1)] := hl
  unfold wp_X4_toldWerePlain at h
  refine lv_aload_n C.1 C.2.1 dX4_toldWerePlain_0 rfl (lv_at hl 0 rfl) ?_
  refine fg_X4_31 C hW dX4_toldWerePlain_1 ?_
  refine lv_aload_n C.1 C.2.1 dX4_toldWerePlain_4 rfl (lv_at hl 0 rfl) ?_
  refine fg_X4_27 C hW dX4_toldWerePlain_5 ?_
  refine x_Vv (rest := []) C hW (c_X0_copyFrom l g (Or.inr rfl) (Or.inl rfl) h) km_X0_copyFrom (oLay (Or.inr rfl)) rfl qm_X4_130 ⟨rfl, rfl⟩ (by decide) rfl hl.1 rfl (Nat.le_of_ble_eq_true rfl) ⟨Nat.zero_le _, Nat.zero_le _⟩ dX4_toldWerePlain_8 (fun u1 H locs h hW => ?_)
  refine lv_aload_n C.1 C.2.1 dX4_toldWerePlain_11 rfl (lv_at hl 0 rfl) ?_
  refine fg_X4_31 C hW dX4_toldWerePlain_12 ?_
  refine lv_iload_n C.1 C.2.1 dX4_toldWerePlain_15 rfl (lv_at hl 1 rfl) ?_
  refine lv_iconst (v := 0) C.1 C.2.1 dX4_toldWerePlain_16 (by decide) ?_
  refine x_Vv (rest := []) C hW (c_X0_turnInto l g (Or.inr rfl) h) km_X0_turnInto (oLay (Or.inr rfl)) rfl qm_X4_235 ⟨rfl, rfl⟩ (by decide) rfl hl.1 rfl (Nat.le_of_ble_eq_true rfl) ⟨Nat.zero_le _, Nat.zero_le _⟩ dX4_toldWerePlain_17 (fun u2 H locs h hW => ?_)
  refine lv_aload_n C.1 C.2.1 dX4_toldWerePlain_20 rfl (lv_at hl 0 rfl) ?_
  refine fg_X4_47 C hW dX4_toldWerePlain_21 ?_
  refine lv_aload_n C.1 C.2.1 dX4_toldWerePlain_24 rfl (lv_at hl 0 rfl) ?_
  refine fg_X4_31 C hW dX4_toldWerePlain_25 ?_
  refine lv_aload_n C.1 C.2.1 dX4_toldWerePlain_28 rfl (lv_at hl 0 rfl) ?_
  refine fg_X4_37 C hW dX4_toldWerePlain_29 ?_
  refine x_Vv (rest := []) C hW (c_X3_attach l g (Or.inr rfl) (Or.inl rfl) h) km_X3_attach oWires rfl qm_X4_175 ⟨rfl, rfl⟩ (by decide) rfl hl.1 rfl (Nat.le_of_ble_eq_true rfl) ⟨Nat.zero_le _, Nat.zero_le _⟩ dX4_toldWerePlain_32 (fun u3 H locs h hW => ?_)
  refine lv_aload_n C.1 C.2.1 dX4_toldWerePlain_35 rfl (lv_at hl 0 rfl) ?_
  refine fg_X4_47 C hW dX4_toldWerePlain_36 ?_
  refine lv_aload_n C.1 C.2.1 dX4_toldWerePlain_39 rfl (lv_at hl 0 rfl) ?_
  refine fg_X4_37 C hW dX4_toldWerePlain_40 ?_
  refine fg_X4_179 C hW (Or.inl rfl) dX4_toldWerePlain_43 ?_
  refine x_Vi (rest := []) C hW (c_X3_toldOf l g h) km_X3_toldOf oWires rfl qm_X4_219 ⟨rfl, rfl⟩ (by decide) rfl hl.1 rfl (Nat.le_of_ble_eq_true rfl) ⟨Nat.zero_le _, Nat.zero_le _⟩ dX4_toldWerePlain_46 (fun r4 u4 H locs h hW => ?_)
  refine x_Si (rest := []) C hW (c_J6_bitCount_0f7a4 l g h) km_J6_bitCount_0f7a4 qm_X4_156 ⟨rfl, rfl⟩ (by decide) rfl hl.1 rfl (Nat.le_of_ble_eq_true rfl) ⟨Nat.zero_le _, Nat.zero_le _⟩ dX4_toldWerePlain_49 (fun r5 u5 H locs h hW => ?_)
  exact x_iret C hW h dX4_toldWerePlain_52
