set_option maxRecDepth 100000 in
theorem c_X4_mark (l : Launch) (g : GG) {p1 : Int32} {p2 : Int32} {u : St} {Q : Int32 → St → Prop} (h : wp_X4_mark p1 p2 u Q) : CI l yX4_mark cX4_mark 3 (some .int) rm_X4_mark g [.ref (gad g 0), .int p1, .int p2] u Q := by
  refine ent (own := RX4) (Qc := va_Qi Q (WQ g)) (by decide) rfl (Nat.le_of_ble_eq_true rfl) ?_
  intro p e s m below meth c A ls C hl hW
  have hl : lv_has ls 3 [(0, .ref (gad g 0)), (1, .int p1), (2, .int p2)] := hl
  unfold wp_X4_mark at h
  refine lv_aload_n C.1 C.2.1 dX4_mark_0 rfl (lv_at hl 0 rfl) ?_
  refine fg_X4_27 C hW dX4_mark_1 ?_
  refine lv_iload_n C.1 C.2.1 dX4_mark_4 rfl (lv_at hl 1 rfl) ?_
  refine x_Vi (rest := []) C hW (c_X0_has l g (Or.inl rfl) h) km_X0_has (oLay (Or.inl rfl)) rfl qm_X4_139 ⟨rfl, rfl⟩ (by decide) rfl hl.1 rfl (Nat.le_of_ble_eq_true rfl) ⟨Nat.zero_le _, Nat.zero_le _⟩ dX4_mark_5 (fun r1 u1 H locs h hW => ?_)
  refine lv_if_eq (tgt := 21) C.1 C.2.1 dX4_mark_8 (by decide) (fun c2 => ?_) (fun c2 => ?_)
  · have h := h.1 c2
    refine lv_iconst (v := (-1)) C.1 C.2.1 dX4_mark_21 (by decide) ?_
    exact x_iret C hW h dX4_mark_22
  · have h := h.2 c2
    refine lv_iload_n C.1 C.2.1 dX4_mark_11 rfl (lv_at hl 2 rfl) ?_
    refine lv_if_le (tgt := 21) C.1 C.2.1 dX4_mark_12 (by decide) (fun c3 => ?_) (fun c3 => ?_)
    · have h := h.1 c3
      refine lv_iconst (v := (-1)) C.1 C.2.1 dX4_mark_21 (by decide) ?_
      exact x_iret C hW h dX4_mark_22
    · have h := h.2 c3
      refine lv_iload_n C.1 C.2.1 dX4_mark_15 rfl (lv_at hl 2 rfl) ?_
      refine lv_bipush (v := 6) C.1 C.2.1 dX4_mark_16 (by decide) ?_
      refine lv_icmp_lt (tgt := 23) C.1 C.2.1 dX4_mark_18 (by decide) (fun c4 => ?_) (fun c4 => ?_)
      · have h := h.1 c4
        refine lv_aload_n C.1 C.2.1 dX4_mark_23 rfl (lv_at hl 0 rfl) ?_
        refine fg_X4_27 C hW dX4_mark_24 ?_
        refine lv_iload_n C.1 C.2.1 dX4_mark_27 rfl (lv_at hl 1 rfl) ?_
        refine x_Vi (rest := []) C hW (c_X0_kindOf l g (Or.inl rfl) h) km_X0_kindOf (oLay (Or.inl rfl)) rfl qm_X4_143 ⟨rfl, rfl⟩ (by decide) rfl hl.1 rfl (Nat.le_of_ble_eq_true rfl) ⟨Nat.zero_le _, Nat.zero_le _⟩ dX4_mark_28 (fun r5 u5 H locs h hW => ?_)
        refine lv_iload_n C.1 C.2.1 dX4_mark_31 rfl (lv_at hl 2 rfl) ?_
        refine x_Si (rest := []) C hW (c_X4_isOf l g h) km_X4_isOf qm_X4_146 ⟨rfl, rfl⟩ (by decide) rfl hl.1 rfl (Nat.le_of_ble_eq_true rfl) ⟨Nat.zero_le _, Nat.zero_le _⟩ dX4_mark_32 (fun r6 u6 H locs h hW => ?_)
        refine lv_if_ne (tgt := 44) C.1 C.2.1 dX4_mark_35 (by decide) (fun c7 => ?_) (fun c7 => ?_)
        · have h := h.1 c7
          refine lv_iload_n C.1 C.2.1 dX4_mark_44 rfl (lv_at hl 2 rfl) ?_
          by_cases c8 : p2 = 1
          · refine lv_tableIn (off := 31) (tgt := 76) C.1 C.2.1 dX4_mark_45 (by rw [c8]; decide +kernel) (by rw [c8]; decide +kernel) (by rw [c8]; decide +kernel) (by decide) ?_
            have h := h.1 c8
            refine lv_bipush (v := 10) C.1 C.2.1 dX4_mark_76 (by decide) ?_
            refine lv_aload_n C.1 C.2.1 dX4_mark_78 rfl (lv_at hl 0 rfl) ?_
            refine lv_iload_n C.1 C.2.1 dX4_mark_79 rfl (lv_at hl 1 rfl) ?_
            refine x_Vi (rest := [.int 10]) C hW (c_X4_toldWerePlain l g h) km_X4_toldWerePlain oKeys rfl qm_X4_149 ⟨rfl, rfl⟩ (by decide) rfl hl.1 rfl (Nat.le_of_ble_eq_true rfl) ⟨Nat.zero_le _, Nat.zero_le _⟩ dX4_mark_80 (fun r9 u9 H locs h hW => ?_)
            refine lv_iadd C.1 C.2.1 dX4_mark_83 ?_
            refine lv_aload_n C.1 C.2.1 dX4_mark_84 rfl (lv_at hl 0 rfl) ?_
            refine x_Vi (rest := [.int (10 + r9)]) C hW (c_X4_toldNow l g h) km_X4_toldNow oKeys rfl qm_X4_152 ⟨rfl, rfl⟩ (by decide) rfl hl.1 rfl (Nat.le_of_ble_eq_true rfl) ⟨Nat.zero_le _, Nat.zero_le _⟩ dX4_mark_85 (fun r10 u10 H locs h hW => ?_)
            refine x_Si (rest := [.int (10 + r9)]) C hW (c_J6_bitCount_0f7a4 l g h) km_J6_bitCount_0f7a4 qm_X4_156 ⟨rfl, rfl⟩ (by decide) rfl hl.1 rfl (Nat.le_of_ble_eq_true rfl) ⟨Nat.zero_le _, Nat.zero_le _⟩ dX4_mark_88 (fun r11 u11 H locs h hW => ?_)
            refine lv_isub C.1 C.2.1 dX4_mark_91 ?_
            exact x_iret C hW h dX4_mark_92
          · skip
            by_cases c12 : p2 = 2
            · refine lv_tableIn (off := 48) (tgt := 93) C.1 C.2.1 dX4_mark_45 (by rw [c12]; decide +kernel) (by rw [c12]; decide +kernel) (by rw [c12]; decide +kernel) (by decide) ?_
              have h := h.2.1 c12
              refine lv_aload_n C.1 C.2.1 dX4_mark_93 rfl (lv_at hl 0 rfl) ?_
              refine lv_iload_n C.1 C.2.1 dX4_mark_94 rfl (lv_at hl 1 rfl) ?_
              refine lv_aload_n C.1 C.2.1 dX4_mark_95 rfl (lv_at hl 0 rfl) ?_
              refine fg_X4_27 C hW dX4_mark_96 ?_
              refine lv_iload_n C.1 C.2.1 dX4_mark_99 rfl (lv_at hl 1 rfl) ?_
              refine x_Vi (rest := [.int p1, .ref (gad g 0)]) C hW (c_X0_kindOf l g (Or.inl rfl) h) km_X0_kindOf (oLay (Or.inl rfl)) rfl qm_X4_143 ⟨rfl, rfl⟩ (by decide) rfl hl.1 rfl (Nat.le_of_ble_eq_true rfl) ⟨Nat.zero_le _, Nat.zero_le _⟩ dX4_mark_100 (fun r13 u13 H locs h hW => ?_)
              refine x_Vi (rest := []) C hW (c_X4_scansConducting l g h) km_X4_scansConducting oKeys rfl qm_X4_161 ⟨rfl, rfl⟩ (by decide) rfl hl.1 rfl (Nat.le_of_ble_eq_true rfl) ⟨Nat.zero_le _, Nat.zero_le _⟩ dX4_mark_103 (fun r14 u14 H locs h hW => ?_)
              exact x_iret C hW h dX4_mark_106
            · skip
              by_cases c15 : p2 = 3
              · refine lv_tableIn (off := 62) (tgt := 107) C.1 C.2.1 dX4_mark_45 (by rw [c15]; decide +kernel) (by rw [c15]; decide +kernel) (by rw [c15]; decide +kernel) (by decide) ?_
                have h := h.2.2.1 c15
                refine lv_bipush (v := 10) C.1 C.2.1 dX4_mark_107 (by decide) ?_
                refine lv_aload_n C.1 C.2.1 dX4_mark_109 rfl (lv_at hl 0 rfl) ?_
                refine x_Vi (rest := [.int 10]) C hW (c_X4_toldNow l g h) km_X4_toldNow oKeys rfl qm_X4_152 ⟨rfl, rfl⟩ (by decide) rfl hl.1 rfl (Nat.le_of_ble_eq_true rfl) ⟨Nat.zero_le _, Nat.zero_le _⟩ dX4_mark_110 (fun r16 u16 H locs h hW => ?_)
                refine x_Si (rest := [.int 10]) C hW (c_J6_bitCount_0f7a4 l g h) km_J6_bitCount_0f7a4 qm_X4_156 ⟨rfl, rfl⟩ (by decide) rfl hl.1 rfl (Nat.le_of_ble_eq_true rfl) ⟨Nat.zero_le _, Nat.zero_le _⟩ dX4_mark_113 (fun r17 u17 H locs h hW => ?_)
                refine lv_iadd C.1 C.2.1 dX4_mark_116 ?_
                refine lv_aload_n C.1 C.2.1 dX4_mark_117 rfl (lv_at hl 0 rfl) ?_
                refine lv_iload_n C.1 C.2.1 dX4_mark_118 rfl (lv_at hl 1 rfl) ?_
                refine x_Vi (rest := [.int (10 + r17)]) C hW (c_X4_toldWerePlain l g h) km_X4_toldWerePlain oKeys rfl qm_X4_149 ⟨rfl, rfl⟩ (by decide) rfl hl.1 rfl (Nat.le_of_ble_eq_true rfl) ⟨Nat.zero_le _, Nat.zero_le _⟩ dX4_mark_119 (fun r18 u18 H locs h hW => ?_)
                refine lv_isub C.1 C.2.1 dX4_mark_122 ?_
                exact x_iret C hW h dX4_mark_123
              · skip
                by_cases c19 : p2 = 4
                · refine lv_tableIn (off := 79) (tgt := 124) C.1 C.2.1 dX4_mark_45 (by rw [c19]; decide +kernel) (by rw [c19]; decide +kernel) (by rw [c19]; decide +kernel) (by decide) ?_
                  have h := h.2.2.2.1 c19
                  refine lv_iconst (v := 0) C.1 C.2.1 dX4_mark_124 (by decide) ?_
                  refine lv_aload_n C.1 C.2.1 dX4_mark_125 rfl (lv_at hl 0 rfl) ?_
                  refine fg_X4_27 C hW dX4_mark_126 ?_
                  refine lv_iload_n C.1 C.2.1 dX4_mark_129 rfl (lv_at hl 1 rfl) ?_
                  refine x_Vi (rest := [.int 0]) C hW (c_X0_delayOf l g (Or.inl rfl) h) km_X0_delayOf (oLay (Or.inl rfl)) rfl qm_X4_164 ⟨rfl, rfl⟩ (by decide) rfl hl.1 rfl (Nat.le_of_ble_eq_true rfl) ⟨Nat.zero_le _, Nat.zero_le _⟩ dX4_mark_130 (fun r20 u20 H locs h hW => ?_)
                  refine lv_aload_n C.1 C.2.1 dX4_mark_133 rfl (lv_at hl 0 rfl) ?_
                  refine fg_X4_37 C hW dX4_mark_134 ?_
                  refine lv_iload_n C.1 C.2.1 dX4_mark_137 rfl (lv_at hl 1 rfl) ?_
                  refine x_Vi (rest := [.int r20, .int 0]) C hW (c_X1_heldFor l g (Or.inl rfl) h) km_X1_heldFor (oMom (Or.inl rfl)) rfl qm_X4_167 ⟨rfl, rfl⟩ (by decide) rfl hl.1 rfl (Nat.le_of_ble_eq_true rfl) ⟨Nat.zero_le _, Nat.zero_le _⟩ dX4_mark_138 (fun r21 u21 H locs h hW => ?_)
                  refine lv_isub C.1 C.2.1 dX4_mark_141 ?_
                  refine x_mmax C hl.1 qm_X4_170 (by decide) (Nat.le_of_ble_eq_true rfl) ⟨Nat.zero_le _, Nat.zero_le _⟩ dX4_mark_142 ?_
                  exact x_iret C hW h dX4_mark_145
                · skip
                  have c24 : (p2).toInt < 1 ∨ 4 < (p2).toInt := by
                    have ec8 : (p2).toInt ≠ 1 := fun z => c8 (Int32.toInt_inj.mp (by rw [z]; rfl))
                    have ec12 : (p2).toInt ≠ 2 := fun z => c12 (Int32.toInt_inj.mp (by rw [z]; rfl))
                    have ec15 : (p2).toInt ≠ 3 := fun z => c15 (Int32.toInt_inj.mp (by rw [z]; rfl))
                    have ec19 : (p2).toInt ≠ 4 := fun z => c19 (Int32.toInt_inj.mp (by rw [z]; rfl))
                    omega
                  refine lv_tableOut (tgt := 146) C.1 C.2.1 dX4_mark_45 c24 (by decide) ?_
                  have h := h.2.2.2.2 c24
                  refine lv_aload_n C.1 C.2.1 dX4_mark_146 rfl (lv_at hl 0 rfl) ?_
                  refine lv_iload_n C.1 C.2.1 dX4_mark_147 rfl (lv_at hl 1 rfl) ?_
                  refine lv_iconst (v := 2) C.1 C.2.1 dX4_mark_148 (by decide) ?_
                  refine x_Vi (rest := []) C hW (c_X4_scansConducting l g h) km_X4_scansConducting oKeys rfl qm_X4_161 ⟨rfl, rfl⟩ (by decide) rfl hl.1 rfl (Nat.le_of_ble_eq_true rfl) ⟨Nat.zero_le _, Nat.zero_le _⟩ dX4_mark_149 (fun r22 u22 H locs h hW => ?_)
                  refine lv_aload_n C.1 C.2.1 dX4_mark_152 rfl (lv_at hl 0 rfl) ?_
                  refine lv_iload_n C.1 C.2.1 dX4_mark_153 rfl (lv_at hl 1 rfl) ?_
                  refine lv_iconst (v := 5) C.1 C.2.1 dX4_mark_154 (by decide) ?_
                  refine x_Vi (rest := [.int r22]) C hW (c_X4_scansConducting l g h) km_X4_scansConducting oKeys rfl qm_X4_161 ⟨rfl, rfl⟩ (by decide) rfl hl.1 rfl (Nat.le_of_ble_eq_true rfl) ⟨Nat.zero_le _, Nat.zero_le _⟩ dX4_mark_155 (fun r23 u23 H locs h hW => ?_)
                  refine lv_isub C.1 C.2.1 dX4_mark_158 ?_
                  exact x_iret C hW h dX4_mark_159
        · have h := h.2 c7
          refine lv_aload_n C.1 C.2.1 dX4_mark_38 rfl (lv_at hl 0 rfl) ?_
          refine lv_iconst (v := 3) C.1 C.2.1 dX4_mark_39 (by decide) ?_
          refine x_Vi (rest := []) C hW (c_X4_found l g h) km_X4_found oKeys rfl qm_X4_85 ⟨rfl, rfl⟩ (by decide) rfl hl.1 rfl (Nat.le_of_ble_eq_true rfl) ⟨Nat.zero_le _, Nat.zero_le _⟩ dX4_mark_40 (fun r25 u25 H locs h hW => ?_)
          exact x_iret C hW h dX4_mark_43
      · have h := h.2 c4
        refine lv_iconst (v := (-1)) C.1 C.2.1 dX4_mark_21 (by decide) ?_
        exact x_iret C hW h dX4_mark_22
set_option maxRecDepth 100000 in
theorem c_X4_mean (l : Launch) (g : GG) {p1 : Int32} {u : St} {Q : Int32 → St → Prop} (h : wp_X4_mean p1 u Q) : CI l yX4_mean cX4_mean 4 (some .int) rm_X4_mean g [.ref (gad g 0), .int p1] u Q := by
  refine ent (own := RX4) (Qc := va_Qi Q (WQ g)) (by decide) rfl (Nat.le_of_ble_eq_true rfl) ?_
  intro p e s m below meth c A ls C hl hW
  have hl : lv_has ls 4 [(0, .ref (gad g 0)), (1, .int p1)] := hl
  unfold wp_X4_mean at h
  refine lv_aload_n C.1 C.2.1 dX4_mean_0 rfl (lv_at hl 0 rfl) ?_
  refine lv_aload_n C.1 C.2.1 dX4_mean_1 rfl (lv_at hl 0 rfl) ?_
  refine fg_X4_14 C hW dX4_mean_2 ?_
  refine lv_iload_n C.1 C.2.1 dX4_mean_5 rfl (lv_at hl 1 rfl) ?_
  refine x_Vi (rest := []) C hW (c_X4_refuseShelfPlace l g (Or.inl rfl) h) km_X4_refuseShelfPlace oKeys rfl qm_X4_100 ⟨rfl, rfl⟩ (by decide) rfl hl.1 rfl (Nat.le_of_ble_eq_true rfl) ⟨Nat.zero_le _, Nat.zero_le _⟩ dX4_mean_6 (fun r1 u1 H locs h hW => ?_)
  refine lv_istore_n (lv' := [(2, .int r1), (0, .ref (gad g 0)), (1, .int p1)]) C.1 C.2.1 dX4_mean_9 rfl hl (by decide) rfl (fun ls hl => ?_)
  refine lv_iload_n C.1 C.2.1 dX4_mean_10 rfl (lv_at hl 0 rfl) ?_
  refine lv_if_eq (tgt := 16) C.1 C.2.1 dX4_mean_11 (by decide) (fun c2 => ?_) (fun c2 => ?_)
  · have h := h.1 c2
    refine lv_aload_n C.1 C.2.1 dX4_mean_16 rfl (lv_at hl 1 rfl) ?_
    refine fg_X4_14 C hW dX4_mean_17 ?_
    refine lv_iload_n C.1 C.2.1 dX4_mean_20 rfl (lv_at hl 2 rfl) ?_
    refine x_Vi (rest := []) C hW (c_X2_size l g (Or.inl rfl) h) km_X2_size (oShf (Or.inl rfl)) rfl qm_X4_120 ⟨rfl, rfl⟩ (by decide) rfl hl.1 rfl (Nat.le_of_ble_eq_true rfl) ⟨Nat.zero_le _, Nat.zero_le _⟩ dX4_mean_21 (fun r3 u3 H locs h hW => ?_)
    refine lv_istore_n (lv' := [(3, .int r3), (2, .int r1), (0, .ref (gad g 0)), (1, .int p1)]) C.1 C.2.1 dX4_mean_24 rfl hl (by decide) rfl (fun ls hl => ?_)
    refine lv_iload_n C.1 C.2.1 dX4_mean_25 rfl (lv_at hl 0 rfl) ?_
    refine lv_if_gt (tgt := 35) C.1 C.2.1 dX4_mean_26 (by decide) (fun c4 => ?_) (fun c4 => ?_)
    · have h := h.1 c4
      refine lv_aload_n C.1 C.2.1 dX4_mean_35 rfl (lv_at hl 2 rfl) ?_
      refine lv_aload_n C.1 C.2.1 dX4_mean_36 rfl (lv_at hl 2 rfl) ?_
      refine fg_X4_14 C hW dX4_mean_37 ?_
      refine lv_iload_n C.1 C.2.1 dX4_mean_40 rfl (lv_at hl 3 rfl) ?_
      refine x_Vl (rest := [.ref (gad g 0)]) C hW (c_X2_sum l g (Or.inl rfl) h) km_X2_sum (oShf (Or.inl rfl)) rfl qm_X4_123 ⟨rfl, rfl⟩ (by decide) rfl hl.1 rfl (Nat.le_of_ble_eq_true rfl) ⟨Nat.zero_le _, Nat.zero_le _⟩ dX4_mean_41 (fun r5 u5 H locs h hW => ?_)
      refine lv_iload_n C.1 C.2.1 dX4_mean_44 rfl (lv_at hl 0 rfl) ?_
      refine lv_i2l (v := r3.toInt64) C.1 C.2.1 dX4_mean_45 rfl ?_
      obtain ⟨h6, h⟩ := h
      refine lv_ldiv C.1 C.2.1 dX4_mean_46 h6 ?_
      refine lv_l2i (v := (r5 / r3.toInt64).toInt32) C.1 C.2.1 dX4_mean_47 rfl ?_
      refine fp_X4_67 C hW dX4_mean_48 (fun u7 H locs e7 hW => ?_)
      have h := nxt_get h e7
      refine lv_iconst (v := 1) C.1 C.2.1 dX4_mean_51 (by decide) ?_
      exact x_iret C hW h dX4_mean_52
    · have h := h.2 c4
      refine lv_aload_n C.1 C.2.1 dX4_mean_29 rfl (lv_at hl 2 rfl) ?_
      refine lv_iconst (v := 4) C.1 C.2.1 dX4_mean_30 (by decide) ?_
      refine x_Vi (rest := []) C hW (c_X4_found l g h) km_X4_found oKeys rfl qm_X4_85 ⟨rfl, rfl⟩ (by decide) rfl hl.1 rfl (Nat.le_of_ble_eq_true rfl) ⟨Nat.zero_le _, Nat.zero_le _⟩ dX4_mean_31 (fun r8 u8 H locs h hW => ?_)
      exact x_iret C hW h dX4_mean_34
  · have h := h.2 c2
    refine lv_iload_n C.1 C.2.1 dX4_mean_14 rfl (lv_at hl 0 rfl) ?_
    exact x_iret C hW h dX4_mean_15
set_option maxRecDepth 100000 in
theorem k_X4_power_B5 {p : Program} {l : Launch} {e : Env} {s : State} {m : MethodId} {args : Array Value} {below : List Frame} {meth : Method} {c : Code} {g : GG} {A : Nat → Prop} {p0 : Int64} {p2 : Int32} {Q : Int64 → St → Prop} (C : MC p s m args meth c cX4_power 6 RX4 (some .long) g A) {K5 : Int64 → Int32 → St → Prop} (hK5 : ∀ (v3 : Int64) (v5 : Int32) (u : St) (H : Heap) (locs : List Loc) (ls : Array Slot), K5 v3 v5 u → WD g A s u H locs → lv_has ls 6 [(0, .long p0), (2, .int p2), (3, .long v3), (5, .int v5)] → W p l e rm_X4_power s m args below meth c H locs 0 0 (MQ below (va_Ql Q (WQ g) A) args s 0 0 A) (F0 m 5 ls [])) : ∀ (v3 : Int64) (v5 : Int32) (u : St) (H : Heap) (locs : List Loc) (ls : Array Slot), wp_X4_power_B5 p0 p2 Q K5 v3 v5 u → WD g A s u H locs → lv_has ls 6 [(0, .long p0), (2, .int p2), (3, .long v3), (5, .int v5)] → W p l e rm_X4_power s m args below meth c H locs 0 0 (MQ below (va_Ql Q (WQ g) A) args s 0 0 A) (F0 m 5 ls []) := by
  intro v3 v5 u H locs ls h hW hl
  refine lv_iload C.1 C.2.1 dX4_power_5 (lv_at hl 3 rfl) ?_
  refine lv_iload_n C.1 C.2.1 dX4_power_7 rfl (lv_at hl 1 rfl) ?_
  refine lv_icmp_ge (tgt := 21) C.1 C.2.1 dX4_power_8 (by decide) (fun c1 => ?_) (fun c1 => ?_)
  · have h := h.1 c1
    refine lv_lload_n C.1 C.2.1 dX4_power_21 rfl (lv_at hl 2 rfl) ?_
    exact x_lret C hW h dX4_power_22
  · have h := h.2 c1
    refine lv_lload_n C.1 C.2.1 dX4_power_11 rfl (lv_at hl 2 rfl) ?_
    refine lv_lload_n C.1 C.2.1 dX4_power_12 rfl (lv_at hl 0 rfl) ?_
    refine lv_lmul C.1 C.2.1 dX4_power_13 ?_
    refine lv_lstore_n (lv' := [(3, .long (v3 * p0)), (0, .long p0), (2, .int p2), (5, .int v5)]) C.1 C.2.1 dX4_power_14 rfl hl (by decide) rfl (fun ls hl => ?_)
    refine lv_iinc (v := (v5 + 1)) (lv' := [(5, .int (v5 + 1)), (3, .long (v3 * p0)), (0, .long p0), (2, .int p2)]) C.1 C.2.1 dX4_power_15 hl (k := 3) rfl rfl (by decide) rfl (fun ls hl => ?_)
    refine lv_goto (tgt := 5) C.1 C.2.1 dX4_power_18 (by decide) ?_
    exact hK5 (v3 * p0) (v5 + 1) u _ _ _ h hW (lv_sub hl [2, 3, 1, 0] rfl)
theorem k_X4_power_L5 {p : Program} {l : Launch} {e : Env} {s : State} {m : MethodId} {args : Array Value} {below : List Frame} {meth : Method} {c : Code} {g : GG} {A : Nat → Prop} {p0 : Int64} {p2 : Int32} {Q : Int64 → St → Prop} (C : MC p s m args meth c cX4_power 6 RX4 (some .long) g A) : ∀ (n : Nat), ∀ (v3 : Int64) (v5 : Int32) (u : St) (H : Heap) (locs : List Loc) (ls : Array Slot), wp_X4_power_L5 p0 p2 Q n v3 v5 u → WD g A s u H locs → lv_has ls 6 [(0, .long p0), (2, .int p2), (3, .long v3), (5, .int v5)] → W p l e rm_X4_power s m args below meth c H locs 0 0 (MQ below (va_Ql Q (WQ g) A) args s 0 0 A) (F0 m 5 ls []) := by
  intro n
  induction n with
  | zero => intro v3 v5 u H locs ls h; exact False.elim h
  | succ n ih => exact k_X4_power_B5 (p0 := p0) (p2 := p2) C ih
set_option maxRecDepth 100000 in
theorem c_X4_power (l : Launch) (g : GG) {p0 : Int64} {p2 : Int32} {u : St} {Q : Int64 → St → Prop} (h : wp_X4_power p0 p2 u Q) : CL l yX4_power cX4_power 6 (some .long) rm_X4_power g [.long p0, .int p2] u Q := by
  refine ent (own := RX4) (Qc := va_Ql Q (WQ g)) (by decide) rfl (Nat.le_of_ble_eq_true rfl) ?_
  intro p e s m below meth c A ls C hl hW
  have hl : lv_has ls 6 [(0, .long p0), (2, .int p2)] := hl
  unfold wp_X4_power at h
  refine lv_lconst (v := 1) C.1 C.2.1 dX4_power_0 (by decide) ?_
  refine lv_lstore_n (lv' := [(3, .long 1), (0, .long p0), (2, .int p2)]) C.1 C.2.1 dX4_power_1 rfl hl (by decide) rfl (fun ls hl => ?_)
  refine lv_iconst (v := 0) C.1 C.2.1 dX4_power_2 (by decide) ?_
  refine lv_istore (lv' := [(5, .int 0), (3, .long 1), (0, .long p0), (2, .int p2)]) C.1 C.2.1 dX4_power_3 hl (by decide) rfl (fun ls hl => ?_)
  obtain ⟨n, h⟩ := h
  exact k_X4_power_L5 C n 1 0 u _ _ _ h hW (lv_sub hl [2, 3, 1, 0] rfl)
set_option maxRecDepth 100000 in
theorem c_X4_refuseChance (l : Launch) (g : GG) {p1 : Int32} {u : St} {Q : Int32 → St → Prop} (h : wp_X4_refuseChance p1 u Q) : CI l yX4_refuseChance cX4_refuseChance 2 (some .int) rm_X4_refuseChance g [.ref (gad g 0), .int p1] u Q := by
  refine ent (own := RX4) (Qc := va_Qi Q (WQ g)) (by decide) rfl (Nat.le_of_ble_eq_true rfl) ?_
  intro p e s m below meth c A ls C hl hW
  have hl : lv_has ls 2 [(0, .ref (gad g 0)), (1, .int p1)] := hl
  unfold wp_X4_refuseChance at h
  refine lv_iload_n C.1 C.2.1 dX4_refuseChance_0 rfl (lv_at hl 1 rfl) ?_
  refine lv_if_lt (tgt := 10) C.1 C.2.1 dX4_refuseChance_1 (by decide) (fun c1 => ?_) (fun c1 => ?_)
  · have h := h.1 c1
    refine lv_iconst (v := (-1)) C.1 C.2.1 dX4_refuseChance_10 (by decide) ?_
    exact x_iret C hW h dX4_refuseChance_11
  · have h := h.2 c1
    refine lv_iload_n C.1 C.2.1 dX4_refuseChance_4 rfl (lv_at hl 1 rfl) ?_
    refine lv_bipush (v := 12) C.1 C.2.1 dX4_refuseChance_5 (by decide) ?_
    refine lv_icmp_le (tgt := 12) C.1 C.2.1 dX4_refuseChance_7 (by decide) (fun c2 => ?_) (fun c2 => ?_)
    · have h := h.1 c2
      refine lv_aload_n C.1 C.2.1 dX4_refuseChance_12 rfl (lv_at hl 0 rfl) ?_
      refine fg_X4_27 C hW dX4_refuseChance_13 ?_
      refine fg_X4_137 C hW (Or.inl rfl) dX4_refuseChance_16 ?_
      refine lv_if_ne (tgt := 27) C.1 C.2.1 dX4_refuseChance_19 (by decide) (fun c3 => ?_) (fun c3 => ?_)
      · have h := h.1 c3
        refine lv_iconst (v := 0) C.1 C.2.1 dX4_refuseChance_27 (by decide) ?_
        exact x_iret C hW h dX4_refuseChance_28
      · have h := h.2 c3
        refine lv_bipush (v := (-4)) C.1 C.2.1 dX4_refuseChance_22 (by decide) ?_
        refine lv_goto (tgt := 28) C.1 C.2.1 dX4_refuseChance_24 (by decide) ?_
        exact x_iret C hW h dX4_refuseChance_28
    · have h := h.2 c2
      refine lv_iconst (v := (-1)) C.1 C.2.1 dX4_refuseChance_10 (by decide) ?_
      exact x_iret C hW h dX4_refuseChance_11
set_option maxRecDepth 100000 in
theorem k_X4_tellFraction_J45 {p : Program} {l : Launch} {e : Env} {s : State} {m : MethodId} {args : Array Value} {below : List Frame} {meth : Method} {c : Code} {g : GG} {A : Nat → Prop} {p1 : Int64} {p3 : Int64} {Q : St → Prop} (C : MC p s m args meth c cX4_tellFraction 12 RX4 none g A) : ∀ (v5 : Int64) (u : St) (H : Heap) (locs : List Loc) (ls : Array Slot), wp_X4_tellFraction_J45 p1 p3 Q v5 u → WD g A s u H locs → lv_has ls 12 [(0, .ref (gad g 0)), (1, .long p1), (3, .long p3), (5, .long v5)] → W p l e rm_X4_tellFraction s m args below meth c H locs 0 0 (MQ below (va_Qv Q (WQ g) A) args s 0 0 A) (F0 m 45 ls []) := by
  intro v5 u H locs ls h hW hl
  refine lv_lload C.1 C.2.1 dX4_tellFraction_45 (lv_at hl 3 rfl) ?_
  refine lv_lconst (v := 0) C.1 C.2.1 dX4_tellFraction_47 (by decide) ?_
  refine W.lcmp C.1 C.2.1 dX4_tellFraction_48 ?_
  refine lv_if_eq (tgt := 68) C.1 C.2.1 dX4_tellFraction_49 (by decide) (fun c4 => ?_) (fun c4 => ?_)
  · have h := h.1 c4
    exact x_vret C hW h dX4_tellFraction_68
  · have h := h.2 c4
    refine lv_aload_n C.1 C.2.1 dX4_tellFraction_52 rfl (lv_at hl 0 rfl) ?_
    refine lv_lload_n C.1 C.2.1 dX4_tellFraction_53 rfl (lv_at hl 1 rfl) ?_
    refine lv_lload C.1 C.2.1 dX4_tellFraction_54 (lv_at hl 3 rfl) ?_
    obtain ⟨h5, h⟩ := h
    refine lv_ldiv C.1 C.2.1 dX4_tellFraction_56 h5 ?_
    refine fp_X4_70 C hW dX4_tellFraction_57 (fun u6 H locs e6 hW => ?_)
    have h := nxt_get h e6
    refine lv_aload_n C.1 C.2.1 dX4_tellFraction_60 rfl (lv_at hl 0 rfl) ?_
    refine lv_lload_n C.1 C.2.1 dX4_tellFraction_61 rfl (lv_at hl 2 rfl) ?_
    refine lv_lload C.1 C.2.1 dX4_tellFraction_62 (lv_at hl 3 rfl) ?_
    obtain ⟨h7, h⟩ := h
    refine lv_ldiv C.1 C.2.1 dX4_tellFraction_64 h7 ?_
    refine fp_X4_74 C hW dX4_tellFraction_65 (fun u8 H locs e8 hW => ?_)
    have h := nxt_get h e8
    exact x_vret C hW h dX4_tellFraction_68
set_option maxRecDepth 100000 in
theorem k_X4_tellFraction_B9 {p : Program} {l : Launch} {e : Env} {s : State} {m : MethodId} {args : Array Value} {below : List Frame} {meth : Method} {c : Code} {g : GG} {A : Nat → Prop} {p1 : Int64} {p3 : Int64} {Q : St → Prop} (C : MC p s m args meth c cX4_tellFraction 12 RX4 none g A) {K9 : Int64 → Int64 → Int32 → St → Prop} (hK9 : ∀ (v5 : Int64) (v7 : Int64) (v9 : Int32) (u : St) (H : Heap) (locs : List Loc) (ls : Array Slot), K9 v5 v7 v9 u → WD g A s u H locs → lv_has ls 12 [(0, .ref (gad g 0)), (1, .long p1), (3, .long p3), (5, .long v5), (7, .long v7), (9, .int v9)] → W p l e rm_X4_tellFraction s m args below meth c H locs 0 0 (MQ below (va_Qv Q (WQ g) A) args s 0 0 A) (F0 m 9 ls [])) : ∀ (v5 : Int64) (v7 : Int64) (v9 : Int32) (u : St) (H : Heap) (locs : List Loc) (ls : Array Slot), wp_X4_tellFraction_B9 p1 p3 Q K9 v5 v7 v9 u → WD g A s u H locs → lv_has ls 12 [(0, .ref (gad g 0)), (1, .long p1), (3, .long p3), (5, .long v5), (7, .long v7), (9, .int v9)] → W p l e rm_X4_tellFraction s m args below meth c H locs 0 0 (MQ below (va_Qv Q (WQ g) A) args s 0 0 A) (F0 m 9 ls []) := by
  intro v5 v7 v9 u H locs ls h hW hl
  refine lv_iload C.1 C.2.1 dX4_tellFraction_9 (lv_at hl 5 rfl) ?_
  refine lv_sipush (v := 200) C.1 C.2.1 dX4_tellFraction_11 (by decide) ?_
  refine lv_icmp_ge (tgt := 45) C.1 C.2.1 dX4_tellFraction_14 (by decide) (fun c1 => ?_) (fun c1 => ?_)
  · have h := h.1 c1
    exact k_X4_tellFraction_J45 C v5 u _ _ _ h hW (lv_sub hl [0, 1, 2, 3] rfl)
  · have h := h.2 c1
    refine lv_lload C.1 C.2.1 dX4_tellFraction_17 (lv_at hl 4 rfl) ?_
    refine lv_lconst (v := 0) C.1 C.2.1 dX4_tellFraction_19 (by decide) ?_
    refine W.lcmp C.1 C.2.1 dX4_tellFraction_20 ?_
    refine lv_if_eq (tgt := 45) C.1 C.2.1 dX4_tellFraction_21 (by decide) (fun c2 => ?_) (fun c2 => ?_)
    · have h := h.1 c2
      exact k_X4_tellFraction_J45 C v5 u _ _ _ h hW (lv_sub hl [0, 1, 2, 3] rfl)
    · have h := h.2 c2
      refine lv_lload C.1 C.2.1 dX4_tellFraction_24 (lv_at hl 3 rfl) ?_
      refine lv_lload C.1 C.2.1 dX4_tellFraction_26 (lv_at hl 4 rfl) ?_
      obtain ⟨h3, h⟩ := h
      refine lv_lrem C.1 C.2.1 dX4_tellFraction_28 h3 ?_
      refine lv_lstore (lv' := [(10, .long (v5 - (v5 / v7) * v7)), (0, .ref (gad g 0)), (1, .long p1), (3, .long p3), (5, .long v5), (7, .long v7), (9, .int v9)]) C.1 C.2.1 dX4_tellFraction_29 hl (by decide) rfl (fun ls hl => ?_)
      refine lv_lload C.1 C.2.1 dX4_tellFraction_31 (lv_at hl 5 rfl) ?_
      refine lv_lstore (lv' := [(5, .long v7), (10, .long (v5 - (v5 / v7) * v7)), (0, .ref (gad g 0)), (1, .long p1), (3, .long p3), (7, .long v7), (9, .int v9)]) C.1 C.2.1 dX4_tellFraction_33 hl (by decide) rfl (fun ls hl => ?_)
      refine lv_lload C.1 C.2.1 dX4_tellFraction_35 (lv_at hl 1 rfl) ?_
      refine lv_lstore (lv' := [(7, .long (v5 - (v5 / v7) * v7)), (5, .long v7), (10, .long (v5 - (v5 / v7) * v7)), (0, .ref (gad g 0)), (1, .long p1), (3, .long p3), (9, .int v9)]) C.1 C.2.1 dX4_tellFraction_37 hl (by decide) rfl (fun ls hl => ?_)
      refine lv_iinc (v := (v9 + 1)) (lv' := [(9, .int (v9 + 1)), (7, .long (v5 - (v5 / v7) * v7)), (5, .long v7), (10, .long (v5 - (v5 / v7) * v7)), (0, .ref (gad g 0)), (1, .long p1), (3, .long p3)]) C.1 C.2.1 dX4_tellFraction_39 hl (k := 6) rfl rfl (by decide) rfl (fun ls hl => ?_)
      refine lv_goto (tgt := 9) C.1 C.2.1 dX4_tellFraction_42 (by decide) ?_
      exact hK9 v7 (v5 - (v5 / v7) * v7) (v9 + 1) u _ _ _ h hW (lv_sub hl [4, 5, 6, 2, 1, 0] rfl)
theorem k_X4_tellFraction_L9 {p : Program} {l : Launch} {e : Env} {s : State} {m : MethodId} {args : Array Value} {below : List Frame} {meth : Method} {c : Code} {g : GG} {A : Nat → Prop} {p1 : Int64} {p3 : Int64} {Q : St → Prop} (C : MC p s m args meth c cX4_tellFraction 12 RX4 none g A) : ∀ (n : Nat), ∀ (v5 : Int64) (v7 : Int64) (v9 : Int32) (u : St) (H : Heap) (locs : List Loc) (ls : Array Slot), wp_X4_tellFraction_L9 p1 p3 Q n v5 v7 v9 u → WD g A s u H locs → lv_has ls 12 [(0, .ref (gad g 0)), (1, .long p1), (3, .long p3), (5, .long v5), (7, .long v7), (9, .int v9)] → W p l e rm_X4_tellFraction s m args below meth c H locs 0 0 (MQ below (va_Qv Q (WQ g) A) args s 0 0 A) (F0 m 9 ls []) := by
  intro n
  induction n with
  | zero => intro v5 v7 v9 u H locs ls h; exact False.elim h
  | succ n ih => exact k_X4_tellFraction_B9 (p1 := p1) (p3 := p3) C ih
set_option maxRecDepth 100000 in
theorem c_X4_tellFraction (l : Launch) (g : GG) {p1 : Int64} {p3 : Int64} {u : St} {Q : St → Prop} (h : wp_X4_tellFraction p1 p3 u Q) : CV l yX4_tellFraction cX4_tellFraction 12 none rm_X4_tellFraction g [.ref (gad g 0), .long p1, .long p3] u Q := by
  refine ent (own := RX4) (Qc := va_Qv Q (WQ g)) (by decide) rfl (Nat.le_of_ble_eq_true rfl) ?_
  intro p e s m below meth c A ls C hl hW
  have hl : lv_has ls 12 [(0, .ref (gad g 0)), (1, .long p1), (3, .long p3)] := hl
  unfold wp_X4_tellFraction at h
  refine lv_lload_n C.1 C.2.1 dX4_tellFraction_0 rfl (lv_at hl 2 rfl) ?_
  refine lv_lstore (lv' := [(5, .long p3), (0, .ref (gad g 0)), (1, .long p1), (3, .long p3)]) C.1 C.2.1 dX4_tellFraction_1 hl (by decide) rfl (fun ls hl => ?_)
  refine lv_lload_n C.1 C.2.1 dX4_tellFraction_3 rfl (lv_at hl 2 rfl) ?_
  refine lv_lstore (lv' := [(7, .long p1), (5, .long p3), (0, .ref (gad g 0)), (1, .long p1), (3, .long p3)]) C.1 C.2.1 dX4_tellFraction_4 hl (by decide) rfl (fun ls hl => ?_)
  refine lv_iconst (v := 0) C.1 C.2.1 dX4_tellFraction_6 (by decide) ?_
  refine lv_istore (lv' := [(9, .int 0), (7, .long p1), (5, .long p3), (0, .ref (gad g 0)), (1, .long p1), (3, .long p3)]) C.1 C.2.1 dX4_tellFraction_7 hl (by decide) rfl (fun ls hl => ?_)
  obtain ⟨n, h⟩ := h
  exact k_X4_tellFraction_L9 C n p3 p1 0 u _ _ _ h hW (lv_sub hl [3, 4, 5, 2, 1, 0] rfl)
set_option maxRecDepth 100000 in
theorem c_X4_weight (l : Launch) (g : GG) {p1 : Int32} {p2 : Int32} {u : St} {Q : Int64 → St → Prop} (h : wp_X4_weight p1 p2 u Q) : CL l yX4_weight cX4_weight 4 (some .long) rm_X4_weight g [.ref (gad g 0), .int p1, .int p2] u Q := by
  refine ent (own := RX4) (Qc := va_Ql Q (WQ g)) (by decide) rfl (Nat.le_of_ble_eq_true rfl) ?_
  intro p e s m below meth c A ls C hl hW
  have hl : lv_has ls 4 [(0, .ref (gad g 0)), (1, .int p1), (2, .int p2)] := hl
  unfold wp_X4_weight at h
  refine lv_iload_n C.1 C.2.1 dX4_weight_0 rfl (lv_at hl 1 rfl) ?_
  refine x_Si (rest := []) C hW (c_J6_bitCount_0f7a4 l g h) km_J6_bitCount_0f7a4 qm_X4_156 ⟨rfl, rfl⟩ (by decide) rfl hl.1 rfl (Nat.le_of_ble_eq_true rfl) ⟨Nat.zero_le _, Nat.zero_le _⟩ dX4_weight_1 (fun r1 u1 H locs h hW => ?_)
  refine lv_istore_n (lv' := [(3, .int r1), (0, .ref (gad g 0)), (1, .int p1), (2, .int p2)]) C.1 C.2.1 dX4_weight_4 rfl hl (by decide) rfl (fun ls hl => ?_)
  refine lv_iload_n C.1 C.2.1 dX4_weight_5 rfl (lv_at hl 3 rfl) ?_
  refine lv_i2l (v := p2.toInt64) C.1 C.2.1 dX4_weight_6 rfl ?_
  refine lv_iload_n C.1 C.2.1 dX4_weight_7 rfl (lv_at hl 0 rfl) ?_
  refine x_Sl (rest := []) C hW (c_X4_power l g h) km_X4_power qm_X4_279 ⟨rfl, rfl⟩ (by decide) rfl hl.1 rfl (Nat.le_of_ble_eq_true rfl) ⟨Nat.zero_le _, Nat.zero_le _⟩ dX4_weight_8 (fun r2 u2 H locs h hW => ?_)
  refine lv_bipush (v := 12) C.1 C.2.1 dX4_weight_11 (by decide) ?_
  refine lv_iload_n C.1 C.2.1 dX4_weight_13 rfl (lv_at hl 3 rfl) ?_
  refine lv_isub C.1 C.2.1 dX4_weight_14 ?_
  refine lv_i2l (v := (12 - p2).toInt64) C.1 C.2.1 dX4_weight_15 rfl ?_
  refine lv_aload_n C.1 C.2.1 dX4_weight_16 rfl (lv_at hl 1 rfl) ?_
  refine fg_X4_27 C hW dX4_weight_17 ?_
  refine fg_X4_137 C hW (Or.inl rfl) dX4_weight_20 ?_
  refine lv_iload_n C.1 C.2.1 dX4_weight_23 rfl (lv_at hl 0 rfl) ?_
  refine lv_isub C.1 C.2.1 dX4_weight_24 ?_
  refine x_Sl (rest := [.long r2]) C hW (c_X4_power l g h) km_X4_power qm_X4_279 ⟨rfl, rfl⟩ (by decide) rfl hl.1 rfl (Nat.le_of_ble_eq_true rfl) ⟨Nat.zero_le _, Nat.zero_le _⟩ dX4_weight_25 (fun r3 u3 H locs h hW => ?_)
  refine lv_lmul C.1 C.2.1 dX4_weight_28 ?_
  exact x_lret C hW h dX4_weight_29
set_option maxRecDepth 100000 in
theorem k_X4_mid_B30 {p : Program} {l : Launch} {e : Env} {s : State} {m : MethodId} {args : Array Value} {below : List Frame} {meth : Method} {c : Code} {g : GG} {A : Nat → Prop} {p1 : Int32} {Q : Int32 → St → Prop} (C : MC p s m args meth c cX4_mid 7 RX4 (some .int) g A) {K30 : Int32 → Int64 → Int32 → St → Prop} (hK30 : ∀ (v3 : Int32) (v4 : Int64) (v6 : Int32) (u : St) (H : Heap) (locs : List Loc) (ls : Array Slot), K30 v3 v4 v6 u → WD g A s u H locs → lv_has ls 7 [(0, .ref (gad g 0)), (1, .int p1), (3, .int v3), (4, .long v4), (6, .int v6)] → W p l e rm_X4_mid s m args below meth c H locs 0 0 (MQ below (va_Qi Q (WQ g) A) args s 0 0 A) (F0 m 30 ls [])) : ∀ (v3 : Int32) (v4 : Int64) (v6 : Int32) (u : St) (H : Heap) (locs : List Loc) (ls : Array Slot), wp_X4_mid_B30 p1 Q K30 v3 v4 v6 u → WD g A s u H locs → lv_has ls 7 [(0, .ref (gad g 0)), (1, .int p1), (3, .int v3), (4, .long v4), (6, .int v6)] → W p l e rm_X4_mid s m args below meth c H locs 0 0 (MQ below (va_Qi Q (WQ g) A) args s 0 0 A) (F0 m 30 ls []) := by
  intro v3 v4 v6 u H locs ls h hW hl
  refine lv_iload C.1 C.2.1 dX4_mid_30 (lv_at hl 4 rfl) ?_
  refine lv_iload_n C.1 C.2.1 dX4_mid_32 rfl (lv_at hl 2 rfl) ?_
  refine lv_icmp_ge (tgt := 62) C.1 C.2.1 dX4_mid_33 (by decide) (fun c5 => ?_) (fun c5 => ?_)
  · have h := h.1 c5
    refine lv_aload_n C.1 C.2.1 dX4_mid_62 rfl (lv_at hl 0 rfl) ?_
    refine lv_lload C.1 C.2.1 dX4_mid_63 (lv_at hl 3 rfl) ?_
    refine lv_ldc2 (v := 12) C.1 C.2.1 C.2.2.2.1 (C.2.2.2.2.1 _ qk_X4_277) dX4_mid_65 ?_
    refine lv_aload_n C.1 C.2.1 dX4_mid_68 rfl (lv_at hl 0 rfl) ?_
    refine fg_X4_27 C hW dX4_mid_69 ?_
    refine fg_X4_137 C hW (Or.inl rfl) dX4_mid_72 ?_
    refine x_Sl (rest := [.long v4, .ref (gad g 0)]) C hW (c_X4_power l g h) km_X4_power qm_X4_279 ⟨rfl, rfl⟩ (by decide) rfl hl.1 rfl (Nat.le_of_ble_eq_true rfl) ⟨Nat.zero_le _, Nat.zero_le _⟩ dX4_mid_75 (fun r6 u6 H locs h hW => ?_)
    refine x_Vv (rest := []) C hW (c_X4_tellFraction l g h) km_X4_tellFraction oKeys rfl qm_X4_283 ⟨rfl, rfl⟩ (by decide) rfl hl.1 rfl (Nat.le_of_ble_eq_true rfl) ⟨Nat.zero_le _, Nat.zero_le _⟩ dX4_mid_78 (fun u7 H locs h hW => ?_)
    refine lv_iconst (v := 1) C.1 C.2.1 dX4_mid_81 (by decide) ?_
    exact x_iret C hW h dX4_mid_82
  · have h := h.2 c5
    refine lv_lload C.1 C.2.1 dX4_mid_36 (lv_at hl 3 rfl) ?_
    refine lv_aload_n C.1 C.2.1 dX4_mid_38 rfl (lv_at hl 0 rfl) ?_
    refine lv_iload C.1 C.2.1 dX4_mid_39 (lv_at hl 4 rfl) ?_
    refine x_Vi (rest := [.long v4]) C hW (c_X4_ghostsOf l g h) km_X4_ghostsOf oKeys rfl qm_X4_260 ⟨rfl, rfl⟩ (by decide) rfl hl.1 rfl (Nat.le_of_ble_eq_true rfl) ⟨Nat.zero_le _, Nat.zero_le _⟩ dX4_mid_41 (fun r8 u8 H locs h hW => ?_)
    refine lv_i2l (v := r8.toInt64) C.1 C.2.1 dX4_mid_44 rfl ?_
    refine lv_aload_n C.1 C.2.1 dX4_mid_45 rfl (lv_at hl 0 rfl) ?_
    refine lv_iload C.1 C.2.1 dX4_mid_46 (lv_at hl 4 rfl) ?_
    refine lv_iload_n C.1 C.2.1 dX4_mid_48 rfl (lv_at hl 1 rfl) ?_
    refine x_Vl (rest := [.long r8.toInt64, .long v4]) C hW (c_X4_weight l g h) km_X4_weight oKeys rfl qm_X4_273 ⟨rfl, rfl⟩ (by decide) rfl hl.1 rfl (Nat.le_of_ble_eq_true rfl) ⟨Nat.zero_le _, Nat.zero_le _⟩ dX4_mid_49 (fun r9 u9 H locs h hW => ?_)
    refine lv_lmul C.1 C.2.1 dX4_mid_52 ?_
    refine lv_ladd C.1 C.2.1 dX4_mid_53 ?_
    refine lv_lstore (lv' := [(4, .long (v4 + (r8.toInt64 * r9))), (0, .ref (gad g 0)), (1, .int p1), (3, .int v3), (6, .int v6)]) C.1 C.2.1 dX4_mid_54 hl (by decide) rfl (fun ls hl => ?_)
    refine lv_iinc (v := (v6 + 1)) (lv' := [(6, .int (v6 + 1)), (4, .long (v4 + (r8.toInt64 * r9))), (0, .ref (gad g 0)), (1, .int p1), (3, .int v3)]) C.1 C.2.1 dX4_mid_56 hl (k := 4) rfl rfl (by decide) rfl (fun ls hl => ?_)
    refine lv_goto (tgt := 30) C.1 C.2.1 dX4_mid_59 (by decide) ?_
    exact hK30 v3 (v4 + (r8.toInt64 * r9)) (v6 + 1) u9 _ _ _ h hW (lv_sub hl [2, 3, 4, 1, 0] rfl)
theorem k_X4_mid_L30 {p : Program} {l : Launch} {e : Env} {s : State} {m : MethodId} {args : Array Value} {below : List Frame} {meth : Method} {c : Code} {g : GG} {A : Nat → Prop} {p1 : Int32} {Q : Int32 → St → Prop} (C : MC p s m args meth c cX4_mid 7 RX4 (some .int) g A) : ∀ (n : Nat), ∀ (v3 : Int32) (v4 : Int64) (v6 : Int32) (u : St) (H : Heap) (locs : List Loc) (ls : Array Slot), wp_X4_mid_L30 p1 Q n v3 v4 v6 u → WD g A s u H locs → lv_has ls 7 [(0, .ref (gad g 0)), (1, .int p1), (3, .int v3), (4, .long v4), (6, .int v6)] → W p l e rm_X4_mid s m args below meth c H locs 0 0 (MQ below (va_Qi Q (WQ g) A) args s 0 0 A) (F0 m 30 ls []) := by
  intro n
  induction n with
  | zero => intro v3 v4 v6 u H locs ls h; exact False.elim h
  | succ n ih => exact k_X4_mid_B30 (p1 := p1) C ih
set_option maxRecDepth 100000 in
theorem c_X4_mid (l : Launch) (g : GG) {p1 : Int32} {u : St} {Q : Int32 → St → Prop} (h : wp_X4_mid p1 u Q) : CI l yX4_mid cX4_mid 7 (some .int) rm_X4_mid g [.ref (gad g 0), .int p1] u Q := by
  refine ent (own := RX4) (Qc := va_Qi Q (WQ g)) (by decide) rfl (Nat.le_of_ble_eq_true rfl) ?_
  intro p e s m below meth c A ls C hl hW
  have hl : lv_has ls 7 [(0, .ref (gad g 0)), (1, .int p1)] := hl
  unfold wp_X4_mid at h
  refine lv_aload_n C.1 C.2.1 dX4_mid_0 rfl (lv_at hl 0 rfl) ?_
  refine lv_iload_n C.1 C.2.1 dX4_mid_1 rfl (lv_at hl 1 rfl) ?_
  refine x_Vi (rest := []) C hW (c_X4_refuseChance l g h) km_X4_refuseChance oKeys rfl qm_X4_270 ⟨rfl, rfl⟩ (by decide) rfl hl.1 rfl (Nat.le_of_ble_eq_true rfl) ⟨Nat.zero_le _, Nat.zero_le _⟩ dX4_mid_2 (fun r1 u1 H locs h hW => ?_)
  refine lv_istore_n (lv' := [(2, .int r1), (0, .ref (gad g 0)), (1, .int p1)]) C.1 C.2.1 dX4_mid_5 rfl hl (by decide) rfl (fun ls hl => ?_)
  refine lv_iload_n C.1 C.2.1 dX4_mid_6 rfl (lv_at hl 0 rfl) ?_
  refine lv_if_eq (tgt := 12) C.1 C.2.1 dX4_mid_7 (by decide) (fun c2 => ?_) (fun c2 => ?_)
  · have h := h.1 c2
    refine lv_aload_n C.1 C.2.1 dX4_mid_12 rfl (lv_at hl 1 rfl) ?_
    refine x_Vv (rest := []) C hW (c_X4_fillBySet l g h) km_X4_fillBySet oKeys rfl qm_X4_225 ⟨rfl, rfl⟩ (by decide) rfl hl.1 rfl (Nat.le_of_ble_eq_true rfl) ⟨Nat.zero_le _, Nat.zero_le _⟩ dX4_mid_13 (fun u3 H locs h hW => ?_)
    refine lv_aload_n C.1 C.2.1 dX4_mid_16 rfl (lv_at hl 1 rfl) ?_
    refine fg_X4_27 C hW dX4_mid_17 ?_
    refine x_Vi (rest := []) C hW (c_X0_sets l g (Or.inl rfl) h) km_X0_sets (oLay (Or.inl rfl)) rfl qm_X4_216 ⟨rfl, rfl⟩ (by decide) rfl hl.1 rfl (Nat.le_of_ble_eq_true rfl) ⟨Nat.zero_le _, Nat.zero_le _⟩ dX4_mid_20 (fun r4 u4 H locs h hW => ?_)
    refine lv_istore_n (lv' := [(3, .int r4), (2, .int r1), (0, .ref (gad g 0)), (1, .int p1)]) C.1 C.2.1 dX4_mid_23 rfl hl (by decide) rfl (fun ls hl => ?_)
    refine lv_lconst (v := 0) C.1 C.2.1 dX4_mid_24 (by decide) ?_
    refine lv_lstore (lv' := [(4, .long 0), (3, .int r4), (2, .int r1), (0, .ref (gad g 0)), (1, .int p1)]) C.1 C.2.1 dX4_mid_25 hl (by decide) rfl (fun ls hl => ?_)
    refine lv_iconst (v := 0) C.1 C.2.1 dX4_mid_27 (by decide) ?_
    refine lv_istore (lv' := [(6, .int 0), (4, .long 0), (3, .int r4), (2, .int r1), (0, .ref (gad g 0)), (1, .int p1)]) C.1 C.2.1 dX4_mid_28 hl (by decide) rfl (fun ls hl => ?_)
    obtain ⟨n, h⟩ := h
    exact k_X4_mid_L30 C n r4 0 0 u4 _ _ _ h hW (lv_sub hl [4, 5, 2, 1, 0] rfl)
  · have h := h.2 c2
    refine lv_iload_n C.1 C.2.1 dX4_mid_10 rfl (lv_at hl 0 rfl) ?_
    exact x_iret C hW h dX4_mid_11
set_option maxRecDepth 100000 in
theorem k_X4_odds_B30 {p : Program} {l : Launch} {e : Env} {s : State} {m : MethodId} {args : Array Value} {below : List Frame} {meth : Method} {c : Code} {g : GG} {A : Nat → Prop} {p1 : Int32} {Q : Int32 → St → Prop} (C : MC p s m args meth c cX4_odds 7 RX4 (some .int) g A) {K30 : Int32 → Int64 → Int32 → St → Prop} (hK30 : ∀ (v3 : Int32) (v4 : Int64) (v6 : Int32) (u : St) (H : Heap) (locs : List Loc) (ls : Array Slot), K30 v3 v4 v6 u → WD g A s u H locs → lv_has ls 7 [(0, .ref (gad g 0)), (1, .int p1), (3, .int v3), (4, .long v4), (6, .int v6)] → W p l e rm_X4_odds s m args below meth c H locs 0 0 (MQ below (va_Qi Q (WQ g) A) args s 0 0 A) (F0 m 30 ls [])) : ∀ (v3 : Int32) (v4 : Int64) (v6 : Int32) (u : St) (H : Heap) (locs : List Loc) (ls : Array Slot), wp_X4_odds_B30 p1 Q K30 v3 v4 v6 u → WD g A s u H locs → lv_has ls 7 [(0, .ref (gad g 0)), (1, .int p1), (3, .int v3), (4, .long v4), (6, .int v6)] → W p l e rm_X4_odds s m args below meth c H locs 0 0 (MQ below (va_Qi Q (WQ g) A) args s 0 0 A) (F0 m 30 ls []) := by
  intro v3 v4 v6 u H locs ls h hW hl
  refine lv_iload C.1 C.2.1 dX4_odds_30 (lv_at hl 4 rfl) ?_
  refine lv_iload_n C.1 C.2.1 dX4_odds_32 rfl (lv_at hl 2 rfl) ?_
  refine lv_icmp_ge (tgt := 66) C.1 C.2.1 dX4_odds_33 (by decide) (fun c5 => ?_) (fun c5 => ?_)
  · have h := h.1 c5
    refine lv_aload_n C.1 C.2.1 dX4_odds_66 rfl (lv_at hl 0 rfl) ?_
    refine lv_lload C.1 C.2.1 dX4_odds_67 (lv_at hl 3 rfl) ?_
    refine lv_ldc2 (v := 12) C.1 C.2.1 C.2.2.2.1 (C.2.2.2.2.1 _ qk_X4_277) dX4_odds_69 ?_
    refine lv_aload_n C.1 C.2.1 dX4_odds_72 rfl (lv_at hl 0 rfl) ?_
    refine fg_X4_27 C hW dX4_odds_73 ?_
    refine fg_X4_137 C hW (Or.inl rfl) dX4_odds_76 ?_
    refine x_Sl (rest := [.long v4, .ref (gad g 0)]) C hW (c_X4_power l g h) km_X4_power qm_X4_279 ⟨rfl, rfl⟩ (by decide) rfl hl.1 rfl (Nat.le_of_ble_eq_true rfl) ⟨Nat.zero_le _, Nat.zero_le _⟩ dX4_odds_79 (fun r6 u6 H locs h hW => ?_)
    refine x_Vv (rest := []) C hW (c_X4_tellFraction l g h) km_X4_tellFraction oKeys rfl qm_X4_283 ⟨rfl, rfl⟩ (by decide) rfl hl.1 rfl (Nat.le_of_ble_eq_true rfl) ⟨Nat.zero_le _, Nat.zero_le _⟩ dX4_odds_82 (fun u7 H locs h hW => ?_)
    refine lv_iconst (v := 1) C.1 C.2.1 dX4_odds_85 (by decide) ?_
    exact x_iret C hW h dX4_odds_86
  · have h := h.2 c5
    refine lv_aload_n C.1 C.2.1 dX4_odds_36 rfl (lv_at hl 0 rfl) ?_
    refine fg_X4_51 C hW dX4_odds_37 ?_
    refine lv_iload C.1 C.2.1 dX4_odds_40 (lv_at hl 4 rfl) ?_
    obtain ⟨h8, h⟩ := h
    refine x_iald C hW g_30 h8 dX4_odds_42 ?_
    refine lv_iload C.1 C.2.1 dX4_odds_43 (lv_at hl 4 rfl) ?_
    refine lv_icmp_ne (tgt := 60) C.1 C.2.1 dX4_odds_45 (by decide) (fun c9 => ?_) (fun c9 => ?_)
    · have h := h.1 c9
      refine lv_iinc (v := (v6 + 1)) (lv' := [(6, .int (v6 + 1)), (0, .ref (gad g 0)), (1, .int p1), (3, .int v3), (4, .long v4)]) C.1 C.2.1 dX4_odds_60 hl (k := 4) rfl rfl (by decide) rfl (fun ls hl => ?_)
      refine lv_goto (tgt := 30) C.1 C.2.1 dX4_odds_63 (by decide) ?_
      exact hK30 v3 v4 (v6 + 1) u _ _ _ h hW (lv_sub hl [1, 2, 3, 4, 0] rfl)
    · have h := h.2 c9
      refine lv_lload C.1 C.2.1 dX4_odds_48 (lv_at hl 3 rfl) ?_
      refine lv_aload_n C.1 C.2.1 dX4_odds_50 rfl (lv_at hl 0 rfl) ?_
      refine lv_iload C.1 C.2.1 dX4_odds_51 (lv_at hl 4 rfl) ?_
      refine lv_iload_n C.1 C.2.1 dX4_odds_53 rfl (lv_at hl 1 rfl) ?_
      refine x_Vl (rest := [.long v4]) C hW (c_X4_weight l g h) km_X4_weight oKeys rfl qm_X4_273 ⟨rfl, rfl⟩ (by decide) rfl hl.1 rfl (Nat.le_of_ble_eq_true rfl) ⟨Nat.zero_le _, Nat.zero_le _⟩ dX4_odds_54 (fun r10 u10 H locs h hW => ?_)
      refine lv_ladd C.1 C.2.1 dX4_odds_57 ?_
      refine lv_lstore (lv' := [(4, .long (v4 + r10)), (0, .ref (gad g 0)), (1, .int p1), (3, .int v3), (6, .int v6)]) C.1 C.2.1 dX4_odds_58 hl (by decide) rfl (fun ls hl => ?_)
      refine lv_iinc (v := (v6 + 1)) (lv' := [(6, .int (v6 + 1)), (4, .long (v4 + r10)), (0, .ref (gad g 0)), (1, .int p1), (3, .int v3)]) C.1 C.2.1 dX4_odds_60 hl (k := 4) rfl rfl (by decide) rfl (fun ls hl => ?_)
      refine lv_goto (tgt := 30) C.1 C.2.1 dX4_odds_63 (by decide) ?_
      exact hK30 v3 (v4 + r10) (v6 + 1) u10 _ _ _ h hW (lv_sub hl [2, 3, 4, 1, 0] rfl)
theorem k_X4_odds_L30 {p : Program} {l : Launch} {e : Env} {s : State} {m : MethodId} {args : Array Value} {below : List Frame} {meth : Method} {c : Code} {g : GG} {A : Nat → Prop} {p1 : Int32} {Q : Int32 → St → Prop} (C : MC p s m args meth c cX4_odds 7 RX4 (some .int) g A) : ∀ (n : Nat), ∀ (v3 : Int32) (v4 : Int64) (v6 : Int32) (u : St) (H : Heap) (locs : List Loc) (ls : Array Slot), wp_X4_odds_L30 p1 Q n v3 v4 v6 u → WD g A s u H locs → lv_has ls 7 [(0, .ref (gad g 0)), (1, .int p1), (3, .int v3), (4, .long v4), (6, .int v6)] → W p l e rm_X4_odds s m args below meth c H locs 0 0 (MQ below (va_Qi Q (WQ g) A) args s 0 0 A) (F0 m 30 ls []) := by
  intro n
  induction n with
  | zero => intro v3 v4 v6 u H locs ls h; exact False.elim h
  | succ n ih => exact k_X4_odds_B30 (p1 := p1) C ih
set_option maxRecDepth 100000 in
theorem c_X4_odds (l : Launch) (g : GG) {p1 : Int32} {u : St} {Q : Int32 → St → Prop} (h : wp_X4_odds p1 u Q) : CI l yX4_odds cX4_odds 7 (some .int) rm_X4_odds g [.ref (gad g 0), .int p1] u Q := by
  refine ent (own := RX4) (Qc := va_Qi Q (WQ g)) (by decide) rfl (Nat.le_of_ble_eq_true rfl) ?_
  intro p e s m below meth c A ls C hl hW
  have hl : lv_has ls 7 [(0, .ref (gad g 0)), (1, .int p1)] := hl
  unfold wp_X4_odds at h
  refine lv_aload_n C.1 C.2.1 dX4_odds_0 rfl (lv_at hl 0 rfl) ?_
  refine lv_iload_n C.1 C.2.1 dX4_odds_1 rfl (lv_at hl 1 rfl) ?_
  refine x_Vi (rest := []) C hW (c_X4_refuseChance l g h) km_X4_refuseChance oKeys rfl qm_X4_270 ⟨rfl, rfl⟩ (by decide) rfl hl.1 rfl (Nat.le_of_ble_eq_true rfl) ⟨Nat.zero_le _, Nat.zero_le _⟩ dX4_odds_2 (fun r1 u1 H locs h hW => ?_)
  refine lv_istore_n (lv' := [(2, .int r1), (0, .ref (gad g 0)), (1, .int p1)]) C.1 C.2.1 dX4_odds_5 rfl hl (by decide) rfl (fun ls hl => ?_)
  refine lv_iload_n C.1 C.2.1 dX4_odds_6 rfl (lv_at hl 0 rfl) ?_
  refine lv_if_eq (tgt := 12) C.1 C.2.1 dX4_odds_7 (by decide) (fun c2 => ?_) (fun c2 => ?_)
  · have h := h.1 c2
    refine lv_aload_n C.1 C.2.1 dX4_odds_12 rfl (lv_at hl 1 rfl) ?_
    refine x_Vv (rest := []) C hW (c_X4_fillBySet l g h) km_X4_fillBySet oKeys rfl qm_X4_225 ⟨rfl, rfl⟩ (by decide) rfl hl.1 rfl (Nat.le_of_ble_eq_true rfl) ⟨Nat.zero_le _, Nat.zero_le _⟩ dX4_odds_13 (fun u3 H locs h hW => ?_)
    refine lv_aload_n C.1 C.2.1 dX4_odds_16 rfl (lv_at hl 1 rfl) ?_
    refine fg_X4_27 C hW dX4_odds_17 ?_
    refine x_Vi (rest := []) C hW (c_X0_sets l g (Or.inl rfl) h) km_X0_sets (oLay (Or.inl rfl)) rfl qm_X4_216 ⟨rfl, rfl⟩ (by decide) rfl hl.1 rfl (Nat.le_of_ble_eq_true rfl) ⟨Nat.zero_le _, Nat.zero_le _⟩ dX4_odds_20 (fun r4 u4 H locs h hW => ?_)
    refine lv_istore_n (lv' := [(3, .int r4), (2, .int r1), (0, .ref (gad g 0)), (1, .int p1)]) C.1 C.2.1 dX4_odds_23 rfl hl (by decide) rfl (fun ls hl => ?_)
    refine lv_lconst (v := 0) C.1 C.2.1 dX4_odds_24 (by decide) ?_
    refine lv_lstore (lv' := [(4, .long 0), (3, .int r4), (2, .int r1), (0, .ref (gad g 0)), (1, .int p1)]) C.1 C.2.1 dX4_odds_25 hl (by decide) rfl (fun ls hl => ?_)
    refine lv_iconst (v := 0) C.1 C.2.1 dX4_odds_27 (by decide) ?_
    refine lv_istore (lv' := [(6, .int 0), (4, .long 0), (3, .int r4), (2, .int r1), (0, .ref (gad g 0)), (1, .int p1)]) C.1 C.2.1 dX4_odds_28 hl (by decide) rfl (fun ls hl => ?_)
    obtain ⟨n, h⟩ := h
    exact k_X4_odds_L30 C n r4 0 0 u4 _ _ _ h hW (lv_sub hl [4, 5, 2, 1, 0] rfl)
  · have h := h.2 c2
    refine lv_iload_n C.1 C.2.1 dX4_odds_10 rfl (lv_at hl 0 rfl) ?_
    exact x_iret C hW h dX4_odds_11
set_option maxRecDepth 100000 in
theorem k_X4_replay_B18 {p : Program} {l : Launch} {e : Env} {s : State} {m : MethodId} {args : Array Value} {below : List Frame} {meth : Method} {c : Code} {g : GG} {A : Nat → Prop} {Q : St → Prop} (C : MC p s m args meth c cX4_replay 3 RX4 none g A) {K18 : Int32 → Int32 → St → Prop} (hK18 : ∀ (v1 : Int32) (v2 : Int32) (u : St) (H : Heap) (locs : List Loc) (ls : Array Slot), K18 v1 v2 u → WD g A s u H locs → lv_has ls 3 [(0, .ref (gad g 0)), (1, .int v1), (2, .int v2)] → W p l e rm_X4_replay s m args below meth c H locs 0 0 (MQ below (va_Qv Q (WQ g) A) args s 0 0 A) (F0 m 18 ls [])) : ∀ (v1 : Int32) (v2 : Int32) (u : St) (H : Heap) (locs : List Loc) (ls : Array Slot), wp_X4_replay_B18 Q K18 v1 v2 u → WD g A s u H locs → lv_has ls 3 [(0, .ref (gad g 0)), (1, .int v1), (2, .int v2)] → W p l e rm_X4_replay s m args below meth c H locs 0 0 (MQ below (va_Qv Q (WQ g) A) args s 0 0 A) (F0 m 18 ls []) := by
  intro v1 v2 u H locs ls h hW hl
  refine lv_iload_n C.1 C.2.1 dX4_replay_18 rfl (lv_at hl 2 rfl) ?_
  refine lv_iload_n C.1 C.2.1 dX4_replay_19 rfl (lv_at hl 1 rfl) ?_
  refine lv_icmp_ge (tgt := 45) C.1 C.2.1 dX4_replay_20 (by decide) (fun c3 => ?_) (fun c3 => ?_)
  · have h := h.1 c3
    exact x_vret C hW h dX4_replay_45
  · have h := h.2 c3
    refine lv_aload_n C.1 C.2.1 dX4_replay_23 rfl (lv_at hl 0 rfl) ?_
    refine fg_X4_37 C hW dX4_replay_24 ?_
    refine lv_aload_n C.1 C.2.1 dX4_replay_27 rfl (lv_at hl 0 rfl) ?_
    refine fg_X4_21 C hW dX4_replay_28 ?_
    refine lv_iconst (v := 3) C.1 C.2.1 dX4_replay_31 (by decide) ?_
    refine lv_iload_n C.1 C.2.1 dX4_replay_32 rfl (lv_at hl 2 rfl) ?_
    refine x_Vi (rest := [.ref (gad g 20)]) C hW (c_X2_get l g (Or.inr (Or.inr rfl)) h) km_X2_get (oShf (Or.inr (Or.inr rfl))) rfl qm_X4_93 ⟨rfl, rfl⟩ (by decide) rfl hl.1 rfl (Nat.le_of_ble_eq_true rfl) ⟨Nat.zero_le _, Nat.zero_le _⟩ dX4_replay_33 (fun r4 u4 H locs h hW => ?_)
    refine x_Vv (rest := []) C hW (c_X1_undergo l g (Or.inl rfl) h) km_X1_undergo (oMom (Or.inl rfl)) rfl qm_X4_322 ⟨rfl, rfl⟩ (by decide) rfl hl.1 rfl (Nat.le_of_ble_eq_true rfl) ⟨Nat.zero_le _, Nat.zero_le _⟩ dX4_replay_36 (fun u5 H locs h hW => ?_)
    refine lv_iinc (v := (v2 + 1)) (lv' := [(2, .int (v2 + 1)), (0, .ref (gad g 0)), (1, .int v1)]) C.1 C.2.1 dX4_replay_39 hl (k := 2) rfl rfl (by decide) rfl (fun ls hl => ?_)
    refine lv_goto (tgt := 18) C.1 C.2.1 dX4_replay_42 (by decide) ?_
    exact hK18 v1 (v2 + 1) u5 _ _ _ h hW (lv_sub hl [1, 2, 0] rfl)
theorem k_X4_replay_L18 {p : Program} {l : Launch} {e : Env} {s : State} {m : MethodId} {args : Array Value} {below : List Frame} {meth : Method} {c : Code} {g : GG} {A : Nat → Prop} {Q : St → Prop} (C : MC p s m args meth c cX4_replay 3 RX4 none g A) : ∀ (n : Nat), ∀ (v1 : Int32) (v2 : Int32) (u : St) (H : Heap) (locs : List Loc) (ls : Array Slot), wp_X4_replay_L18 Q n v1 v2 u → WD g A s u H locs → lv_has ls 3 [(0, .ref (gad g 0)), (1, .int v1), (2, .int v2)] → W p l e rm_X4_replay s m args below meth c H locs 0 0 (MQ below (va_Qv Q (WQ g) A) args s 0 0 A) (F0 m 18 ls []) := by
  intro n
  induction n with
  | zero => intro v1 v2 u H locs ls h; exact False.elim h
  | succ n ih => exact k_X4_replay_B18 C ih
set_option maxRecDepth 100000 in
theorem c_X4_replay (l : Launch) (g : GG) {u : St} {Q : St → Prop} (h : wp_X4_replay u Q) : CV l yX4_replay cX4_replay 3 none rm_X4_replay g [.ref (gad g 0)] u Q := by
  refine ent (own := RX4) (Qc := va_Qv Q (WQ g)) (by decide) rfl (Nat.le_of_ble_eq_true rfl) ?_
  intro p e s m below meth c A ls C hl hW
  have hl : lv_has ls 3 [(0, .ref (gad g 0))] := hl
  unfold wp_X4_replay at h
  refine lv_aload_n C.1 C.2.1 dX4_replay_0 rfl (lv_at hl 0 rfl) ?_
  refine fg_X4_37 C hW dX4_replay_1 ?_
  refine x_Vv (rest := []) C hW (c_X1_reset l g (Or.inl rfl) h) km_X1_reset (oMom (Or.inl rfl)) rfl qm_X4_134 ⟨rfl, rfl⟩ (by decide) rfl hl.1 rfl (Nat.le_of_ble_eq_true rfl) ⟨Nat.zero_le _, Nat.zero_le _⟩ dX4_replay_4 (fun u1 H locs h hW => ?_)
  refine lv_aload_n C.1 C.2.1 dX4_replay_7 rfl (lv_at hl 0 rfl) ?_
  refine fg_X4_21 C hW dX4_replay_8 ?_
  refine lv_iconst (v := 3) C.1 C.2.1 dX4_replay_11 (by decide) ?_
  refine x_Vi (rest := []) C hW (c_X2_size l g (Or.inr (Or.inr rfl)) h) km_X2_size (oShf (Or.inr (Or.inr rfl))) rfl qm_X4_120 ⟨rfl, rfl⟩ (by decide) rfl hl.1 rfl (Nat.le_of_ble_eq_true rfl) ⟨Nat.zero_le _, Nat.zero_le _⟩ dX4_replay_12 (fun r2 u2 H locs h hW => ?_)
  refine lv_istore_n (lv' := [(1, .int r2), (0, .ref (gad g 0))]) C.1 C.2.1 dX4_replay_15 rfl hl (by decide) rfl (fun ls hl => ?_)
  refine lv_iconst (v := 0) C.1 C.2.1 dX4_replay_16 (by decide) ?_
  refine lv_istore_n (lv' := [(2, .int 0), (1, .int r2), (0, .ref (gad g 0))]) C.1 C.2.1 dX4_replay_17 rfl hl (by decide) rfl (fun ls hl => ?_)
  obtain ⟨n, h⟩ := h
  exact k_X4_replay_L18 C n r2 0 u2 _ _ _ h hW (lv_sub hl [2, 1, 0] rfl)
set_option maxRecDepth 100000 in
theorem c_X4_on (l : Launch) (g : GG) {p1 : Int32} {u : St} {Q : Int32 → St → Prop} (h : wp_X4_on p1 u Q) : CI l yX4_on cX4_on 2 (some .int) rm_X4_on g [.ref (gad g 0), .int p1] u Q := by
  refine ent (own := RX4) (Qc := va_Qi Q (WQ g)) (by decide) rfl (Nat.le_of_ble_eq_true rfl) ?_
  intro p e s m below meth c A ls C hl hW
  have hl : lv_has ls 2 [(0, .ref (gad g 0)), (1, .int p1)] := hl
  unfold wp_X4_on at h
  refine lv_iload_n C.1 C.2.1 dX4_on_0 rfl (lv_at hl 1 rfl) ?_
  refine lv_iconst (v := 3) C.1 C.2.1 dX4_on_1 (by decide) ?_
  refine x_Si (rest := []) C hW (c_X4_within l g h) km_X4_within qm_X4_81 ⟨rfl, rfl⟩ (by decide) rfl hl.1 rfl (Nat.le_of_ble_eq_true rfl) ⟨Nat.zero_le _, Nat.zero_le _⟩ dX4_on_2 (fun r1 u1 H locs h hW => ?_)
  refine lv_if_ne (tgt := 10) C.1 C.2.1 dX4_on_5 (by decide) (fun c2 => ?_) (fun c2 => ?_)
  · have h := h.1 c2
    refine lv_aload_n C.1 C.2.1 dX4_on_10 rfl (lv_at hl 0 rfl) ?_
    refine fg_X4_21 C hW dX4_on_11 ?_
    refine lv_iload_n C.1 C.2.1 dX4_on_14 rfl (lv_at hl 1 rfl) ?_
    refine x_Vi (rest := []) C hW (c_X2_has l g (Or.inr (Or.inr rfl)) h) km_X2_has (oShf (Or.inr (Or.inr rfl))) rfl qm_X4_108 ⟨rfl, rfl⟩ (by decide) rfl hl.1 rfl (Nat.le_of_ble_eq_true rfl) ⟨Nat.zero_le _, Nat.zero_le _⟩ dX4_on_15 (fun r3 u3 H locs h hW => ?_)
    refine lv_if_ne (tgt := 27) C.1 C.2.1 dX4_on_18 (by decide) (fun c4 => ?_) (fun c4 => ?_)
    · have h := h.1 c4
      refine lv_aload_n C.1 C.2.1 dX4_on_27 rfl (lv_at hl 0 rfl) ?_
      refine fg_X4_21 C hW dX4_on_28 ?_
      refine lv_iload_n C.1 C.2.1 dX4_on_31 rfl (lv_at hl 1 rfl) ?_
      refine lv_iconst (v := 3) C.1 C.2.1 dX4_on_32 (by decide) ?_
      refine x_Vv (rest := []) C hW (c_X2_moveAll l g (Or.inr (Or.inr rfl)) h) km_X2_moveAll (oShf (Or.inr (Or.inr rfl))) rfl qm_X4_200 ⟨rfl, rfl⟩ (by decide) rfl hl.1 rfl (Nat.le_of_ble_eq_true rfl) ⟨Nat.zero_le _, Nat.zero_le _⟩ dX4_on_33 (fun u5 H locs h hW => ?_)
      refine lv_aload_n C.1 C.2.1 dX4_on_36 rfl (lv_at hl 0 rfl) ?_
      refine x_Vv (rest := []) C hW (c_X4_replay l g h) km_X4_replay oKeys rfl qm_X4_197 ⟨rfl, rfl⟩ (by decide) rfl hl.1 rfl (Nat.le_of_ble_eq_true rfl) ⟨Nat.zero_le _, Nat.zero_le _⟩ dX4_on_37 (fun u6 H locs h hW => ?_)
      refine lv_aload_n C.1 C.2.1 dX4_on_40 rfl (lv_at hl 0 rfl) ?_
      refine fg_X4_21 C hW dX4_on_41 ?_
      refine lv_iconst (v := 3) C.1 C.2.1 dX4_on_44 (by decide) ?_
      refine x_Vi (rest := []) C hW (c_X2_size l g (Or.inr (Or.inr rfl)) h) km_X2_size (oShf (Or.inr (Or.inr rfl))) rfl qm_X4_120 ⟨rfl, rfl⟩ (by decide) rfl hl.1 rfl (Nat.le_of_ble_eq_true rfl) ⟨Nat.zero_le _, Nat.zero_le _⟩ dX4_on_45 (fun r7 u7 H locs h hW => ?_)
      exact x_iret C hW h dX4_on_48
    · have h := h.2 c4
      refine lv_aload_n C.1 C.2.1 dX4_on_21 rfl (lv_at hl 0 rfl) ?_
      refine lv_iconst (v := 1) C.1 C.2.1 dX4_on_22 (by decide) ?_
      refine x_Vi (rest := []) C hW (c_X4_found l g h) km_X4_found oKeys rfl qm_X4_85 ⟨rfl, rfl⟩ (by decide) rfl hl.1 rfl (Nat.le_of_ble_eq_true rfl) ⟨Nat.zero_le _, Nat.zero_le _⟩ dX4_on_23 (fun r8 u8 H locs h hW => ?_)
      exact x_iret C hW h dX4_on_26
  · have h := h.2 c2
    refine lv_iconst (v := (-1)) C.1 C.2.1 dX4_on_8 (by decide) ?_
    exact x_iret C hW h dX4_on_9
set_option maxRecDepth 100000 in
theorem k_X4_places_J120 {p : Program} {l : Launch} {e : Env} {s : State} {m : MethodId} {args : Array Value} {below : List Frame} {meth : Method} {c : Code} {g : GG} {A : Nat → Prop} {p1 : Int32} {p2 : Int32} {Q : Int32 → St → Prop} (C : MC p s m args meth c cX4_places 9 RX4 (some .int) g A) {K34 : Int32 → Int32 → Int32 → St → Prop} (hK34 : ∀ (v4 : Int32) (v5 : Int32) (v6 : Int32) (u : St) (H : Heap) (locs : List Loc) (ls : Array Slot), K34 v4 v5 v6 u → WD g A s u H locs → lv_has ls 9 [(0, .ref (gad g 0)), (1, .int p1), (2, .int p2), (4, .int v4), (5, .int v5), (6, .int v6)] → W p l e rm_X4_places s m args below meth c H locs 0 0 (MQ below (va_Qi Q (WQ g) A) args s 0 0 A) (F0 m 34 ls [])) {K43 : Int32 → Int32 → Int32 → Int32 → St → Prop} (hK43 : ∀ (v4 : Int32) (v5 : Int32) (v6 : Int32) (v7 : Int32) (u : St) (H : Heap) (locs : List Loc) (ls : Array Slot), K43 v4 v5 v6 v7 u → WD g A s u H locs → lv_has ls 9 [(0, .ref (gad g 0)), (1, .int p1), (2, .int p2), (4, .int v4), (5, .int v5), (6, .int v6), (7, .int v7)] → W p l e rm_X4_places s m args below meth c H locs 0 0 (MQ below (va_Qi Q (WQ g) A) args s 0 0 A) (F0 m 43 ls [])) : ∀ (v4 : Int32) (v6 : Int32) (v7 : Int32) (t0 : Int32) (u : St) (H : Heap) (locs : List Loc) (ls : Array Slot), wp_X4_places_J120 p1 p2 Q K34 K43 v4 v6 v7 t0 u → WD g A s u H locs → lv_has ls 9 [(0, .ref (gad g 0)), (1, .int p1), (2, .int p2), (4, .int v4), (6, .int v6), (7, .int v7)] → W p l e rm_X4_places s m args below meth c H locs 0 0 (MQ below (va_Qi Q (WQ g) A) args s 0 0 A) (F0 m 120 ls [.int t0]) := by
  intro v4 v6 v7 t0 u H locs ls h hW hl
  refine lv_istore (lv' := [(5, .int t0), (0, .ref (gad g 0)), (1, .int p1), (2, .int p2), (4, .int v4), (6, .int v6), (7, .int v7)]) C.1 C.2.1 dX4_places_120 hl (by decide) rfl (fun ls hl => ?_)
  refine lv_iinc (v := (v4 + 1)) (lv' := [(4, .int (v4 + 1)), (5, .int t0), (0, .ref (gad g 0)), (1, .int p1), (2, .int p2), (6, .int v6), (7, .int v7)]) C.1 C.2.1 dX4_places_122 hl (k := 4) rfl rfl (by decide) rfl (fun ls hl => ?_)
  refine lv_iinc (v := (v7 + 1)) (lv' := [(7, .int (v7 + 1)), (4, .int (v4 + 1)), (5, .int t0), (0, .ref (gad g 0)), (1, .int p1), (2, .int p2), (6, .int v6)]) C.1 C.2.1 dX4_places_125 hl (k := 6) rfl rfl (by decide) rfl (fun ls hl => ?_)
  refine lv_goto (tgt := 43) C.1 C.2.1 dX4_places_128 (by decide) ?_
  exact hK43 (v4 + 1) t0 v6 (v7 + 1) u _ _ _ h hW (lv_sub hl [3, 4, 5, 1, 2, 6, 0] rfl)
set_option maxRecDepth 100000 in
theorem k_X4_places_J88 {p : Program} {l : Launch} {e : Env} {s : State} {m : MethodId} {args : Array Value} {below : List Frame} {meth : Method} {c : Code} {g : GG} {A : Nat → Prop} {p1 : Int32} {p2 : Int32} {Q : Int32 → St → Prop} (C : MC p s m args meth c cX4_places 9 RX4 (some .int) g A) {K34 : Int32 → Int32 → Int32 → St → Prop} (hK34 : ∀ (v4 : Int32) (v5 : Int32) (v6 : Int32) (u : St) (H : Heap) (locs : List Loc) (ls : Array Slot), K34 v4 v5 v6 u → WD g A s u H locs → lv_has ls 9 [(0, .ref (gad g 0)), (1, .int p1), (2, .int p2), (4, .int v4), (5, .int v5), (6, .int v6)] → W p l e rm_X4_places s m args below meth c H locs 0 0 (MQ below (va_Qi Q (WQ g) A) args s 0 0 A) (F0 m 34 ls [])) {K43 : Int32 → Int32 → Int32 → Int32 → St → Prop} (hK43 : ∀ (v4 : Int32) (v5 : Int32) (v6 : Int32) (v7 : Int32) (u : St) (H : Heap) (locs : List Loc) (ls : Array Slot), K43 v4 v5 v6 v7 u → WD g A s u H locs → lv_has ls 9 [(0, .ref (gad g 0)), (1, .int p1), (2, .int p2), (4, .int v4), (5, .int v5), (6, .int v6), (7, .int v7)] → W p l e rm_X4_places s m args below meth c H locs 0 0 (MQ below (va_Qi Q (WQ g) A) args s 0 0 A) (F0 m 43 ls [])) : ∀ (v4 : Int32) (v5 : Int32) (v6 : Int32) (v7 : Int32) (u : St) (H : Heap) (locs : List Loc) (ls : Array Slot), wp_X4_places_J88 p1 p2 Q K34 K43 v4 v5 v6 v7 u → WD g A s u H locs → lv_has ls 9 [(0, .ref (gad g 0)), (1, .int p1), (2, .int p2), (4, .int v4), (5, .int v5), (6, .int v6), (7, .int v7)] → W p l e rm_X4_places s m args below meth c H locs 0 0 (MQ below (va_Qi Q (WQ g) A) args s 0 0 A) (F0 m 88 ls []) := by
  intro v4 v5 v6 v7 u H locs ls h hW hl
  refine lv_aload_n C.1 C.2.1 dX4_places_88 rfl (lv_at hl 0 rfl) ?_
  refine lv_aload_n C.1 C.2.1 dX4_places_89 rfl (lv_at hl 0 rfl) ?_
  refine fg_X4_31 C hW dX4_places_90 ?_
  refine lv_iload_n C.1 C.2.1 dX4_places_93 rfl (lv_at hl 2 rfl) ?_
  refine x_Vi (rest := []) C hW (c_X4_fits l g (Or.inr rfl) h) km_X4_fits oKeys rfl qm_X4_250 ⟨rfl, rfl⟩ (by decide) rfl hl.1 rfl (Nat.le_of_ble_eq_true rfl) ⟨Nat.zero_le _, Nat.zero_le _⟩ dX4_places_94 (fun r12 u12 H locs h hW => ?_)
  refine lv_if_eq (tgt := 125) C.1 C.2.1 dX4_places_97 (by decide) (fun c13 => ?_) (fun c13 => ?_)
  · have h := h.1 c13
    refine lv_iinc (v := (v7 + 1)) (lv' := [(7, .int (v7 + 1)), (0, .ref (gad g 0)), (1, .int p1), (2, .int p2), (4, .int v4), (5, .int v5), (6, .int v6)]) C.1 C.2.1 dX4_places_125 hl (k := 6) rfl rfl (by decide) rfl (fun ls hl => ?_)
    refine lv_goto (tgt := 43) C.1 C.2.1 dX4_places_128 (by decide) ?_
    exact hK43 v4 v5 v6 (v7 + 1) u12 _ _ _ h hW (lv_sub hl [1, 2, 3, 4, 5, 6, 0] rfl)
  · have h := h.2 c13
    refine lv_iload C.1 C.2.1 dX4_places_100 (lv_at hl 4 rfl) ?_
    refine lv_bipush (v := (-9)) C.1 C.2.1 dX4_places_102 (by decide) ?_
    refine lv_icmp_ne (tgt := 118) C.1 C.2.1 dX4_places_104 (by decide) (fun c14 => ?_) (fun c14 => ?_)
    · have h := h.1 c14
      refine lv_iload C.1 C.2.1 dX4_places_118 (lv_at hl 4 rfl) ?_
      exact k_X4_places_J120 C hK34 hK43 v4 v6 v7 v5 u12 _ _ _ h hW (lv_sub hl [0, 1, 2, 3, 5, 6] rfl)
    · have h := h.2 c14
      refine lv_bipush (v := 10) C.1 C.2.1 dX4_places_107 (by decide) ?_
      refine lv_iload C.1 C.2.1 dX4_places_109 (lv_at hl 5 rfl) ?_
      refine lv_imul C.1 C.2.1 dX4_places_111 ?_
      refine lv_iload C.1 C.2.1 dX4_places_112 (lv_at hl 6 rfl) ?_
      refine lv_iadd C.1 C.2.1 dX4_places_114 ?_
      refine lv_goto (tgt := 120) C.1 C.2.1 dX4_places_115 (by decide) ?_
      exact k_X4_places_J120 C hK34 hK43 v4 v6 v7 ((10 * v6) + v7) u12 _ _ _ h hW (lv_sub hl [0, 1, 2, 3, 5, 6] rfl)
set_option maxRecDepth 100000 in
theorem k_X4_places_B43 {p : Program} {l : Launch} {e : Env} {s : State} {m : MethodId} {args : Array Value} {below : List Frame} {meth : Method} {c : Code} {g : GG} {A : Nat → Prop} {p1 : Int32} {p2 : Int32} {Q : Int32 → St → Prop} (C : MC p s m args meth c cX4_places 9 RX4 (some .int) g A) {K34 : Int32 → Int32 → Int32 → St → Prop} (hK34 : ∀ (v4 : Int32) (v5 : Int32) (v6 : Int32) (u : St) (H : Heap) (locs : List Loc) (ls : Array Slot), K34 v4 v5 v6 u → WD g A s u H locs → lv_has ls 9 [(0, .ref (gad g 0)), (1, .int p1), (2, .int p2), (4, .int v4), (5, .int v5), (6, .int v6)] → W p l e rm_X4_places s m args below meth c H locs 0 0 (MQ below (va_Qi Q (WQ g) A) args s 0 0 A) (F0 m 34 ls [])) {K43 : Int32 → Int32 → Int32 → Int32 → St → Prop} (hK43 : ∀ (v4 : Int32) (v5 : Int32) (v6 : Int32) (v7 : Int32) (u : St) (H : Heap) (locs : List Loc) (ls : Array Slot), K43 v4 v5 v6 v7 u → WD g A s u H locs → lv_has ls 9 [(0, .ref (gad g 0)), (1, .int p1), (2, .int p2), (4, .int v4), (5, .int v5), (6, .int v6), (7, .int v7)] → W p l e rm_X4_places s m args below meth c H locs 0 0 (MQ below (va_Qi Q (WQ g) A) args s 0 0 A) (F0 m 43 ls [])) : ∀ (v4 : Int32) (v5 : Int32) (v6 : Int32) (v7 : Int32) (u : St) (H : Heap) (locs : List Loc) (ls : Array Slot), wp_X4_places_B43 p1 p2 Q K34 K43 v4 v5 v6 v7 u → WD g A s u H locs → lv_has ls 9 [(0, .ref (gad g 0)), (1, .int p1), (2, .int p2), (4, .int v4), (5, .int v5), (6, .int v6), (7, .int v7)] → W p l e rm_X4_places s m args below meth c H locs 0 0 (MQ below (va_Qi Q (WQ g) A) args s 0 0 A) (F0 m 43 ls []) := by
  intro v4 v5 v6 v7 u H locs ls h hW hl
  refine lv_iload C.1 C.2.1 dX4_places_43 (lv_at hl 6 rfl) ?_
  refine lv_bipush (v := 6) C.1 C.2.1 dX4_places_45 (by decide) ?_
  refine lv_icmp_ge (tgt := 131) C.1 C.2.1 dX4_places_47 (by decide) (fun c7 => ?_) (fun c7 => ?_)
  · have h := h.1 c7
    refine lv_iinc (v := (v6 + 1)) (lv' := [(6, .int (v6 + 1)), (0, .ref (gad g 0)), (1, .int p1), (2, .int p2), (4, .int v4), (5, .int v5), (7, .int v7)]) C.1 C.2.1 dX4_places_131 hl (k := 5) rfl rfl (by decide) rfl (fun ls hl => ?_)
    refine lv_goto (tgt := 34) C.1 C.2.1 dX4_places_134 (by decide) ?_
    exact hK34 v4 v5 (v6 + 1) u _ _ _ h hW (lv_sub hl [1, 2, 3, 4, 5, 0] rfl)
  · have h := h.2 c7
    refine lv_aload_n C.1 C.2.1 dX4_places_50 rfl (lv_at hl 0 rfl) ?_
    refine fg_X4_27 C hW dX4_places_51 ?_
    refine lv_iload C.1 C.2.1 dX4_places_54 (lv_at hl 5 rfl) ?_
    refine lv_iload C.1 C.2.1 dX4_places_56 (lv_at hl 6 rfl) ?_
    refine x_Vi (rest := []) C hW (c_X0_keyAt l g (Or.inl rfl) h) km_X0_keyAt (oLay (Or.inl rfl)) rfl qm_X4_244 ⟨rfl, rfl⟩ (by decide) rfl hl.1 rfl (Nat.le_of_ble_eq_true rfl) ⟨Nat.zero_le _, Nat.zero_le _⟩ dX4_places_58 (fun r8 u8 H locs h hW => ?_)
    refine lv_istore (lv' := [(8, .int r8), (0, .ref (gad g 0)), (1, .int p1), (2, .int p2), (4, .int v4), (5, .int v5), (6, .int v6), (7, .int v7)]) C.1 C.2.1 dX4_places_61 hl (by decide) rfl (fun ls hl => ?_)
    refine lv_aload_n C.1 C.2.1 dX4_places_63 rfl (lv_at hl 1 rfl) ?_
    refine fg_X4_31 C hW dX4_places_64 ?_
    refine lv_iload_n C.1 C.2.1 dX4_places_67 rfl (lv_at hl 2 rfl) ?_
    refine lv_iload C.1 C.2.1 dX4_places_68 (lv_at hl 6 rfl) ?_
    refine lv_iload C.1 C.2.1 dX4_places_70 (lv_at hl 7 rfl) ?_
    refine x_Vv (rest := []) C hW (c_X0_seat l g (Or.inr rfl) h) km_X0_seat (oLay (Or.inr rfl)) rfl qm_X4_247 ⟨rfl, rfl⟩ (by decide) rfl hl.1 rfl (Nat.le_of_ble_eq_true rfl) ⟨Nat.zero_le _, Nat.zero_le _⟩ dX4_places_72 (fun u9 H locs h hW => ?_)
    refine lv_iload C.1 C.2.1 dX4_places_75 (lv_at hl 0 rfl) ?_
    refine lv_bipush (v := (-9)) C.1 C.2.1 dX4_places_77 (by decide) ?_
    refine lv_icmp_eq (tgt := 88) C.1 C.2.1 dX4_places_79 (by decide) (fun c10 => ?_) (fun c10 => ?_)
    · have h := h.1 c10
      exact k_X4_places_J88 C hK34 hK43 v4 v5 v6 v7 u9 _ _ _ h hW (lv_sub hl [1, 2, 3, 4, 5, 6, 7] rfl)
    · have h := h.2 c10
      refine lv_iload C.1 C.2.1 dX4_places_82 (lv_at hl 0 rfl) ?_
      refine lv_iload_n C.1 C.2.1 dX4_places_84 rfl (lv_at hl 2 rfl) ?_
      refine lv_icmp_ne (tgt := 125) C.1 C.2.1 dX4_places_85 (by decide) (fun c11 => ?_) (fun c11 => ?_)
      · have h := h.1 c11
        refine lv_iinc (v := (v7 + 1)) (lv' := [(7, .int (v7 + 1)), (8, .int r8), (0, .ref (gad g 0)), (1, .int p1), (2, .int p2), (4, .int v4), (5, .int v5), (6, .int v6)]) C.1 C.2.1 dX4_places_125 hl (k := 7) rfl rfl (by decide) rfl (fun ls hl => ?_)
        refine lv_goto (tgt := 43) C.1 C.2.1 dX4_places_128 (by decide) ?_
        exact hK43 v4 v5 v6 (v7 + 1) u9 _ _ _ h hW (lv_sub hl [2, 3, 4, 5, 6, 7, 0] rfl)
      · have h := h.2 c11
        exact k_X4_places_J88 C hK34 hK43 v4 v5 v6 v7 u9 _ _ _ h hW (lv_sub hl [1, 2, 3, 4, 5, 6, 7] rfl)
theorem k_X4_places_L43 {p : Program} {l : Launch} {e : Env} {s : State} {m : MethodId} {args : Array Value} {below : List Frame} {meth : Method} {c : Code} {g : GG} {A : Nat → Prop} {p1 : Int32} {p2 : Int32} {Q : Int32 → St → Prop} (C : MC p s m args meth c cX4_places 9 RX4 (some .int) g A) {K34 : Int32 → Int32 → Int32 → St → Prop} (hK34 : ∀ (v4 : Int32) (v5 : Int32) (v6 : Int32) (u : St) (H : Heap) (locs : List Loc) (ls : Array Slot), K34 v4 v5 v6 u → WD g A s u H locs → lv_has ls 9 [(0, .ref (gad g 0)), (1, .int p1), (2, .int p2), (4, .int v4), (5, .int v5), (6, .int v6)] → W p l e rm_X4_places s m args below meth c H locs 0 0 (MQ below (va_Qi Q (WQ g) A) args s 0 0 A) (F0 m 34 ls [])) : ∀ (n : Nat), ∀ (v4 : Int32) (v5 : Int32) (v6 : Int32) (v7 : Int32) (u : St) (H : Heap) (locs : List Loc) (ls : Array Slot), wp_X4_places_L43 p1 p2 Q K34 n v4 v5 v6 v7 u → WD g A s u H locs → lv_has ls 9 [(0, .ref (gad g 0)), (1, .int p1), (2, .int p2), (4, .int v4), (5, .int v5), (6, .int v6), (7, .int v7)] → W p l e rm_X4_places s m args below meth c H locs 0 0 (MQ below (va_Qi Q (WQ g) A) args s 0 0 A) (F0 m 43 ls []) := by
  intro n
  induction n with
  | zero => intro v4 v5 v6 v7 u H locs ls h; exact False.elim h
  | succ n ih => exact k_X4_places_B43 (p1 := p1) (p2 := p2) C hK34 ih
set_option maxRecDepth 100000 in
theorem k_X4_places_B34 {p : Program} {l : Launch} {e : Env} {s : State} {m : MethodId} {args : Array Value} {below : List Frame} {meth : Method} {c : Code} {g : GG} {A : Nat → Prop} {p1 : Int32} {p2 : Int32} {Q : Int32 → St → Prop} (C : MC p s m args meth c cX4_places 9 RX4 (some .int) g A) {K34 : Int32 → Int32 → Int32 → St → Prop} (hK34 : ∀ (v4 : Int32) (v5 : Int32) (v6 : Int32) (u : St) (H : Heap) (locs : List Loc) (ls : Array Slot), K34 v4 v5 v6 u → WD g A s u H locs → lv_has ls 9 [(0, .ref (gad g 0)), (1, .int p1), (2, .int p2), (4, .int v4), (5, .int v5), (6, .int v6)] → W p l e rm_X4_places s m args below meth c H locs 0 0 (MQ below (va_Qi Q (WQ g) A) args s 0 0 A) (F0 m 34 ls [])) : ∀ (v4 : Int32) (v5 : Int32) (v6 : Int32) (u : St) (H : Heap) (locs : List Loc) (ls : Array Slot), wp_X4_places_B34 p1 p2 Q K34 v4 v5 v6 u → WD g A s u H locs → lv_has ls 9 [(0, .ref (gad g 0)), (1, .int p1), (2, .int p2), (4, .int v4), (5, .int v5), (6, .int v6)] → W p l e rm_X4_places s m args below meth c H locs 0 0 (MQ below (va_Qi Q (WQ g) A) args s 0 0 A) (F0 m 34 ls []) := by
  intro v4 v5 v6 u H locs ls h hW hl
  refine lv_iload C.1 C.2.1 dX4_places_34 (lv_at hl 5 rfl) ?_
  refine lv_iconst (v := 4) C.1 C.2.1 dX4_places_36 (by decide) ?_
  refine lv_icmp_ge (tgt := 137) C.1 C.2.1 dX4_places_37 (by decide) (fun c4 => ?_) (fun c4 => ?_)
  · have h := h.1 c4
    refine lv_iload C.1 C.2.1 dX4_places_137 (lv_at hl 3 rfl) ?_
    refine lv_if_ne (tgt := 145) C.1 C.2.1 dX4_places_139 (by decide) (fun c5 => ?_) (fun c5 => ?_)
    · have h := h.1 c5
      refine lv_aload_n C.1 C.2.1 dX4_places_145 rfl (lv_at hl 0 rfl) ?_
      refine lv_iload C.1 C.2.1 dX4_places_146 (lv_at hl 4 rfl) ?_
      refine fp_X4_67 C hW dX4_places_148 (fun u6 H locs e6 hW => ?_)
      have h := nxt_get h e6
      refine lv_iload C.1 C.2.1 dX4_places_151 (lv_at hl 3 rfl) ?_
      exact x_iret C hW h dX4_places_153
    · have h := h.2 c5
      refine lv_bipush (v := (-9)) C.1 C.2.1 dX4_places_142 (by decide) ?_
      exact x_iret C hW h dX4_places_144
  · have h := h.2 c4
    refine lv_iconst (v := 0) C.1 C.2.1 dX4_places_40 (by decide) ?_
    refine lv_istore (lv' := [(7, .int 0), (0, .ref (gad g 0)), (1, .int p1), (2, .int p2), (4, .int v4), (5, .int v5), (6, .int v6)]) C.1 C.2.1 dX4_places_41 hl (by decide) rfl (fun ls hl => ?_)
    obtain ⟨n, h⟩ := h
    exact k_X4_places_L43 C hK34 n v4 v5 v6 0 u _ _ _ h hW (lv_sub hl [1, 2, 3, 4, 5, 6, 0] rfl)
theorem k_X4_places_L34 {p : Program} {l : Launch} {e : Env} {s : State} {m : MethodId} {args : Array Value} {below : List Frame} {meth : Method} {c : Code} {g : GG} {A : Nat → Prop} {p1 : Int32} {p2 : Int32} {Q : Int32 → St → Prop} (C : MC p s m args meth c cX4_places 9 RX4 (some .int) g A) : ∀ (n : Nat), ∀ (v4 : Int32) (v5 : Int32) (v6 : Int32) (u : St) (H : Heap) (locs : List Loc) (ls : Array Slot), wp_X4_places_L34 p1 p2 Q n v4 v5 v6 u → WD g A s u H locs → lv_has ls 9 [(0, .ref (gad g 0)), (1, .int p1), (2, .int p2), (4, .int v4), (5, .int v5), (6, .int v6)] → W p l e rm_X4_places s m args below meth c H locs 0 0 (MQ below (va_Qi Q (WQ g) A) args s 0 0 A) (F0 m 34 ls []) := by
  intro n
  induction n with
  | zero => intro v4 v5 v6 u H locs ls h; exact False.elim h
  | succ n ih => exact k_X4_places_B34 (p1 := p1) (p2 := p2) C ih
set_option maxRecDepth 100000 in
theorem c_X4_places (l : Launch) (g : GG) {p1 : Int32} {p2 : Int32} {u : St} {Q : Int32 → St → Prop} (h : wp_X4_places p1 p2 u Q) : CI l yX4_places cX4_places 9 (some .int) rm_X4_places g [.ref (gad g 0), .int p1, .int p2] u Q := by
  refine ent (own := RX4) (Qc := va_Qi Q (WQ g)) (by decide) rfl (Nat.le_of_ble_eq_true rfl) ?_
  intro p e s m below meth c A ls C hl hW
  have hl : lv_has ls 9 [(0, .ref (gad g 0)), (1, .int p1), (2, .int p2)] := hl
  unfold wp_X4_places at h
  refine lv_aload_n C.1 C.2.1 dX4_places_0 rfl (lv_at hl 0 rfl) ?_
  refine lv_iload_n C.1 C.2.1 dX4_places_1 rfl (lv_at hl 1 rfl) ?_
  refine lv_iload_n C.1 C.2.1 dX4_places_2 rfl (lv_at hl 2 rfl) ?_
  refine x_Vi (rest := []) C hW (c_X4_refusePairs l g h) km_X4_refusePairs oKeys rfl qm_X4_238 ⟨rfl, rfl⟩ (by decide) rfl hl.1 rfl (Nat.le_of_ble_eq_true rfl) ⟨Nat.zero_le _, Nat.zero_le _⟩ dX4_places_3 (fun r1 u1 H locs h hW => ?_)
  refine lv_istore_n (lv' := [(3, .int r1), (0, .ref (gad g 0)), (1, .int p1), (2, .int p2)]) C.1 C.2.1 dX4_places_6 rfl hl (by decide) rfl (fun ls hl => ?_)
  refine lv_iload_n C.1 C.2.1 dX4_places_7 rfl (lv_at hl 0 rfl) ?_
  refine lv_if_eq (tgt := 13) C.1 C.2.1 dX4_places_8 (by decide) (fun c2 => ?_) (fun c2 => ?_)
  · have h := h.1 c2
    refine lv_iconst (v := 0) C.1 C.2.1 dX4_places_13 (by decide) ?_
    refine lv_istore (lv' := [(4, .int 0), (3, .int r1), (0, .ref (gad g 0)), (1, .int p1), (2, .int p2)]) C.1 C.2.1 dX4_places_14 hl (by decide) rfl (fun ls hl => ?_)
    refine lv_bipush (v := (-9)) C.1 C.2.1 dX4_places_16 (by decide) ?_
    refine lv_istore (lv' := [(5, .int (-9)), (4, .int 0), (3, .int r1), (0, .ref (gad g 0)), (1, .int p1), (2, .int p2)]) C.1 C.2.1 dX4_places_18 hl (by decide) rfl (fun ls hl => ?_)
    refine lv_aload_n C.1 C.2.1 dX4_places_20 rfl (lv_at hl 3 rfl) ?_
    refine fg_X4_31 C hW dX4_places_21 ?_
    refine lv_aload_n C.1 C.2.1 dX4_places_24 rfl (lv_at hl 3 rfl) ?_
    refine fg_X4_27 C hW dX4_places_25 ?_
    refine x_Vv (rest := []) C hW (c_X0_copyFrom l g (Or.inr rfl) (Or.inl rfl) h) km_X0_copyFrom (oLay (Or.inr rfl)) rfl qm_X4_130 ⟨rfl, rfl⟩ (by decide) rfl hl.1 rfl (Nat.le_of_ble_eq_true rfl) ⟨Nat.zero_le _, Nat.zero_le _⟩ dX4_places_28 (fun u3 H locs h hW => ?_)
    refine lv_iconst (v := 0) C.1 C.2.1 dX4_places_31 (by decide) ?_
    refine lv_istore (lv' := [(6, .int 0), (5, .int (-9)), (4, .int 0), (3, .int r1), (0, .ref (gad g 0)), (1, .int p1), (2, .int p2)]) C.1 C.2.1 dX4_places_32 hl (by decide) rfl (fun ls hl => ?_)
    obtain ⟨n, h⟩ := h
    exact k_X4_places_L34 C n 0 (-9) 0 u3 _ _ _ h hW (lv_sub hl [4, 5, 6, 2, 1, 0] rfl)
  · have h := h.2 c2
    refine lv_iload_n C.1 C.2.1 dX4_places_11 rfl (lv_at hl 0 rfl) ?_
    exact x_iret C hW h dX4_places_12
set_option maxRecDepth 100000 in
theorem c_X4_press (l : Launch) (g : GG) {p1 : Int32} {u : St} {Q : Int32 → St → Prop} (h : wp_X4_press p1 u Q) : CI l yX4_press cX4_press 2 (some .int) rm_X4_press g [.ref (gad g 0), .int p1] u Q := by
  refine ent (own := RX4) (Qc := va_Qi Q (WQ g)) (by decide) rfl (Nat.le_of_ble_eq_true rfl) ?_
  intro p e s m below meth c A ls C hl hW
  have hl : lv_has ls 2 [(0, .ref (gad g 0)), (1, .int p1)] := hl
  unfold wp_X4_press at h
  refine lv_aload_n C.1 C.2.1 dX4_press_0 rfl (lv_at hl 0 rfl) ?_
  refine fg_X4_27 C hW dX4_press_1 ?_
  refine lv_iload_n C.1 C.2.1 dX4_press_4 rfl (lv_at hl 1 rfl) ?_
  refine x_Vi (rest := []) C hW (c_X0_has l g (Or.inl rfl) h) km_X0_has (oLay (Or.inl rfl)) rfl qm_X4_139 ⟨rfl, rfl⟩ (by decide) rfl hl.1 rfl (Nat.le_of_ble_eq_true rfl) ⟨Nat.zero_le _, Nat.zero_le _⟩ dX4_press_5 (fun r1 u1 H locs h hW => ?_)
  refine lv_if_ne (tgt := 13) C.1 C.2.1 dX4_press_8 (by decide) (fun c2 => ?_) (fun c2 => ?_)
  · have h := h.1 c2
    refine lv_aload_n C.1 C.2.1 dX4_press_13 rfl (lv_at hl 0 rfl) ?_
    refine lv_iconst (v := 1) C.1 C.2.1 dX4_press_14 (by decide) ?_
    refine x_Vi (rest := []) C hW (c_X4_hasNoRoomFor l g h) km_X4_hasNoRoomFor oKeys rfl qm_X4_185 ⟨rfl, rfl⟩ (by decide) rfl hl.1 rfl (Nat.le_of_ble_eq_true rfl) ⟨Nat.zero_le _, Nat.zero_le _⟩ dX4_press_15 (fun r3 u3 H locs h hW => ?_)
    refine lv_if_eq (tgt := 24) C.1 C.2.1 dX4_press_18 (by decide) (fun c4 => ?_) (fun c4 => ?_)
    · have h := h.1 c4
      refine lv_aload_n C.1 C.2.1 dX4_press_24 rfl (lv_at hl 0 rfl) ?_
      refine lv_iload_n C.1 C.2.1 dX4_press_25 rfl (lv_at hl 1 rfl) ?_
      refine x_Vv (rest := []) C hW (c_X4_perform l g h) km_X4_perform oKeys rfl qm_X4_188 ⟨rfl, rfl⟩ (by decide) rfl hl.1 rfl (Nat.le_of_ble_eq_true rfl) ⟨Nat.zero_le _, Nat.zero_le _⟩ dX4_press_26 (fun u5 H locs h hW => ?_)
      refine lv_aload_n C.1 C.2.1 dX4_press_29 rfl (lv_at hl 0 rfl) ?_
      refine fg_X4_37 C hW dX4_press_30 ?_
      refine fg_X4_179 C hW (Or.inl rfl) dX4_press_33 ?_
      refine x_Si (rest := []) C hW (c_J6_bitCount_0f7a4 l g h) km_J6_bitCount_0f7a4 qm_X4_156 ⟨rfl, rfl⟩ (by decide) rfl hl.1 rfl (Nat.le_of_ble_eq_true rfl) ⟨Nat.zero_le _, Nat.zero_le _⟩ dX4_press_36 (fun r6 u6 H locs h hW => ?_)
      exact x_iret C hW h dX4_press_39
    · have h := h.2 c4
      refine lv_bipush (v := (-2)) C.1 C.2.1 dX4_press_21 (by decide) ?_
      exact x_iret C hW h dX4_press_23
  · have h := h.2 c2
    refine lv_iconst (v := (-1)) C.1 C.2.1 dX4_press_11 (by decide) ?_
    exact x_iret C hW h dX4_press_12
set_option maxRecDepth 100000 in
theorem c_X4_put (l : Launch) (g : GG) {p1 : Int32} {p2 : Int32} {p3 : Int32} {u : St} {Q : Int32 → St → Prop} (h : wp_X4_put p1 p2 p3 u Q) : CI l yX4_put cX4_put 6 (some .int) rm_X4_put g [.ref (gad g 0), .int p1, .int p2, .int p3] u Q := by
  refine ent (own := RX4) (Qc := va_Qi Q (WQ g)) (by decide) rfl (Nat.le_of_ble_eq_true rfl) ?_
  intro p e s m below meth c A ls C hl hW
  have hl : lv_has ls 6 [(0, .ref (gad g 0)), (1, .int p1), (2, .int p2), (3, .int p3)] := hl
  unfold wp_X4_put at h
  refine lv_aload_n C.1 C.2.1 dX4_put_0 rfl (lv_at hl 0 rfl) ?_
  refine lv_aload_n C.1 C.2.1 dX4_put_1 rfl (lv_at hl 0 rfl) ?_
  refine fg_X4_18 C hW dX4_put_2 ?_
  refine lv_iload_n C.1 C.2.1 dX4_put_5 rfl (lv_at hl 1 rfl) ?_
  refine lv_iload_n C.1 C.2.1 dX4_put_6 rfl (lv_at hl 2 rfl) ?_
  refine x_Vi (rest := []) C hW (c_X4_refusePlace l g (Or.inr (Or.inl rfl)) h) km_X4_refusePlace oKeys rfl qm_X4_89 ⟨rfl, rfl⟩ (by decide) rfl hl.1 rfl (Nat.le_of_ble_eq_true rfl) ⟨Nat.zero_le _, Nat.zero_le _⟩ dX4_put_7 (fun r1 u1 H locs h hW => ?_)
  refine lv_istore (lv' := [(4, .int r1), (0, .ref (gad g 0)), (1, .int p1), (2, .int p2), (3, .int p3)]) C.1 C.2.1 dX4_put_10 hl (by decide) rfl (fun ls hl => ?_)
  refine lv_iload C.1 C.2.1 dX4_put_12 (lv_at hl 0 rfl) ?_
  refine lv_if_eq (tgt := 20) C.1 C.2.1 dX4_put_14 (by decide) (fun c2 => ?_) (fun c2 => ?_)
  · have h := h.1 c2
    refine lv_aload_n C.1 C.2.1 dX4_put_20 rfl (lv_at hl 1 rfl) ?_
    refine fg_X4_18 C hW dX4_put_21 ?_
    refine lv_iload_n C.1 C.2.1 dX4_put_24 rfl (lv_at hl 2 rfl) ?_
    refine lv_iload_n C.1 C.2.1 dX4_put_25 rfl (lv_at hl 3 rfl) ?_
    refine x_Vi (rest := []) C hW (c_X2_get l g (Or.inr (Or.inl rfl)) h) km_X2_get (oShf (Or.inr (Or.inl rfl))) rfl qm_X4_93 ⟨rfl, rfl⟩ (by decide) rfl hl.1 rfl (Nat.le_of_ble_eq_true rfl) ⟨Nat.zero_le _, Nat.zero_le _⟩ dX4_put_26 (fun r3 u3 H locs h hW => ?_)
    refine lv_istore (lv' := [(5, .int r3), (4, .int r1), (0, .ref (gad g 0)), (1, .int p1), (2, .int p2), (3, .int p3)]) C.1 C.2.1 dX4_put_29 hl (by decide) rfl (fun ls hl => ?_)
    refine lv_aload_n C.1 C.2.1 dX4_put_31 rfl (lv_at hl 2 rfl) ?_
    refine fg_X4_18 C hW dX4_put_32 ?_
    refine lv_iload_n C.1 C.2.1 dX4_put_35 rfl (lv_at hl 3 rfl) ?_
    refine lv_iload_n C.1 C.2.1 dX4_put_36 rfl (lv_at hl 4 rfl) ?_
    refine lv_iload_n C.1 C.2.1 dX4_put_37 rfl (lv_at hl 5 rfl) ?_
    refine lv_i2b (v := p3.toInt8.toInt32) C.1 C.2.1 dX4_put_38 rfl ?_
    refine x_Vv (rest := []) C hW (c_X2_set l g (Or.inr (Or.inl rfl)) h) km_X2_set (oShf (Or.inr (Or.inl rfl))) rfl qm_X4_97 ⟨rfl, rfl⟩ (by decide) rfl hl.1 rfl (Nat.le_of_ble_eq_true rfl) ⟨Nat.zero_le _, Nat.zero_le _⟩ dX4_put_39 (fun u4 H locs h hW => ?_)
    refine lv_iload C.1 C.2.1 dX4_put_42 (lv_at hl 0 rfl) ?_
    refine lv_sipush (v := 1000) C.1 C.2.1 dX4_put_44 (by decide) ?_
    refine lv_iadd C.1 C.2.1 dX4_put_47 ?_
    exact x_iret C hW h dX4_put_48
  · have h := h.2 c2
    refine lv_iload C.1 C.2.1 dX4_put_17 (lv_at hl 0 rfl) ?_
    exact x_iret C hW h dX4_put_19
set_option maxRecDepth 100000 in
theorem c_X4_reads (l : Launch) (g : GG) {p1 : Int32} {u : St} {Q : Int32 → St → Prop} (h : wp_X4_reads p1 u Q) : CI l yX4_reads cX4_reads 2 (some .int) rm_X4_reads g [.ref (gad g 0), .int p1] u Q := by
  refine ent (own := RX4) (Qc := va_Qi Q (WQ g)) (by decide) rfl (Nat.le_of_ble_eq_true rfl) ?_
  intro p e s m below meth c A ls C hl hW
  have hl : lv_has ls 2 [(0, .ref (gad g 0)), (1, .int p1)] := hl
  unfold wp_X4_reads at h
  refine lv_iload_n C.1 C.2.1 dX4_reads_0 rfl (lv_at hl 1 rfl) ?_
  refine lv_iconst (v := 4) C.1 C.2.1 dX4_reads_1 (by decide) ?_
  refine x_Si (rest := []) C hW (c_X4_within l g h) km_X4_within qm_X4_81 ⟨rfl, rfl⟩ (by decide) rfl hl.1 rfl (Nat.le_of_ble_eq_true rfl) ⟨Nat.zero_le _, Nat.zero_le _⟩ dX4_reads_2 (fun r1 u1 H locs h hW => ?_)
  refine lv_if_ne (tgt := 10) C.1 C.2.1 dX4_reads_5 (by decide) (fun c2 => ?_) (fun c2 => ?_)
  · have h := h.1 c2
    refine lv_aload_n C.1 C.2.1 dX4_reads_10 rfl (lv_at hl 0 rfl) ?_
    refine fg_X4_47 C hW dX4_reads_11 ?_
    refine lv_aload_n C.1 C.2.1 dX4_reads_14 rfl (lv_at hl 0 rfl) ?_
    refine fg_X4_27 C hW dX4_reads_15 ?_
    refine lv_aload_n C.1 C.2.1 dX4_reads_18 rfl (lv_at hl 0 rfl) ?_
    refine fg_X4_37 C hW dX4_reads_19 ?_
    refine x_Vv (rest := []) C hW (c_X3_attach l g (Or.inl rfl) (Or.inl rfl) h) km_X3_attach oWires rfl qm_X4_175 ⟨rfl, rfl⟩ (by decide) rfl hl.1 rfl (Nat.le_of_ble_eq_true rfl) ⟨Nat.zero_le _, Nat.zero_le _⟩ dX4_reads_22 (fun u3 H locs h hW => ?_)
    refine lv_aload_n C.1 C.2.1 dX4_reads_25 rfl (lv_at hl 0 rfl) ?_
    refine fg_X4_47 C hW dX4_reads_26 ?_
    refine lv_iload_n C.1 C.2.1 dX4_reads_29 rfl (lv_at hl 1 rfl) ?_
    refine lv_aload_n C.1 C.2.1 dX4_reads_30 rfl (lv_at hl 0 rfl) ?_
    refine fg_X4_37 C hW dX4_reads_31 ?_
    refine fg_X4_179 C hW (Or.inl rfl) dX4_reads_34 ?_
    refine x_Vi (rest := []) C hW (c_X3_columnsReadBy l g h) km_X3_columnsReadBy oWires rfl qm_X4_182 ⟨rfl, rfl⟩ (by decide) rfl hl.1 rfl (Nat.le_of_ble_eq_true rfl) ⟨Nat.zero_le _, Nat.zero_le _⟩ dX4_reads_37 (fun r4 u4 H locs h hW => ?_)
    exact x_iret C hW h dX4_reads_40
  · have h := h.2 c2
    refine lv_iconst (v := (-1)) C.1 C.2.1 dX4_reads_8 (by decide) ?_
    exact x_iret C hW h dX4_reads_9
set_option maxRecDepth 100000 in
theorem k_X4_right_B40 {p : Program} {l : Launch} {e : Env} {s : State} {m : MethodId} {args : Array Value} {below : List Frame} {meth : Method} {c : Code} {g : GG} {A : Nat → Prop} {Q : Int32 → St → Prop} (C : MC p s m args meth c cX4_right 5 RX4 (some .int) g A) {K40 : Int32 → Int32 → Int32 → Int32 → St → Prop} (hK40 : ∀ (v1 : Int32) (v2 : Int32) (v3 : Int32) (v4 : Int32) (u : St) (H : Heap) (locs : List Loc) (ls : Array Slot), K40 v1 v2 v3 v4 u → WD g A s u H locs → lv_has ls 5 [(0, .ref (gad g 0)), (1, .int v1), (2, .int v2), (3, .int v3), (4, .int v4)] → W p l e rm_X4_right s m args below meth c H locs 0 0 (MQ below (va_Qi Q (WQ g) A) args s 0 0 A) (F0 m 40 ls [])) : ∀ (v1 : Int32) (v2 : Int32) (v3 : Int32) (v4 : Int32) (u : St) (H : Heap) (locs : List Loc) (ls : Array Slot), wp_X4_right_B40 Q K40 v1 v2 v3 v4 u → WD g A s u H locs → lv_has ls 5 [(0, .ref (gad g 0)), (1, .int v1), (2, .int v2), (3, .int v3), (4, .int v4)] → W p l e rm_X4_right s m args below meth c H locs 0 0 (MQ below (va_Qi Q (WQ g) A) args s 0 0 A) (F0 m 40 ls []) := by
  intro v1 v2 v3 v4 u H locs ls h hW hl
  refine lv_iload C.1 C.2.1 dX4_right_40 (lv_at hl 4 rfl) ?_
  refine lv_iload_n C.1 C.2.1 dX4_right_42 rfl (lv_at hl 1 rfl) ?_
  refine lv_icmp_ge (tgt := 80) C.1 C.2.1 dX4_right_43 (by decide) (fun c4 => ?_) (fun c4 => ?_)
  · have h := h.1 c4
    refine lv_aload_n C.1 C.2.1 dX4_right_80 rfl (lv_at hl 0 rfl) ?_
    refine lv_iload_n C.1 C.2.1 dX4_right_81 rfl (lv_at hl 3 rfl) ?_
    refine lv_iconst (v := 1) C.1 C.2.1 dX4_right_82 (by decide) ?_
    refine lv_isub C.1 C.2.1 dX4_right_83 ?_
    refine fp_X4_67 C hW dX4_right_84 (fun u5 H locs e5 hW => ?_)
    have h := nxt_get h e5
    refine lv_iload_n C.1 C.2.1 dX4_right_87 rfl (lv_at hl 2 rfl) ?_
    exact x_iret C hW h dX4_right_88
  · have h := h.2 c4
    refine lv_aload_n C.1 C.2.1 dX4_right_46 rfl (lv_at hl 0 rfl) ?_
    refine fg_X4_51 C hW dX4_right_47 ?_
    refine lv_iload C.1 C.2.1 dX4_right_50 (lv_at hl 4 rfl) ?_
    obtain ⟨h6, h⟩ := h
    refine x_iald C hW g_30 h6 dX4_right_52 ?_
    refine lv_iload C.1 C.2.1 dX4_right_53 (lv_at hl 4 rfl) ?_
    refine lv_icmp_ne (tgt := 64) C.1 C.2.1 dX4_right_55 (by decide) (fun c7 => ?_) (fun c7 => ?_)
    · have h := h.1 c7
      refine lv_iload_n C.1 C.2.1 dX4_right_64 rfl (lv_at hl 3 rfl) ?_
      refine lv_iload C.1 C.2.1 dX4_right_65 (lv_at hl 4 rfl) ?_
      refine x_Si (rest := [.int v3]) C hW (c_J6_bitCount_0f7a4 l g h) km_J6_bitCount_0f7a4 qm_X4_156 ⟨rfl, rfl⟩ (by decide) rfl hl.1 rfl (Nat.le_of_ble_eq_true rfl) ⟨Nat.zero_le _, Nat.zero_le _⟩ dX4_right_67 (fun r8 u8 H locs h hW => ?_)
      refine x_mmin C hl.1 qm_X4_228 (by decide) (Nat.le_of_ble_eq_true rfl) ⟨Nat.zero_le _, Nat.zero_le _⟩ dX4_right_70 ?_
      refine lv_istore_n (lv' := [(3, .int (if r8 < v3 then r8 else v3)), (0, .ref (gad g 0)), (1, .int v1), (2, .int v2), (4, .int v4)]) C.1 C.2.1 dX4_right_73 rfl hl (by decide) rfl (fun ls hl => ?_)
      refine lv_iinc (v := (v4 + 1)) (lv' := [(4, .int (v4 + 1)), (3, .int (if r8 < v3 then r8 else v3)), (0, .ref (gad g 0)), (1, .int v1), (2, .int v2)]) C.1 C.2.1 dX4_right_74 hl (k := 4) rfl rfl (by decide) rfl (fun ls hl => ?_)
      refine lv_goto (tgt := 40) C.1 C.2.1 dX4_right_77 (by decide) ?_
      exact hK40 v1 v2 (if r8 < v3 then r8 else v3) (v4 + 1) u8 _ _ _ h hW (lv_sub hl [2, 3, 4, 1, 0] rfl)
    · have h := h.2 c7
      refine lv_iinc (v := (v2 + 1)) (lv' := [(2, .int (v2 + 1)), (0, .ref (gad g 0)), (1, .int v1), (3, .int v3), (4, .int v4)]) C.1 C.2.1 dX4_right_58 hl (k := 2) rfl rfl (by decide) rfl (fun ls hl => ?_)
      refine lv_goto (tgt := 74) C.1 C.2.1 dX4_right_61 (by decide) ?_
      refine lv_iinc (v := (v4 + 1)) (lv' := [(4, .int (v4 + 1)), (2, .int (v2 + 1)), (0, .ref (gad g 0)), (1, .int v1), (3, .int v3)]) C.1 C.2.1 dX4_right_74 hl (k := 4) rfl rfl (by decide) rfl (fun ls hl => ?_)
      refine lv_goto (tgt := 40) C.1 C.2.1 dX4_right_77 (by decide) ?_
      exact hK40 v1 (v2 + 1) v3 (v4 + 1) u _ _ _ h hW (lv_sub hl [2, 3, 1, 4, 0] rfl)
theorem k_X4_right_L40 {p : Program} {l : Launch} {e : Env} {s : State} {m : MethodId} {args : Array Value} {below : List Frame} {meth : Method} {c : Code} {g : GG} {A : Nat → Prop} {Q : Int32 → St → Prop} (C : MC p s m args meth c cX4_right 5 RX4 (some .int) g A) : ∀ (n : Nat), ∀ (v1 : Int32) (v2 : Int32) (v3 : Int32) (v4 : Int32) (u : St) (H : Heap) (locs : List Loc) (ls : Array Slot), wp_X4_right_L40 Q n v1 v2 v3 v4 u → WD g A s u H locs → lv_has ls 5 [(0, .ref (gad g 0)), (1, .int v1), (2, .int v2), (3, .int v3), (4, .int v4)] → W p l e rm_X4_right s m args below meth c H locs 0 0 (MQ below (va_Qi Q (WQ g) A) args s 0 0 A) (F0 m 40 ls []) := by
  intro n
  induction n with
  | zero => intro v1 v2 v3 v4 u H locs ls h; exact False.elim h
  | succ n ih => exact k_X4_right_B40 C ih
set_option maxRecDepth 100000 in
theorem c_X4_right (l : Launch) (g : GG) {u : St} {Q : Int32 → St → Prop} (h : wp_X4_right u Q) : CI l yX4_right cX4_right 5 (some .int) rm_X4_right g [.ref (gad g 0)] u Q := by
  refine ent (own := RX4) (Qc := va_Qi Q (WQ g)) (by decide) rfl (Nat.le_of_ble_eq_true rfl) ?_
  intro p e s m below meth c A ls C hl hW
  have hl : lv_has ls 5 [(0, .ref (gad g 0))] := hl
  unfold wp_X4_right at h
  refine lv_aload_n C.1 C.2.1 dX4_right_0 rfl (lv_at hl 0 rfl) ?_
  refine fg_X4_27 C hW dX4_right_1 ?_
  refine fg_X4_137 C hW (Or.inl rfl) dX4_right_4 ?_
  refine lv_if_ne (tgt := 13) C.1 C.2.1 dX4_right_7 (by decide) (fun c1 => ?_) (fun c1 => ?_)
  · have h := h.1 c1
    refine lv_aload_n C.1 C.2.1 dX4_right_13 rfl (lv_at hl 0 rfl) ?_
    refine x_Vv (rest := []) C hW (c_X4_fillBySet l g h) km_X4_fillBySet oKeys rfl qm_X4_225 ⟨rfl, rfl⟩ (by decide) rfl hl.1 rfl (Nat.le_of_ble_eq_true rfl) ⟨Nat.zero_le _, Nat.zero_le _⟩ dX4_right_14 (fun u2 H locs h hW => ?_)
    refine lv_aload_n C.1 C.2.1 dX4_right_17 rfl (lv_at hl 0 rfl) ?_
    refine fg_X4_27 C hW dX4_right_18 ?_
    refine x_Vi (rest := []) C hW (c_X0_sets l g (Or.inl rfl) h) km_X0_sets (oLay (Or.inl rfl)) rfl qm_X4_216 ⟨rfl, rfl⟩ (by decide) rfl hl.1 rfl (Nat.le_of_ble_eq_true rfl) ⟨Nat.zero_le _, Nat.zero_le _⟩ dX4_right_21 (fun r3 u3 H locs h hW => ?_)
    refine lv_istore_n (lv' := [(1, .int r3), (0, .ref (gad g 0))]) C.1 C.2.1 dX4_right_24 rfl hl (by decide) rfl (fun ls hl => ?_)
    refine lv_iconst (v := 0) C.1 C.2.1 dX4_right_25 (by decide) ?_
    refine lv_istore_n (lv' := [(2, .int 0), (1, .int r3), (0, .ref (gad g 0))]) C.1 C.2.1 dX4_right_26 rfl hl (by decide) rfl (fun ls hl => ?_)
    refine lv_aload_n C.1 C.2.1 dX4_right_27 rfl (lv_at hl 2 rfl) ?_
    refine fg_X4_27 C hW dX4_right_28 ?_
    refine fg_X4_137 C hW (Or.inl rfl) dX4_right_31 ?_
    refine lv_iconst (v := 1) C.1 C.2.1 dX4_right_34 (by decide) ?_
    refine lv_iadd C.1 C.2.1 dX4_right_35 ?_
    refine lv_istore_n (lv' := [(3, .int ((gi u3 10 4) + 1)), (2, .int 0), (1, .int r3), (0, .ref (gad g 0))]) C.1 C.2.1 dX4_right_36 rfl hl (by decide) rfl (fun ls hl => ?_)
    refine lv_iconst (v := 0) C.1 C.2.1 dX4_right_37 (by decide) ?_
    refine lv_istore (lv' := [(4, .int 0), (3, .int ((gi u3 10 4) + 1)), (2, .int 0), (1, .int r3), (0, .ref (gad g 0))]) C.1 C.2.1 dX4_right_38 hl (by decide) rfl (fun ls hl => ?_)
    obtain ⟨n, h⟩ := h
    exact k_X4_right_L40 C n r3 0 ((gi u3 10 4) + 1) 0 u3 _ _ _ h hW (lv_sub hl [4, 3, 2, 1, 0] rfl)
  · have h := h.2 c1
    refine lv_bipush (v := (-4)) C.1 C.2.1 dX4_right_10 (by decide) ?_
    exact x_iret C hW h dX4_right_12
set_option maxRecDepth 100000 in
theorem c_X4_row (l : Launch) (g : GG) {p1 : Int32} {p2 : Int32} {u : St} {Q : Int32 → St → Prop} (h : wp_X4_row p1 p2 u Q) : CI l yX4_row cX4_row 3 (some .int) rm_X4_row g [.ref (gad g 0), .int p1, .int p2] u Q := by
  refine ent (own := RX4) (Qc := va_Qi Q (WQ g)) (by decide) rfl (Nat.le_of_ble_eq_true rfl) ?_
  intro p e s m below meth c A ls C hl hW
  have hl : lv_has ls 3 [(0, .ref (gad g 0)), (1, .int p1), (2, .int p2)] := hl
  unfold wp_X4_row at h
  refine lv_iload_n C.1 C.2.1 dX4_row_0 rfl (lv_at hl 1 rfl) ?_
  refine lv_bipush (v := 6) C.1 C.2.1 dX4_row_1 (by decide) ?_
  refine x_Si (rest := []) C hW (c_X4_within l g h) km_X4_within qm_X4_81 ⟨rfl, rfl⟩ (by decide) rfl hl.1 rfl (Nat.le_of_ble_eq_true rfl) ⟨Nat.zero_le _, Nat.zero_le _⟩ dX4_row_3 (fun r1 u1 H locs h hW => ?_)
  refine lv_if_eq (tgt := 15) C.1 C.2.1 dX4_row_6 (by decide) (fun c2 => ?_) (fun c2 => ?_)
  · have h := h.1 c2
    refine lv_iconst (v := (-1)) C.1 C.2.1 dX4_row_15 (by decide) ?_
    exact x_iret C hW h dX4_row_16
  · have h := h.2 c2
    refine lv_iload_n C.1 C.2.1 dX4_row_9 rfl (lv_at hl 2 rfl) ?_
    refine lv_bipush (v := 40) C.1 C.2.1 dX4_row_10 (by decide) ?_
    refine lv_icmp_le (tgt := 17) C.1 C.2.1 dX4_row_12 (by decide) (fun c3 => ?_) (fun c3 => ?_)
    · have h := h.1 c3
      refine lv_iload_n C.1 C.2.1 dX4_row_17 rfl (lv_at hl 2 rfl) ?_
      refine lv_if_ge (tgt := 27) C.1 C.2.1 dX4_row_18 (by decide) (fun c4 => ?_) (fun c4 => ?_)
      · have h := h.1 c4
        refine lv_aload_n C.1 C.2.1 dX4_row_27 rfl (lv_at hl 0 rfl) ?_
        refine fg_X4_14 C hW dX4_row_28 ?_
        refine lv_iload_n C.1 C.2.1 dX4_row_31 rfl (lv_at hl 1 rfl) ?_
        refine lv_iload_n C.1 C.2.1 dX4_row_32 rfl (lv_at hl 2 rfl) ?_
        refine lv_iconst (v := 0) C.1 C.2.1 dX4_row_33 (by decide) ?_
        refine x_Vv (rest := []) C hW (c_X2_make l g (Or.inl rfl) h) km_X2_make (oShf (Or.inl rfl)) rfl qm_X4_77 ⟨rfl, rfl⟩ (by decide) rfl hl.1 rfl (Nat.le_of_ble_eq_true rfl) ⟨Nat.zero_le _, Nat.zero_le _⟩ dX4_row_34 (fun u5 H locs h hW => ?_)
        refine lv_iload_n C.1 C.2.1 dX4_row_37 rfl (lv_at hl 2 rfl) ?_
        exact x_iret C hW h dX4_row_38
      · have h := h.2 c4
        refine lv_aload_n C.1 C.2.1 dX4_row_21 rfl (lv_at hl 0 rfl) ?_
        refine lv_iconst (v := 5) C.1 C.2.1 dX4_row_22 (by decide) ?_
        refine x_Vi (rest := []) C hW (c_X4_found l g h) km_X4_found oKeys rfl qm_X4_85 ⟨rfl, rfl⟩ (by decide) rfl hl.1 rfl (Nat.le_of_ble_eq_true rfl) ⟨Nat.zero_le _, Nat.zero_le _⟩ dX4_row_23 (fun r6 u6 H locs h hW => ?_)
        exact x_iret C hW h dX4_row_26
    · have h := h.2 c3
      refine lv_iconst (v := (-1)) C.1 C.2.1 dX4_row_15 (by decide) ?_
      exact x_iret C hW h dX4_row_16
set_option maxRecDepth 100000 in
theorem c_X4_scan (l : Launch) (g : GG) {u : St} {Q : Int32 → St → Prop} (h : wp_X4_scan u Q) : CI l yX4_scan cX4_scan 2 (some .int) rm_X4_scan g [.ref (gad g 0)] u Q := by
  refine ent (own := RX4) (Qc := va_Qi Q (WQ g)) (by decide) rfl (Nat.le_of_ble_eq_true rfl) ?_
  intro p e s m below meth c A ls C hl hW
  have hl : lv_has ls 2 [(0, .ref (gad g 0))] := hl
  unfold wp_X4_scan at h
  refine lv_aload_n C.1 C.2.1 dX4_scan_0 rfl (lv_at hl 0 rfl) ?_
  refine fg_X4_27 C hW dX4_scan_1 ?_
  refine fg_X4_137 C hW (Or.inl rfl) dX4_scan_4 ?_
  refine lv_if_ne (tgt := 13) C.1 C.2.1 dX4_scan_7 (by decide) (fun c1 => ?_) (fun c1 => ?_)
  · have h := h.1 c1
    refine lv_aload_n C.1 C.2.1 dX4_scan_13 rfl (lv_at hl 0 rfl) ?_
    refine lv_iconst (v := 1) C.1 C.2.1 dX4_scan_14 (by decide) ?_
    refine x_Vi (rest := []) C hW (c_X4_hasNoRoomFor l g h) km_X4_hasNoRoomFor oKeys rfl qm_X4_185 ⟨rfl, rfl⟩ (by decide) rfl hl.1 rfl (Nat.le_of_ble_eq_true rfl) ⟨Nat.zero_le _, Nat.zero_le _⟩ dX4_scan_15 (fun r2 u2 H locs h hW => ?_)
    refine lv_if_eq (tgt := 24) C.1 C.2.1 dX4_scan_18 (by decide) (fun c3 => ?_) (fun c3 => ?_)
    · have h := h.1 c3
      refine lv_aload_n C.1 C.2.1 dX4_scan_24 rfl (lv_at hl 0 rfl) ?_
      refine x_Vi (rest := []) C hW (c_X4_toldNow l g h) km_X4_toldNow oKeys rfl qm_X4_152 ⟨rfl, rfl⟩ (by decide) rfl hl.1 rfl (Nat.le_of_ble_eq_true rfl) ⟨Nat.zero_le _, Nat.zero_le _⟩ dX4_scan_25 (fun r4 u4 H locs h hW => ?_)
      refine x_Si (rest := []) C hW (c_J6_bitCount_0f7a4 l g h) km_J6_bitCount_0f7a4 qm_X4_156 ⟨rfl, rfl⟩ (by decide) rfl hl.1 rfl (Nat.le_of_ble_eq_true rfl) ⟨Nat.zero_le _, Nat.zero_le _⟩ dX4_scan_28 (fun r5 u5 H locs h hW => ?_)
      refine lv_istore_n (lv' := [(1, .int r5), (0, .ref (gad g 0))]) C.1 C.2.1 dX4_scan_31 rfl hl (by decide) rfl (fun ls hl => ?_)
      refine lv_aload_n C.1 C.2.1 dX4_scan_32 rfl (lv_at hl 1 rfl) ?_
      refine lv_bipush (v := 7) C.1 C.2.1 dX4_scan_33 (by decide) ?_
      refine x_Vv (rest := []) C hW (c_X4_perform l g h) km_X4_perform oKeys rfl qm_X4_188 ⟨rfl, rfl⟩ (by decide) rfl hl.1 rfl (Nat.le_of_ble_eq_true rfl) ⟨Nat.zero_le _, Nat.zero_le _⟩ dX4_scan_35 (fun u6 H locs h hW => ?_)
      refine lv_iload_n C.1 C.2.1 dX4_scan_38 rfl (lv_at hl 0 rfl) ?_
      exact x_iret C hW h dX4_scan_39
    · have h := h.2 c3
      refine lv_bipush (v := (-2)) C.1 C.2.1 dX4_scan_21 (by decide) ?_
      exact x_iret C hW h dX4_scan_23
  · have h := h.2 c1
    refine lv_bipush (v := (-4)) C.1 C.2.1 dX4_scan_10 (by decide) ?_
    exact x_iret C hW h dX4_scan_12
set_option maxRecDepth 100000 in
theorem c_X4_tear (l : Launch) (g : GG) {p1 : Int32} {u : St} {Q : Int32 → St → Prop} (h : wp_X4_tear p1 u Q) : CI l yX4_tear cX4_tear 3 (some .int) rm_X4_tear g [.ref (gad g 0), .int p1] u Q := by
  refine ent (own := RX4) (Qc := va_Qi Q (WQ g)) (by decide) rfl (Nat.le_of_ble_eq_true rfl) ?_
  intro p e s m below meth c A ls C hl hW
  have hl : lv_has ls 3 [(0, .ref (gad g 0)), (1, .int p1)] := hl
  unfold wp_X4_tear at h
  refine lv_aload_n C.1 C.2.1 dX4_tear_0 rfl (lv_at hl 0 rfl) ?_
  refine lv_aload_n C.1 C.2.1 dX4_tear_1 rfl (lv_at hl 0 rfl) ?_
  refine fg_X4_14 C hW dX4_tear_2 ?_
  refine lv_iload_n C.1 C.2.1 dX4_tear_5 rfl (lv_at hl 1 rfl) ?_
  refine x_Vi (rest := []) C hW (c_X4_refuseShelfPlace l g (Or.inl rfl) h) km_X4_refuseShelfPlace oKeys rfl qm_X4_100 ⟨rfl, rfl⟩ (by decide) rfl hl.1 rfl (Nat.le_of_ble_eq_true rfl) ⟨Nat.zero_le _, Nat.zero_le _⟩ dX4_tear_6 (fun r1 u1 H locs h hW => ?_)
  refine lv_istore_n (lv' := [(2, .int r1), (0, .ref (gad g 0)), (1, .int p1)]) C.1 C.2.1 dX4_tear_9 rfl hl (by decide) rfl (fun ls hl => ?_)
  refine lv_iload_n C.1 C.2.1 dX4_tear_10 rfl (lv_at hl 0 rfl) ?_
  refine lv_if_eq (tgt := 16) C.1 C.2.1 dX4_tear_11 (by decide) (fun c2 => ?_) (fun c2 => ?_)
  · have h := h.1 c2
    refine lv_aload_n C.1 C.2.1 dX4_tear_16 rfl (lv_at hl 1 rfl) ?_
    refine fg_X4_14 C hW dX4_tear_17 ?_
    refine lv_iload_n C.1 C.2.1 dX4_tear_20 rfl (lv_at hl 2 rfl) ?_
    refine x_Vv (rest := []) C hW (c_X2_remove l g (Or.inl rfl) h) km_X2_remove (oShf (Or.inl rfl)) rfl qm_X4_104 ⟨rfl, rfl⟩ (by decide) rfl hl.1 rfl (Nat.le_of_ble_eq_true rfl) ⟨Nat.zero_le _, Nat.zero_le _⟩ dX4_tear_21 (fun u3 H locs h hW => ?_)
    refine lv_iconst (v := 1) C.1 C.2.1 dX4_tear_24 (by decide) ?_
    exact x_iret C hW h dX4_tear_25
  · have h := h.2 c2
    refine lv_iload_n C.1 C.2.1 dX4_tear_14 rfl (lv_at hl 0 rfl) ?_
    exact x_iret C hW h dX4_tear_15
set_option maxRecDepth 100000 in
theorem k_X4_test_B55 {p : Program} {l : Launch} {e : Env} {s : State} {m : MethodId} {args : Array Value} {below : List Frame} {meth : Method} {c : Code} {g : GG} {A : Nat → Prop} {p1 : Int32} {p2 : Int32} {Q : Int32 → St → Prop} (C : MC p s m args meth c cX4_test 10 RX4 (some .int) g A) {K55 : Int32 → Int32 → Int32 → Int32 → Int32 → St → Prop} (hK55 : ∀ (v4 : Int32) (v5 : Int32) (v6 : Int32) (v7 : Int32) (v8 : Int32) (u : St) (H : Heap) (locs : List Loc) (ls : Array Slot), K55 v4 v5 v6 v7 v8 u → WD g A s u H locs → lv_has ls 10 [(0, .ref (gad g 0)), (4, .int v4), (5, .int v5), (6, .int v6), (7, .int v7), (8, .int v8)] → W p l e rm_X4_test s m args below meth c H locs 0 0 (MQ below (va_Qi Q (WQ g) A) args s 0 0 A) (F0 m 55 ls [])) : ∀ (v4 : Int32) (v5 : Int32) (v6 : Int32) (v7 : Int32) (v8 : Int32) (u : St) (H : Heap) (locs : List Loc) (ls : Array Slot), wp_X4_test_B55 p1 p2 Q K55 v4 v5 v6 v7 v8 u → WD g A s u H locs → lv_has ls 10 [(0, .ref (gad g 0)), (4, .int v4), (5, .int v5), (6, .int v6), (7, .int v7), (8, .int v8)] → W p l e rm_X4_test s m args below meth c H locs 0 0 (MQ below (va_Qi Q (WQ g) A) args s 0 0 A) (F0 m 55 ls []) := by
  intro v4 v5 v6 v7 v8 u H locs ls h hW hl
  refine lv_iload C.1 C.2.1 dX4_test_55 (lv_at hl 5 rfl) ?_
  refine lv_iload C.1 C.2.1 dX4_test_57 (lv_at hl 2 rfl) ?_
  refine lv_icmp_ge (tgt := 93) C.1 C.2.1 dX4_test_59 (by decide) (fun c7 => ?_) (fun c7 => ?_)
  · have h := h.1 c7
    refine lv_aload_n C.1 C.2.1 dX4_test_93 rfl (lv_at hl 0 rfl) ?_
    refine lv_iload C.1 C.2.1 dX4_test_94 (lv_at hl 3 rfl) ?_
    refine fp_X4_67 C hW dX4_test_96 (fun u8 H locs e8 hW => ?_)
    have h := nxt_get h e8
    refine lv_iload C.1 C.2.1 dX4_test_99 (lv_at hl 4 rfl) ?_
    exact x_iret C hW h dX4_test_101
  · have h := h.2 c7
    refine lv_aload_n C.1 C.2.1 dX4_test_62 rfl (lv_at hl 0 rfl) ?_
    refine lv_iload C.1 C.2.1 dX4_test_63 (lv_at hl 1 rfl) ?_
    refine lv_iload C.1 C.2.1 dX4_test_65 (lv_at hl 5 rfl) ?_
    refine x_Vi (rest := []) C hW (c_X4_greatestPart l g h) km_X4_greatestPart oKeys rfl qm_X4_257 ⟨rfl, rfl⟩ (by decide) rfl hl.1 rfl (Nat.le_of_ble_eq_true rfl) ⟨Nat.zero_le _, Nat.zero_le _⟩ dX4_test_67 (fun r9 u9 H locs h hW => ?_)
    refine lv_istore (lv' := [(9, .int r9), (0, .ref (gad g 0)), (4, .int v4), (5, .int v5), (6, .int v6), (7, .int v7), (8, .int v8)]) C.1 C.2.1 dX4_test_70 hl (by decide) rfl (fun ls hl => ?_)
    refine lv_iload C.1 C.2.1 dX4_test_72 (lv_at hl 0 rfl) ?_
    refine lv_iload C.1 C.2.1 dX4_test_74 (lv_at hl 4 rfl) ?_
    refine lv_icmp_ge (tgt := 87) C.1 C.2.1 dX4_test_76 (by decide) (fun c10 => ?_) (fun c10 => ?_)
    · have h := h.1 c10
      refine lv_iinc (v := (v8 + 1)) (lv' := [(8, .int (v8 + 1)), (9, .int r9), (0, .ref (gad g 0)), (4, .int v4), (5, .int v5), (6, .int v6), (7, .int v7)]) C.1 C.2.1 dX4_test_87 hl (k := 6) rfl rfl (by decide) rfl (fun ls hl => ?_)
      refine lv_goto (tgt := 55) C.1 C.2.1 dX4_test_90 (by decide) ?_
      exact hK55 v4 v5 v6 v7 (v8 + 1) u9 _ _ _ h hW (lv_sub hl [2, 3, 4, 5, 6, 0] rfl)
    · have h := h.2 c10
      refine lv_iload C.1 C.2.1 dX4_test_79 (lv_at hl 0 rfl) ?_
      refine lv_istore (lv' := [(6, .int r9), (9, .int r9), (0, .ref (gad g 0)), (4, .int v4), (5, .int v5), (7, .int v7), (8, .int v8)]) C.1 C.2.1 dX4_test_81 hl (by decide) rfl (fun ls hl => ?_)
      refine lv_iload C.1 C.2.1 dX4_test_83 (lv_at hl 6 rfl) ?_
      refine lv_istore (lv' := [(7, .int v8), (6, .int r9), (9, .int r9), (0, .ref (gad g 0)), (4, .int v4), (5, .int v5), (8, .int v8)]) C.1 C.2.1 dX4_test_85 hl (by decide) rfl (fun ls hl => ?_)
      refine lv_iinc (v := (v8 + 1)) (lv' := [(8, .int (v8 + 1)), (7, .int v8), (6, .int r9), (9, .int r9), (0, .ref (gad g 0)), (4, .int v4), (5, .int v5)]) C.1 C.2.1 dX4_test_87 hl (k := 6) rfl rfl (by decide) rfl (fun ls hl => ?_)
      refine lv_goto (tgt := 55) C.1 C.2.1 dX4_test_90 (by decide) ?_
      exact hK55 v4 v5 r9 v8 (v8 + 1) u9 _ _ _ h hW (lv_sub hl [4, 5, 6, 2, 1, 0] rfl)
theorem k_X4_test_L55 {p : Program} {l : Launch} {e : Env} {s : State} {m : MethodId} {args : Array Value} {below : List Frame} {meth : Method} {c : Code} {g : GG} {A : Nat → Prop} {p1 : Int32} {p2 : Int32} {Q : Int32 → St → Prop} (C : MC p s m args meth c cX4_test 10 RX4 (some .int) g A) : ∀ (n : Nat), ∀ (v4 : Int32) (v5 : Int32) (v6 : Int32) (v7 : Int32) (v8 : Int32) (u : St) (H : Heap) (locs : List Loc) (ls : Array Slot), wp_X4_test_L55 p1 p2 Q n v4 v5 v6 v7 v8 u → WD g A s u H locs → lv_has ls 10 [(0, .ref (gad g 0)), (4, .int v4), (5, .int v5), (6, .int v6), (7, .int v7), (8, .int v8)] → W p l e rm_X4_test s m args below meth c H locs 0 0 (MQ below (va_Qi Q (WQ g) A) args s 0 0 A) (F0 m 55 ls []) := by
  intro n
  induction n with
  | zero => intro v4 v5 v6 v7 v8 u H locs ls h; exact False.elim h
  | succ n ih => exact k_X4_test_B55 (p1 := p1) (p2 := p2) C ih
set_option maxRecDepth 100000 in
theorem c_X4_test (l : Launch) (g : GG) {p1 : Int32} {p2 : Int32} {u : St} {Q : Int32 → St → Prop} (h : wp_X4_test p1 p2 u Q) : CI l yX4_test cX4_test 10 (some .int) rm_X4_test g [.ref (gad g 0), .int p1, .int p2] u Q := by
  refine ent (own := RX4) (Qc := va_Qi Q (WQ g)) (by decide) rfl (Nat.le_of_ble_eq_true rfl) ?_
  intro p e s m below meth c A ls C hl hW
  have hl : lv_has ls 10 [(0, .ref (gad g 0)), (1, .int p1), (2, .int p2)] := hl
  unfold wp_X4_test at h
  refine lv_aload_n C.1 C.2.1 dX4_test_0 rfl (lv_at hl 0 rfl) ?_
  refine lv_iload_n C.1 C.2.1 dX4_test_1 rfl (lv_at hl 1 rfl) ?_
  refine lv_iload_n C.1 C.2.1 dX4_test_2 rfl (lv_at hl 2 rfl) ?_
  refine x_Vi (rest := []) C hW (c_X4_refusePairs l g h) km_X4_refusePairs oKeys rfl qm_X4_238 ⟨rfl, rfl⟩ (by decide) rfl hl.1 rfl (Nat.le_of_ble_eq_true rfl) ⟨Nat.zero_le _, Nat.zero_le _⟩ dX4_test_3 (fun r1 u1 H locs h hW => ?_)
  refine lv_istore_n (lv' := [(3, .int r1), (0, .ref (gad g 0)), (1, .int p1), (2, .int p2)]) C.1 C.2.1 dX4_test_6 rfl hl (by decide) rfl (fun ls hl => ?_)
  refine lv_iload_n C.1 C.2.1 dX4_test_7 rfl (lv_at hl 0 rfl) ?_
  refine lv_if_eq (tgt := 13) C.1 C.2.1 dX4_test_8 (by decide) (fun c2 => ?_) (fun c2 => ?_)
  · have h := h.1 c2
    refine lv_aload_n C.1 C.2.1 dX4_test_13 rfl (lv_at hl 1 rfl) ?_
    refine lv_iload_n C.1 C.2.1 dX4_test_14 rfl (lv_at hl 2 rfl) ?_
    refine lv_iload_n C.1 C.2.1 dX4_test_15 rfl (lv_at hl 3 rfl) ?_
    refine x_Vi (rest := []) C hW (c_X4_kindsThatFit l g h) km_X4_kindsThatFit oKeys rfl qm_X4_241 ⟨rfl, rfl⟩ (by decide) rfl hl.1 rfl (Nat.le_of_ble_eq_true rfl) ⟨Nat.zero_le _, Nat.zero_le _⟩ dX4_test_16 (fun r3 u3 H locs h hW => ?_)
    refine lv_istore (lv' := [(4, .int r3), (3, .int r1), (0, .ref (gad g 0)), (1, .int p1), (2, .int p2)]) C.1 C.2.1 dX4_test_19 hl (by decide) rfl (fun ls hl => ?_)
    refine lv_iload C.1 C.2.1 dX4_test_21 (lv_at hl 0 rfl) ?_
    refine lv_if_ne (tgt := 29) C.1 C.2.1 dX4_test_23 (by decide) (fun c4 => ?_) (fun c4 => ?_)
    · have h := h.1 c4
      refine lv_aload_n C.1 C.2.1 dX4_test_29 rfl (lv_at hl 2 rfl) ?_
      refine lv_iload_n C.1 C.2.1 dX4_test_30 rfl (lv_at hl 3 rfl) ?_
      refine lv_iload C.1 C.2.1 dX4_test_31 (lv_at hl 0 rfl) ?_
      refine x_Vv (rest := []) C hW (c_X4_fillByKind l g h) km_X4_fillByKind oKeys rfl qm_X4_254 ⟨rfl, rfl⟩ (by decide) rfl hl.1 rfl (Nat.le_of_ble_eq_true rfl) ⟨Nat.zero_le _, Nat.zero_le _⟩ dX4_test_33 (fun u5 H locs h hW => ?_)
      refine lv_aload_n C.1 C.2.1 dX4_test_36 rfl (lv_at hl 2 rfl) ?_
      refine fg_X4_27 C hW dX4_test_37 ?_
      refine x_Vi (rest := []) C hW (c_X0_sets l g (Or.inl rfl) h) km_X0_sets (oLay (Or.inl rfl)) rfl qm_X4_216 ⟨rfl, rfl⟩ (by decide) rfl hl.1 rfl (Nat.le_of_ble_eq_true rfl) ⟨Nat.zero_le _, Nat.zero_le _⟩ dX4_test_40 (fun r6 u6 H locs h hW => ?_)
      refine lv_istore (lv' := [(5, .int r6), (4, .int r3), (3, .int r1), (0, .ref (gad g 0)), (1, .int p1), (2, .int p2)]) C.1 C.2.1 dX4_test_43 hl (by decide) rfl (fun ls hl => ?_)
      refine lv_bipush (v := 7) C.1 C.2.1 dX4_test_45 (by decide) ?_
      refine lv_istore (lv' := [(6, .int 7), (5, .int r6), (4, .int r3), (3, .int r1), (0, .ref (gad g 0)), (1, .int p1), (2, .int p2)]) C.1 C.2.1 dX4_test_47 hl (by decide) rfl (fun ls hl => ?_)
      refine lv_iconst (v := 0) C.1 C.2.1 dX4_test_49 (by decide) ?_
      refine lv_istore (lv' := [(7, .int 0), (6, .int 7), (5, .int r6), (4, .int r3), (3, .int r1), (0, .ref (gad g 0)), (1, .int p1), (2, .int p2)]) C.1 C.2.1 dX4_test_50 hl (by decide) rfl (fun ls hl => ?_)
      refine lv_iconst (v := 0) C.1 C.2.1 dX4_test_52 (by decide) ?_
      refine lv_istore (lv' := [(8, .int 0), (7, .int 0), (6, .int 7), (5, .int r6), (4, .int r3), (3, .int r1), (0, .ref (gad g 0)), (1, .int p1), (2, .int p2)]) C.1 C.2.1 dX4_test_53 hl (by decide) rfl (fun ls hl => ?_)
      obtain ⟨n, h⟩ := h
      exact k_X4_test_L55 C n r3 r6 7 0 0 u6 _ _ _ h hW (lv_sub hl [6, 4, 3, 2, 1, 0] rfl)
    · have h := h.2 c4
      refine lv_bipush (v := (-9)) C.1 C.2.1 dX4_test_26 (by decide) ?_
      exact x_iret C hW h dX4_test_28
  · have h := h.2 c2
    refine lv_iload_n C.1 C.2.1 dX4_test_11 rfl (lv_at hl 0 rfl) ?_
    exact x_iret C hW h dX4_test_12
set_option maxRecDepth 100000 in
theorem c_X4_text (l : Launch) (g : GG) {p1 : Int32} {p2 : Int32} {u : St} {Q : Int32 → St → Prop} (h : wp_X4_text p1 p2 u Q) : CI l yX4_text cX4_text 3 (some .int) rm_X4_text g [.ref (gad g 0), .int p1, .int p2] u Q := by
  refine ent (own := RX4) (Qc := va_Qi Q (WQ g)) (by decide) rfl (Nat.le_of_ble_eq_true rfl) ?_
  intro p e s m below meth c A ls C hl hW
  have hl : lv_has ls 3 [(0, .ref (gad g 0)), (1, .int p1), (2, .int p2)] := hl
  unfold wp_X4_text at h
  refine lv_iload_n C.1 C.2.1 dX4_text_0 rfl (lv_at hl 1 rfl) ?_
  refine lv_iconst (v := 4) C.1 C.2.1 dX4_text_1 (by decide) ?_
  refine x_Si (rest := []) C hW (c_X4_within l g h) km_X4_within qm_X4_81 ⟨rfl, rfl⟩ (by decide) rfl hl.1 rfl (Nat.le_of_ble_eq_true rfl) ⟨Nat.zero_le _, Nat.zero_le _⟩ dX4_text_2 (fun r1 u1 H locs h hW => ?_)
  refine lv_if_eq (tgt := 14) C.1 C.2.1 dX4_text_5 (by decide) (fun c2 => ?_) (fun c2 => ?_)
  · have h := h.1 c2
    refine lv_iconst (v := (-1)) C.1 C.2.1 dX4_text_14 (by decide) ?_
    exact x_iret C hW h dX4_text_15
  · have h := h.2 c2
    refine lv_iload_n C.1 C.2.1 dX4_text_8 rfl (lv_at hl 2 rfl) ?_
    refine lv_bipush (v := 60) C.1 C.2.1 dX4_text_9 (by decide) ?_
    refine lv_icmp_le (tgt := 16) C.1 C.2.1 dX4_text_11 (by decide) (fun c3 => ?_) (fun c3 => ?_)
    · have h := h.1 c3
      refine lv_iload_n C.1 C.2.1 dX4_text_16 rfl (lv_at hl 2 rfl) ?_
      refine lv_if_ge (tgt := 26) C.1 C.2.1 dX4_text_17 (by decide) (fun c4 => ?_) (fun c4 => ?_)
      · have h := h.1 c4
        refine lv_aload_n C.1 C.2.1 dX4_text_26 rfl (lv_at hl 0 rfl) ?_
        refine fg_X4_18 C hW dX4_text_27 ?_
        refine lv_iload_n C.1 C.2.1 dX4_text_30 rfl (lv_at hl 1 rfl) ?_
        refine lv_iload_n C.1 C.2.1 dX4_text_31 rfl (lv_at hl 2 rfl) ?_
        refine lv_bipush (v := 32) C.1 C.2.1 dX4_text_32 (by decide) ?_
        refine x_Vv (rest := []) C hW (c_X2_make l g (Or.inr (Or.inl rfl)) h) km_X2_make (oShf (Or.inr (Or.inl rfl))) rfl qm_X4_77 ⟨rfl, rfl⟩ (by decide) rfl hl.1 rfl (Nat.le_of_ble_eq_true rfl) ⟨Nat.zero_le _, Nat.zero_le _⟩ dX4_text_34 (fun u5 H locs h hW => ?_)
        refine lv_iload_n C.1 C.2.1 dX4_text_37 rfl (lv_at hl 2 rfl) ?_
        exact x_iret C hW h dX4_text_38
      · have h := h.2 c4
        refine lv_aload_n C.1 C.2.1 dX4_text_20 rfl (lv_at hl 0 rfl) ?_
        refine lv_iconst (v := 5) C.1 C.2.1 dX4_text_21 (by decide) ?_
        refine x_Vi (rest := []) C hW (c_X4_found l g h) km_X4_found oKeys rfl qm_X4_85 ⟨rfl, rfl⟩ (by decide) rfl hl.1 rfl (Nat.le_of_ble_eq_true rfl) ⟨Nat.zero_le _, Nat.zero_le _⟩ dX4_text_22 (fun r6 u6 H locs h hW => ?_)
        exact x_iret C hW h dX4_text_25
    · have h := h.2 c3
      refine lv_iconst (v := (-1)) C.1 C.2.1 dX4_text_14 (by decide) ?_
      exact x_iret C hW h dX4_text_15
set_option maxRecDepth 100000 in
theorem c_X4_told (l : Launch) (g : GG) {u : St} {Q : Int32 → St → Prop} (h : wp_X4_told u Q) : CI l yX4_told cX4_told 2 (some .int) rm_X4_told g [.ref (gad g 0)] u Q := by
  refine ent (own := RX4) (Qc := va_Qi Q (WQ g)) (by decide) rfl (Nat.le_of_ble_eq_true rfl) ?_
  intro p e s m below meth c A ls C hl hW
  have hl : lv_has ls 2 [(0, .ref (gad g 0))] := hl
  unfold wp_X4_told at h
  refine lv_aload_n C.1 C.2.1 dX4_told_0 rfl (lv_at hl 0 rfl) ?_
  refine x_Vi (rest := []) C hW (c_X4_toldNow l g h) km_X4_toldNow oKeys rfl qm_X4_152 ⟨rfl, rfl⟩ (by decide) rfl hl.1 rfl (Nat.le_of_ble_eq_true rfl) ⟨Nat.zero_le _, Nat.zero_le _⟩ dX4_told_1 (fun r1 u1 H locs h hW => ?_)
  refine lv_istore_n (lv' := [(1, .int r1), (0, .ref (gad g 0))]) C.1 C.2.1 dX4_told_4 rfl hl (by decide) rfl (fun ls hl => ?_)
  refine lv_aload_n C.1 C.2.1 dX4_told_5 rfl (lv_at hl 1 rfl) ?_
  refine lv_iload_n C.1 C.2.1 dX4_told_6 rfl (lv_at hl 0 rfl) ?_
  refine lv_aload_n C.1 C.2.1 dX4_told_7 rfl (lv_at hl 1 rfl) ?_
  refine fg_X4_37 C hW dX4_told_8 ?_
  refine fg_X4_179 C hW (Or.inl rfl) dX4_told_11 ?_
  refine lv_iconst (v := (-1)) C.1 C.2.1 dX4_told_14 (by decide) ?_
  refine lv_ixor C.1 C.2.1 dX4_told_15 ?_
  refine lv_iand C.1 C.2.1 dX4_told_16 ?_
  refine x_Si (rest := [.ref (gad g 0)]) C hW (c_J6_bitCount_0f7a4 l g h) km_J6_bitCount_0f7a4 qm_X4_156 ⟨rfl, rfl⟩ (by decide) rfl hl.1 rfl (Nat.le_of_ble_eq_true rfl) ⟨Nat.zero_le _, Nat.zero_le _⟩ dX4_told_17 (fun r2 u2 H locs h hW => ?_)
  refine fp_X4_67 C hW dX4_told_20 (fun u3 H locs e3 hW => ?_)
  have h := nxt_get h e3
  refine lv_iload_n C.1 C.2.1 dX4_told_23 rfl (lv_at hl 0 rfl) ?_
  exact x_iret C hW h dX4_told_24
set_option maxRecDepth 100000 in
theorem c_X4_undo (l : Launch) (g : GG) {p1 : Int32} {u : St} {Q : Int32 → St → Prop} (h : wp_X4_undo p1 u Q) : CI l yX4_undo cX4_undo 3 (some .int) rm_X4_undo g [.ref (gad g 0), .int p1] u Q := by
  refine ent (own := RX4) (Qc := va_Qi Q (WQ g)) (by decide) rfl (Nat.le_of_ble_eq_true rfl) ?_
  intro p e s m below meth c A ls C hl hW
  have hl : lv_has ls 3 [(0, .ref (gad g 0)), (1, .int p1)] := hl
  unfold wp_X4_undo at h
  refine lv_aload_n C.1 C.2.1 dX4_undo_0 rfl (lv_at hl 0 rfl) ?_
  refine fg_X4_21 C hW dX4_undo_1 ?_
  refine lv_iconst (v := 3) C.1 C.2.1 dX4_undo_4 (by decide) ?_
  refine x_Vi (rest := []) C hW (c_X2_size l g (Or.inr (Or.inr rfl)) h) km_X2_size (oShf (Or.inr (Or.inr rfl))) rfl qm_X4_120 ⟨rfl, rfl⟩ (by decide) rfl hl.1 rfl (Nat.le_of_ble_eq_true rfl) ⟨Nat.zero_le _, Nat.zero_le _⟩ dX4_undo_5 (fun r1 u1 H locs h hW => ?_)
  refine lv_istore_n (lv' := [(2, .int r1), (0, .ref (gad g 0)), (1, .int p1)]) C.1 C.2.1 dX4_undo_8 rfl hl (by decide) rfl (fun ls hl => ?_)
  refine lv_iload_n C.1 C.2.1 dX4_undo_9 rfl (lv_at hl 2 rfl) ?_
  refine lv_if_lt (tgt := 18) C.1 C.2.1 dX4_undo_10 (by decide) (fun c2 => ?_) (fun c2 => ?_)
  · have h := h.1 c2
    refine lv_iconst (v := (-1)) C.1 C.2.1 dX4_undo_18 (by decide) ?_
    exact x_iret C hW h dX4_undo_19
  · have h := h.2 c2
    refine lv_iload_n C.1 C.2.1 dX4_undo_13 rfl (lv_at hl 2 rfl) ?_
    refine lv_iload_n C.1 C.2.1 dX4_undo_14 rfl (lv_at hl 0 rfl) ?_
    refine lv_icmp_le (tgt := 20) C.1 C.2.1 dX4_undo_15 (by decide) (fun c3 => ?_) (fun c3 => ?_)
    · have h := h.1 c3
      refine lv_aload_n C.1 C.2.1 dX4_undo_20 rfl (lv_at hl 1 rfl) ?_
      refine fg_X4_21 C hW dX4_undo_21 ?_
      refine lv_iconst (v := 3) C.1 C.2.1 dX4_undo_24 (by decide) ?_
      refine lv_iload_n C.1 C.2.1 dX4_undo_25 rfl (lv_at hl 2 rfl) ?_
      refine x_Vv (rest := []) C hW (c_X2_shorten l g (Or.inr (Or.inr rfl)) h) km_X2_shorten (oShf (Or.inr (Or.inr rfl))) rfl qm_X4_194 ⟨rfl, rfl⟩ (by decide) rfl hl.1 rfl (Nat.le_of_ble_eq_true rfl) ⟨Nat.zero_le _, Nat.zero_le _⟩ dX4_undo_26 (fun u4 H locs h hW => ?_)
      refine lv_aload_n C.1 C.2.1 dX4_undo_29 rfl (lv_at hl 1 rfl) ?_
      refine x_Vv (rest := []) C hW (c_X4_replay l g h) km_X4_replay oKeys rfl qm_X4_197 ⟨rfl, rfl⟩ (by decide) rfl hl.1 rfl (Nat.le_of_ble_eq_true rfl) ⟨Nat.zero_le _, Nat.zero_le _⟩ dX4_undo_30 (fun u5 H locs h hW => ?_)
      refine lv_iload_n C.1 C.2.1 dX4_undo_33 rfl (lv_at hl 0 rfl) ?_
      refine lv_iload_n C.1 C.2.1 dX4_undo_34 rfl (lv_at hl 2 rfl) ?_
      refine lv_isub C.1 C.2.1 dX4_undo_35 ?_
      exact x_iret C hW h dX4_undo_36
    · have h := h.2 c3
      refine lv_iconst (v := (-1)) C.1 C.2.1 dX4_undo_18 (by decide) ?_
      exact x_iret C hW h dX4_undo_19
set_option maxRecDepth 100000 in
theorem c_X4_upper (l : Launch) (g : GG) {u : St} {Q : Int64 → St → Prop} (h : wp_X4_upper u Q) : CL l yX4_upper cX4_upper 1 (some .long) rm_X4_upper g [.ref (gad g 0)] u Q := by
  refine ent (own := RX4) (Qc := va_Ql Q (WQ g)) (by decide) rfl (Nat.le_of_ble_eq_true rfl) ?_
  intro p e s m below meth c A ls C hl hW
  have hl : lv_has ls 1 [(0, .ref (gad g 0))] := hl
  unfold wp_X4_upper at h
  refine lv_aload_n C.1 C.2.1 dX4_upper_0 rfl (lv_at hl 0 rfl) ?_
  refine fg_X4_70 C hW dX4_upper_1 ?_
  exact x_lret C hW h dX4_upper_4
set_option maxRecDepth 100000 in
theorem c_X4_would (l : Launch) (g : GG) {p1 : Int32} {u : St} {Q : Int32 → St → Prop} (h : wp_X4_would p1 u Q) : CI l yX4_would cX4_would 2 (some .int) rm_X4_would g [.ref (gad g 0), .int p1] u Q := by
  refine ent (own := RX4) (Qc := va_Qi Q (WQ g)) (by decide) rfl (Nat.le_of_ble_eq_true rfl) ?_
  intro p e s m below meth c A ls C hl hW
  have hl : lv_has ls 2 [(0, .ref (gad g 0)), (1, .int p1)] := hl
  unfold wp_X4_would at h
  refine lv_iload_n C.1 C.2.1 dX4_would_0 rfl (lv_at hl 1 rfl) ?_
  refine lv_aload_n C.1 C.2.1 dX4_would_1 rfl (lv_at hl 0 rfl) ?_
  refine fg_X4_27 C hW dX4_would_2 ?_
  refine x_Vi (rest := [.int p1]) C hW (c_X0_sets l g (Or.inl rfl) h) km_X0_sets (oLay (Or.inl rfl)) rfl qm_X4_216 ⟨rfl, rfl⟩ (by decide) rfl hl.1 rfl (Nat.le_of_ble_eq_true rfl) ⟨Nat.zero_le _, Nat.zero_le _⟩ dX4_would_5 (fun r1 u1 H locs h hW => ?_)
  refine x_Si (rest := []) C hW (c_X4_within l g h) km_X4_within qm_X4_81 ⟨rfl, rfl⟩ (by decide) rfl hl.1 rfl (Nat.le_of_ble_eq_true rfl) ⟨Nat.zero_le _, Nat.zero_le _⟩ dX4_would_8 (fun r2 u2 H locs h hW => ?_)
  refine lv_if_ne (tgt := 16) C.1 C.2.1 dX4_would_11 (by decide) (fun c3 => ?_) (fun c3 => ?_)
  · have h := h.1 c3
    refine lv_aload_n C.1 C.2.1 dX4_would_16 rfl (lv_at hl 0 rfl) ?_
    refine fg_X4_27 C hW dX4_would_17 ?_
    refine fg_X4_137 C hW (Or.inl rfl) dX4_would_20 ?_
    refine lv_if_ne (tgt := 29) C.1 C.2.1 dX4_would_23 (by decide) (fun c4 => ?_) (fun c4 => ?_)
    · have h := h.1 c4
      refine lv_aload_n C.1 C.2.1 dX4_would_29 rfl (lv_at hl 0 rfl) ?_
      refine fg_X4_47 C hW dX4_would_30 ?_
      refine lv_aload_n C.1 C.2.1 dX4_would_33 rfl (lv_at hl 0 rfl) ?_
      refine fg_X4_27 C hW dX4_would_34 ?_
      refine lv_aload_n C.1 C.2.1 dX4_would_37 rfl (lv_at hl 0 rfl) ?_
      refine fg_X4_37 C hW dX4_would_38 ?_
      refine x_Vv (rest := []) C hW (c_X3_attach l g (Or.inl rfl) (Or.inl rfl) h) km_X3_attach oWires rfl qm_X4_175 ⟨rfl, rfl⟩ (by decide) rfl hl.1 rfl (Nat.le_of_ble_eq_true rfl) ⟨Nat.zero_le _, Nat.zero_le _⟩ dX4_would_41 (fun u5 H locs h hW => ?_)
      refine lv_aload_n C.1 C.2.1 dX4_would_44 rfl (lv_at hl 0 rfl) ?_
      refine fg_X4_47 C hW dX4_would_45 ?_
      refine lv_iload_n C.1 C.2.1 dX4_would_48 rfl (lv_at hl 1 rfl) ?_
      refine x_Vi (rest := []) C hW (c_X3_toldOf l g h) km_X3_toldOf oWires rfl qm_X4_219 ⟨rfl, rfl⟩ (by decide) rfl hl.1 rfl (Nat.le_of_ble_eq_true rfl) ⟨Nat.zero_le _, Nat.zero_le _⟩ dX4_would_49 (fun r6 u6 H locs h hW => ?_)
      exact x_iret C hW h dX4_would_52
    · have h := h.2 c4
      refine lv_bipush (v := (-4)) C.1 C.2.1 dX4_would_26 (by decide) ?_
      exact x_iret C hW h dX4_would_28
  · have h := h.2 c3
    refine lv_iconst (v := (-1)) C.1 C.2.1 dX4_would_14 (by decide) ?_
    exact x_iret C hW h dX4_would_15
set_option maxRecDepth 100000 in
theorem c_X5_tellAsked (l : Launch) (g : GG) {p1 : Int32} {u : St} {Q : Int32 → St → Prop} (h : wp_X5_tellAsked p1 u Q) : CI l yX5_tellAsked cX5_tellAsked 2 (some .int) rm_X5_tellAsked g [.ref (gad g 39), .int p1] u Q := by
  refine ent (own := RX5) (Qc := va_Qi Q (WQ g)) (by decide) rfl (Nat.le_of_ble_eq_true rfl) ?_
  intro p e s m below meth c A ls C hl hW
  have hl : lv_has ls 2 [(0, .ref (gad g 39)), (1, .int p1)] := hl
  unfold wp_X5_tellAsked at h
  refine lv_aload_n C.1 C.2.1 dX5_tellAsked_0 rfl (lv_at hl 0 rfl) ?_
  refine lv_iload_n C.1 C.2.1 dX5_tellAsked_1 rfl (lv_at hl 1 rfl) ?_
  refine fp_X5_82 C hW dX5_tellAsked_2 (fun u1 H locs e1 hW => ?_)
  have h := nxt_get h e1
  refine lv_iconst (v := 1) C.1 C.2.1 dX5_tellAsked_5 (by decide) ?_
  exact x_iret C hW h dX5_tellAsked_6
set_option maxRecDepth 100000 in
theorem c_X5_now (l : Launch) (g : GG) {p1 : Int32} {u : St} {Q : Int32 → St → Prop} (h : wp_X5_now p1 u Q) : CI l yX5_now cX5_now 2 (some .int) rm_X5_now g [.ref (gad g 39), .int p1] u Q := by
  refine ent (own := RX5) (Qc := va_Qi Q (WQ g)) (by decide) rfl (Nat.le_of_ble_eq_true rfl) ?_
  intro p e s m below meth c A ls C hl hW
  have hl : lv_has ls 2 [(0, .ref (gad g 39)), (1, .int p1)] := hl
  unfold wp_X5_now at h
  refine lv_aload_n C.1 C.2.1 dX5_now_0 rfl (lv_at hl 0 rfl) ?_
  refine fg_X5_45 C hW dX5_now_1 ?_
  refine lv_bipush (v := 10) C.1 C.2.1 dX5_now_4 (by decide) ?_
  refine lv_aload_n C.1 C.2.1 dX5_now_6 rfl (lv_at hl 0 rfl) ?_
  refine fg_X5_119 C hW dX5_now_7 ?_
  refine lv_imul C.1 C.2.1 dX5_now_10 ?_
  refine lv_iload_n C.1 C.2.1 dX5_now_11 rfl (lv_at hl 1 rfl) ?_
  refine lv_iadd C.1 C.2.1 dX5_now_12 ?_
  obtain ⟨h1, h⟩ := h
  refine x_iald C hW g_50 h1 dX5_now_13 ?_
  exact x_iret C hW h dX5_now_14
set_option maxRecDepth 100000 in
theorem k_X5_take_B27 {p : Program} {l : Launch} {e : Env} {s : State} {m : MethodId} {args : Array Value} {below : List Frame} {meth : Method} {c : Code} {g : GG} {A : Nat → Prop} {Q : St → Prop} (C : MC p s m args meth c cX5_take 2 RX5 none g A) {K27 : Int32 → St → Prop} (hK27 : ∀ (v1 : Int32) (u : St) (H : Heap) (locs : List Loc) (ls : Array Slot), K27 v1 u → WD g A s u H locs → lv_has ls 2 [(0, .ref (gad g 39)), (1, .int v1)] → W p l e rm_X5_take s m args below meth c H locs 0 0 (MQ below (va_Qv Q (WQ g) A) args s 0 0 A) (F0 m 27 ls [])) : ∀ (v1 : Int32) (u : St) (H : Heap) (locs : List Loc) (ls : Array Slot), wp_X5_take_B27 Q K27 v1 u → WD g A s u H locs → lv_has ls 2 [(0, .ref (gad g 39)), (1, .int v1)] → W p l e rm_X5_take s m args below meth c H locs 0 0 (MQ below (va_Qv Q (WQ g) A) args s 0 0 A) (F0 m 27 ls []) := by
  intro v1 u H locs ls h hW hl
  refine lv_iload_n C.1 C.2.1 dX5_take_27 rfl (lv_at hl 1 rfl) ?_
  refine lv_aload_n C.1 C.2.1 dX5_take_28 rfl (lv_at hl 0 rfl) ?_
  refine fg_X5_116 C hW dX5_take_29 ?_
  refine lv_icmp_ge (tgt := 77) C.1 C.2.1 dX5_take_32 (by decide) (fun c5 => ?_) (fun c5 => ?_)
  · have h := h.1 c5
    exact x_vret C hW h dX5_take_77
  · have h := h.2 c5
    refine lv_aload_n C.1 C.2.1 dX5_take_35 rfl (lv_at hl 0 rfl) ?_
    refine fg_X5_57 C hW dX5_take_36 ?_
    refine lv_iload_n C.1 C.2.1 dX5_take_39 rfl (lv_at hl 1 rfl) ?_
    refine lv_aload_n C.1 C.2.1 dX5_take_40 rfl (lv_at hl 0 rfl) ?_
    refine fg_X5_33 C hW dX5_take_41 ?_
    refine lv_iload_n C.1 C.2.1 dX5_take_44 rfl (lv_at hl 1 rfl) ?_
    obtain ⟨h6, h⟩ := h
    refine x_iald C hW g_46 h6 dX5_take_45 ?_
    obtain ⟨h7, h⟩ := h
    refine x_iast C hW g_54 h7 dX5_take_46 (fun u8 H locs e8 hW => ?_)
    have h := nxt_get h e8
    refine lv_aload_n C.1 C.2.1 dX5_take_47 rfl (lv_at hl 0 rfl) ?_
    refine fg_X5_60 C hW dX5_take_48 ?_
    refine lv_iload_n C.1 C.2.1 dX5_take_51 rfl (lv_at hl 1 rfl) ?_
    refine lv_aload_n C.1 C.2.1 dX5_take_52 rfl (lv_at hl 0 rfl) ?_
    refine fg_X5_36 C hW dX5_take_53 ?_
    refine lv_iload_n C.1 C.2.1 dX5_take_56 rfl (lv_at hl 1 rfl) ?_
    obtain ⟨h9, h⟩ := h
    refine x_iald C hW g_47 h9 dX5_take_57 ?_
    obtain ⟨h10, h⟩ := h
    refine x_iast C hW g_55 h10 dX5_take_58 (fun u11 H locs e11 hW => ?_)
    have h := nxt_get h e11
    refine lv_aload_n C.1 C.2.1 dX5_take_59 rfl (lv_at hl 0 rfl) ?_
    refine fg_X5_63 C hW dX5_take_60 ?_
    refine lv_iload_n C.1 C.2.1 dX5_take_63 rfl (lv_at hl 1 rfl) ?_
    refine lv_aload_n C.1 C.2.1 dX5_take_64 rfl (lv_at hl 0 rfl) ?_
    refine fg_X5_39 C hW dX5_take_65 ?_
    refine lv_iload_n C.1 C.2.1 dX5_take_68 rfl (lv_at hl 1 rfl) ?_
    obtain ⟨h12, h⟩ := h
    refine x_iald C hW g_48 h12 dX5_take_69 ?_
    obtain ⟨h13, h⟩ := h
    refine x_iast C hW g_56 h13 dX5_take_70 (fun u14 H locs e14 hW => ?_)
    have h := nxt_get h e14
    refine lv_iinc (v := (v1 + 1)) (lv' := [(1, .int (v1 + 1)), (0, .ref (gad g 39))]) C.1 C.2.1 dX5_take_71 hl (k := 1) rfl rfl (by decide) rfl (fun ls hl => ?_)
    refine lv_goto (tgt := 27) C.1 C.2.1 dX5_take_74 (by decide) ?_
    exact hK27 (v1 + 1) u14 _ _ _ h hW (lv_sub hl [1, 0] rfl)
theorem k_X5_take_L27 {p : Program} {l : Launch} {e : Env} {s : State} {m : MethodId} {args : Array Value} {below : List Frame} {meth : Method} {c : Code} {g : GG} {A : Nat → Prop} {Q : St → Prop} (C : MC p s m args meth c cX5_take 2 RX5 none g A) : ∀ (n : Nat), ∀ (v1 : Int32) (u : St) (H : Heap) (locs : List Loc) (ls : Array Slot), wp_X5_take_L27 Q n v1 u → WD g A s u H locs → lv_has ls 2 [(0, .ref (gad g 39)), (1, .int v1)] → W p l e rm_X5_take s m args below meth c H locs 0 0 (MQ below (va_Qv Q (WQ g) A) args s 0 0 A) (F0 m 27 ls []) := by
  intro n
  induction n with
  | zero => intro v1 u H locs ls h; exact False.elim h
  | succ n ih => exact k_X5_take_B27 C ih
set_option maxRecDepth 100000 in
theorem k_X5_take_B2 {p : Program} {l : Launch} {e : Env} {s : State} {m : MethodId} {args : Array Value} {below : List Frame} {meth : Method} {c : Code} {g : GG} {A : Nat → Prop} {Q : St → Prop} (C : MC p s m args meth c cX5_take 2 RX5 none g A) {K2 : Int32 → St → Prop} (hK2 : ∀ (v1 : Int32) (u : St) (H : Heap) (locs : List Loc) (ls : Array Slot), K2 v1 u → WD g A s u H locs → lv_has ls 2 [(0, .ref (gad g 39)), (1, .int v1)] → W p l e rm_X5_take s m args below meth c H locs 0 0 (MQ below (va_Qv Q (WQ g) A) args s 0 0 A) (F0 m 2 ls [])) : ∀ (v1 : Int32) (u : St) (H : Heap) (locs : List Loc) (ls : Array Slot), wp_X5_take_B2 Q K2 v1 u → WD g A s u H locs → lv_has ls 2 [(0, .ref (gad g 39)), (1, .int v1)] → W p l e rm_X5_take s m args below meth c H locs 0 0 (MQ below (va_Qv Q (WQ g) A) args s 0 0 A) (F0 m 2 ls []) := by
  intro v1 u H locs ls h hW hl
  refine lv_iload_n C.1 C.2.1 dX5_take_2 rfl (lv_at hl 1 rfl) ?_
  refine lv_bipush (v := 10) C.1 C.2.1 dX5_take_3 (by decide) ?_
  refine lv_icmp_ge (tgt := 25) C.1 C.2.1 dX5_take_5 (by decide) (fun c1 => ?_) (fun c1 => ?_)
  · have h := h.1 c1
    refine lv_iconst (v := 0) C.1 C.2.1 dX5_take_25 (by decide) ?_
    refine lv_istore_n (lv' := [(1, .int 0), (0, .ref (gad g 39))]) C.1 C.2.1 dX5_take_26 rfl hl (by decide) rfl (fun ls hl => ?_)
    obtain ⟨n, h⟩ := h
    exact k_X5_take_L27 C n 0 u _ _ _ h hW (lv_sub hl [1, 0] rfl)
  · have h := h.2 c1
    refine lv_aload_n C.1 C.2.1 dX5_take_8 rfl (lv_at hl 0 rfl) ?_
    refine fg_X5_54 C hW dX5_take_9 ?_
    refine lv_iload_n C.1 C.2.1 dX5_take_12 rfl (lv_at hl 1 rfl) ?_
    refine lv_aload_n C.1 C.2.1 dX5_take_13 rfl (lv_at hl 0 rfl) ?_
    refine lv_iload_n C.1 C.2.1 dX5_take_14 rfl (lv_at hl 1 rfl) ?_
    refine x_Vi (rest := [.int v1, .ref (gad g 53)]) C hW (c_X5_now l g h) km_X5_now oModel rfl qm_X5_122 ⟨rfl, rfl⟩ (by decide) rfl hl.1 rfl (Nat.le_of_ble_eq_true rfl) ⟨Nat.zero_le _, Nat.zero_le _⟩ dX5_take_15 (fun r2 u2 H locs h hW => ?_)
    obtain ⟨h3, h⟩ := h
    refine x_iast C hW g_53 h3 dX5_take_18 (fun u4 H locs e4 hW => ?_)
    have h := nxt_get h e4
    refine lv_iinc (v := (v1 + 1)) (lv' := [(1, .int (v1 + 1)), (0, .ref (gad g 39))]) C.1 C.2.1 dX5_take_19 hl (k := 1) rfl rfl (by decide) rfl (fun ls hl => ?_)
    refine lv_goto (tgt := 2) C.1 C.2.1 dX5_take_22 (by decide) ?_
    exact hK2 (v1 + 1) u4 _ _ _ h hW (lv_sub hl [1, 0] rfl)
theorem k_X5_take_L2 {p : Program} {l : Launch} {e : Env} {s : State} {m : MethodId} {args : Array Value} {below : List Frame} {meth : Method} {c : Code} {g : GG} {A : Nat → Prop} {Q : St → Prop} (C : MC p s m args meth c cX5_take 2 RX5 none g A) : ∀ (n : Nat), ∀ (v1 : Int32) (u : St) (H : Heap) (locs : List Loc) (ls : Array Slot), wp_X5_take_L2 Q n v1 u → WD g A s u H locs → lv_has ls 2 [(0, .ref (gad g 39)), (1, .int v1)] → W p l e rm_X5_take s m args below meth c H locs 0 0 (MQ below (va_Qv Q (WQ g) A) args s 0 0 A) (F0 m 2 ls []) := by
  intro n
  induction n with
  | zero => intro v1 u H locs ls h; exact False.elim h
  | succ n ih => exact k_X5_take_B2 C ih
set_option maxRecDepth 100000 in
theorem c_X5_take (l : Launch) (g : GG) {u : St} {Q : St → Prop} (h : wp_X5_take u Q) : CV l yX5_take cX5_take 2 none rm_X5_take g [.ref (gad g 39)] u Q := by
  refine ent (own := RX5) (Qc := va_Qv Q (WQ g)) (by decide) rfl (Nat.le_of_ble_eq_true rfl) ?_
  intro p e s m below meth c A ls C hl hW
  have hl : lv_has ls 2 [(0, .ref (gad g 39))] := hl
  unfold wp_X5_take at h
  refine lv_iconst (v := 0) C.1 C.2.1 dX5_take_0 (by decide) ?_
  refine lv_istore_n (lv' := [(1, .int 0), (0, .ref (gad g 39))]) C.1 C.2.1 dX5_take_1 rfl hl (by decide) rfl (fun ls hl => ?_)
  obtain ⟨n, h⟩ := h
  exact k_X5_take_L2 C n 0 u _ _ _ h hW (lv_sub hl [1, 0] rfl)
set_option maxRecDepth 100000 in
theorem c_X5_has (l : Launch) (g : GG) {p0 : Int32} {p1 : Int32} {u : St} {Q : Int32 → St → Prop} (h : wp_X5_has p0 p1 u Q) : CI l yX5_has cX5_has 2 (some .boolean) rm_X5_has g [.int p0, .int p1] u Q := by
  refine ent (own := RX5) (Qc := va_Qi Q (WQ g)) (by decide) rfl (Nat.le_of_ble_eq_true rfl) ?_
  intro p e s m below meth c A ls C hl hW
  have hl : lv_has ls 2 [(0, .int p0), (1, .int p1)] := hl
  unfold wp_X5_has at h
  refine lv_iload_n C.1 C.2.1 dX5_has_0 rfl (lv_at hl 0 rfl) ?_
  refine lv_iload_n C.1 C.2.1 dX5_has_1 rfl (lv_at hl 1 rfl) ?_
  refine lv_ishr C.1 C.2.1 dX5_has_2 ?_
  refine lv_iconst (v := 1) C.1 C.2.1 dX5_has_3 (by decide) ?_
  refine lv_iand C.1 C.2.1 dX5_has_4 ?_
  refine lv_iconst (v := 1) C.1 C.2.1 dX5_has_5 (by decide) ?_
  refine lv_icmp_ne (tgt := 13) C.1 C.2.1 dX5_has_6 (by decide) (fun c1 => ?_) (fun c1 => ?_)
  · have h := h.1 c1
    refine lv_iconst (v := 0) C.1 C.2.1 dX5_has_13 (by decide) ?_
    exact x_zret C hW rfl h dX5_has_14
  · have h := h.2 c1
    refine lv_iconst (v := 1) C.1 C.2.1 dX5_has_9 (by decide) ?_
    refine lv_goto (tgt := 14) C.1 C.2.1 dX5_has_10 (by decide) ?_
    exact x_zret C hW rfl h dX5_has_14
set_option maxRecDepth 100000 in
theorem c_X5_doesBy (l : Launch) (g : GG) {p0 : Int32} {p1 : Int32} {p2 : Int32} {p3 : Int32} {u : St} {Q : Int32 → St → Prop} (h : wp_X5_doesBy p0 p1 p2 p3 u Q) : CI l yX5_doesBy cX5_doesBy 4 (some .boolean) rm_X5_doesBy g [.int p0, .int p1, .int p2, .int p3] u Q := by
  refine ent (own := RX5) (Qc := va_Qi Q (WQ g)) (by decide) rfl (Nat.le_of_ble_eq_true rfl) ?_
  intro p e s m below meth c A ls C hl hW
  have hl : lv_has ls 4 [(0, .int p0), (1, .int p1), (2, .int p2), (3, .int p3)] := hl
  unfold wp_X5_doesBy at h
  refine lv_iload_n C.1 C.2.1 dX5_doesBy_0 rfl (lv_at hl 0 rfl) ?_
  by_cases c1 : p0 = 2
  · refine lv_tableIn (off := 31) (tgt := 32) C.1 C.2.1 dX5_doesBy_1 (by rw [c1]; decide +kernel) (by rw [c1]; decide +kernel) (by rw [c1]; decide +kernel) (by decide) ?_
    have h := h.1 c1
    refine lv_iload_n C.1 C.2.1 dX5_doesBy_32 rfl (lv_at hl 2 rfl) ?_
    refine lv_iconst (v := 2) C.1 C.2.1 dX5_doesBy_33 (by decide) ?_
    refine lv_irem C.1 C.2.1 dX5_doesBy_34 (by decide) ?_
    refine lv_if_ne (tgt := 42) C.1 C.2.1 dX5_doesBy_35 (by decide) (fun c2 => ?_) (fun c2 => ?_)
    · have h := h.1 c2
      refine lv_iconst (v := 0) C.1 C.2.1 dX5_doesBy_42 (by decide) ?_
      exact x_zret C hW rfl h dX5_doesBy_43
    · have h := h.2 c2
      refine lv_iconst (v := 1) C.1 C.2.1 dX5_doesBy_38 (by decide) ?_
      refine lv_goto (tgt := 43) C.1 C.2.1 dX5_doesBy_39 (by decide) ?_
      exact x_zret C hW rfl h dX5_doesBy_43
  · skip
    by_cases c3 : p0 = 3
    · refine lv_tableIn (off := 74) (tgt := 75) C.1 C.2.1 dX5_doesBy_1 (by rw [c3]; decide +kernel) (by rw [c3]; decide +kernel) (by rw [c3]; decide +kernel) (by decide) ?_
      have h := h.2.1 c3
      refine lv_iconst (v := 1) C.1 C.2.1 dX5_doesBy_75 (by decide) ?_
      exact x_zret C hW rfl h dX5_doesBy_76
    · skip
      by_cases c4 : p0 = 4
      · refine lv_tableIn (off := 43) (tgt := 44) C.1 C.2.1 dX5_doesBy_1 (by rw [c4]; decide +kernel) (by rw [c4]; decide +kernel) (by rw [c4]; decide +kernel) (by decide) ?_
        have h := h.2.2.1 c4
        refine lv_iload_n C.1 C.2.1 dX5_doesBy_44 rfl (lv_at hl 1 rfl) ?_
        refine lv_iload_n C.1 C.2.1 dX5_doesBy_45 rfl (lv_at hl 3 rfl) ?_
        refine lv_icmp_lt (tgt := 53) C.1 C.2.1 dX5_doesBy_46 (by decide) (fun c5 => ?_) (fun c5 => ?_)
        · have h := h.1 c5
          refine lv_iconst (v := 0) C.1 C.2.1 dX5_doesBy_53 (by decide) ?_
          exact x_zret C hW rfl h dX5_doesBy_54
        · have h := h.2 c5
          refine lv_iconst (v := 1) C.1 C.2.1 dX5_doesBy_49 (by decide) ?_
          refine lv_goto (tgt := 54) C.1 C.2.1 dX5_doesBy_50 (by decide) ?_
          exact x_zret C hW rfl h dX5_doesBy_54
      · skip
        by_cases c6 : p0 = 5
        · refine lv_tableIn (off := 54) (tgt := 55) C.1 C.2.1 dX5_doesBy_1 (by rw [c6]; decide +kernel) (by rw [c6]; decide +kernel) (by rw [c6]; decide +kernel) (by decide) ?_
          have h := h.2.2.2.1 c6
          refine lv_iload_n C.1 C.2.1 dX5_doesBy_55 rfl (lv_at hl 2 rfl) ?_
          refine lv_iconst (v := 2) C.1 C.2.1 dX5_doesBy_56 (by decide) ?_
          refine lv_irem C.1 C.2.1 dX5_doesBy_57 (by decide) ?_
          refine lv_if_ne (tgt := 73) C.1 C.2.1 dX5_doesBy_58 (by decide) (fun c7 => ?_) (fun c7 => ?_)
          · have h := h.1 c7
            refine lv_iconst (v := 0) C.1 C.2.1 dX5_doesBy_73 (by decide) ?_
            exact x_zret C hW rfl h dX5_doesBy_74
          · have h := h.2 c7
            refine lv_iload_n C.1 C.2.1 dX5_doesBy_61 rfl (lv_at hl 2 rfl) ?_
            refine lv_iload_n C.1 C.2.1 dX5_doesBy_62 rfl (lv_at hl 3 rfl) ?_
            refine lv_iconst (v := 1) C.1 C.2.1 dX5_doesBy_63 (by decide) ?_
            refine lv_iadd C.1 C.2.1 dX5_doesBy_64 ?_
            obtain ⟨h8, h⟩ := h
            refine lv_irem C.1 C.2.1 dX5_doesBy_65 h8 ?_
            refine lv_if_ne (tgt := 73) C.1 C.2.1 dX5_doesBy_66 (by decide) (fun c9 => ?_) (fun c9 => ?_)
            · have h := h.1 c9
              refine lv_iconst (v := 0) C.1 C.2.1 dX5_doesBy_73 (by decide) ?_
              exact x_zret C hW rfl h dX5_doesBy_74
            · have h := h.2 c9
              refine lv_iconst (v := 1) C.1 C.2.1 dX5_doesBy_69 (by decide) ?_
              refine lv_goto (tgt := 74) C.1 C.2.1 dX5_doesBy_70 (by decide) ?_
              exact x_zret C hW rfl h dX5_doesBy_74
        · skip
          have c10 : (p0).toInt < 2 ∨ 5 < (p0).toInt := by
            have ec1 : (p0).toInt ≠ 2 := fun z => c1 (Int32.toInt_inj.mp (by rw [z]; rfl))
            have ec3 : (p0).toInt ≠ 3 := fun z => c3 (Int32.toInt_inj.mp (by rw [z]; rfl))
            have ec4 : (p0).toInt ≠ 4 := fun z => c4 (Int32.toInt_inj.mp (by rw [z]; rfl))
            have ec6 : (p0).toInt ≠ 5 := fun z => c6 (Int32.toInt_inj.mp (by rw [z]; rfl))
            omega
          refine lv_tableOut (tgt := 75) C.1 C.2.1 dX5_doesBy_1 c10 (by decide) ?_
          have h := h.2.2.2.2 c10
          refine lv_iconst (v := 1) C.1 C.2.1 dX5_doesBy_75 (by decide) ?_
          exact x_zret C hW rfl h dX5_doesBy_76
set_option maxRecDepth 100000 in
theorem c_X5_conducts (l : Launch) (g : GG) {p1 : Int32} {u : St} {Q : Int32 → St → Prop} (h : wp_X5_conducts p1 u Q) : CI l yX5_conducts cX5_conducts 2 (some .boolean) rm_X5_conducts g [.ref (gad g 39), .int p1] u Q := by
  refine ent (own := RX5) (Qc := va_Qi Q (WQ g)) (by decide) rfl (Nat.le_of_ble_eq_true rfl) ?_
  intro p e s m below meth c A ls C hl hW
  have hl : lv_has ls 2 [(0, .ref (gad g 39)), (1, .int p1)] := hl
  unfold wp_X5_conducts at h
  refine lv_aload_n C.1 C.2.1 dX5_conducts_0 rfl (lv_at hl 0 rfl) ?_
  refine fg_X5_57 C hW dX5_conducts_1 ?_
  refine lv_iload_n C.1 C.2.1 dX5_conducts_4 rfl (lv_at hl 1 rfl) ?_
  obtain ⟨h1, h⟩ := h
  refine x_iald C hW g_54 h1 dX5_conducts_5 ?_
  refine lv_iconst (v := 3) C.1 C.2.1 dX5_conducts_6 (by decide) ?_
  refine lv_icmp_eq (tgt := 55) C.1 C.2.1 dX5_conducts_7 (by decide) (fun c2 => ?_) (fun c2 => ?_)
  · have h := h.1 c2
    refine lv_iconst (v := 1) C.1 C.2.1 dX5_conducts_55 (by decide) ?_
    refine lv_goto (tgt := 60) C.1 C.2.1 dX5_conducts_56 (by decide) ?_
    exact x_zret C hW rfl h dX5_conducts_60
  · have h := h.2 c2
    refine lv_aload_n C.1 C.2.1 dX5_conducts_10 rfl (lv_at hl 0 rfl) ?_
    refine fg_X5_54 C hW dX5_conducts_11 ?_
    refine lv_iconst (v := 0) C.1 C.2.1 dX5_conducts_14 (by decide) ?_
    obtain ⟨h3, h⟩ := h
    refine x_iald C hW g_53 h3 dX5_conducts_15 ?_
    refine lv_iload_n C.1 C.2.1 dX5_conducts_16 rfl (lv_at hl 1 rfl) ?_
    refine x_Si (rest := []) C hW (c_X5_has l g h) km_X5_has qm_X5_125 ⟨rfl, rfl⟩ (by decide) rfl hl.1 rfl (Nat.le_of_ble_eq_true rfl) ⟨Nat.zero_le _, Nat.zero_le _⟩ dX5_conducts_17 (fun r4 u4 H locs h hW => ?_)
    refine lv_if_eq (tgt := 59) C.1 C.2.1 dX5_conducts_20 (by decide) (fun c5 => ?_) (fun c5 => ?_)
    · have h := h.1 c5
      refine lv_iconst (v := 0) C.1 C.2.1 dX5_conducts_59 (by decide) ?_
      exact x_zret C hW rfl h dX5_conducts_60
    · have h := h.2 c5
      refine lv_aload_n C.1 C.2.1 dX5_conducts_23 rfl (lv_at hl 0 rfl) ?_
      refine fg_X5_57 C hW dX5_conducts_24 ?_
      refine lv_iload_n C.1 C.2.1 dX5_conducts_27 rfl (lv_at hl 1 rfl) ?_
      obtain ⟨h6, h⟩ := h
      refine x_iald C hW g_54 h6 dX5_conducts_28 ?_
      refine lv_aload_n C.1 C.2.1 dX5_conducts_29 rfl (lv_at hl 0 rfl) ?_
      refine fg_X5_54 C hW dX5_conducts_30 ?_
      refine lv_iconst (v := 3) C.1 C.2.1 dX5_conducts_33 (by decide) ?_
      refine lv_iload_n C.1 C.2.1 dX5_conducts_34 rfl (lv_at hl 1 rfl) ?_
      refine lv_iadd C.1 C.2.1 dX5_conducts_35 ?_
      obtain ⟨h7, h⟩ := h
      refine x_iald C hW g_53 h7 dX5_conducts_36 ?_
      refine lv_aload_n C.1 C.2.1 dX5_conducts_37 rfl (lv_at hl 0 rfl) ?_
      refine fg_X5_54 C hW dX5_conducts_38 ?_
      refine lv_iconst (v := 1) C.1 C.2.1 dX5_conducts_41 (by decide) ?_
      obtain ⟨h8, h⟩ := h
      refine x_iald C hW g_53 h8 dX5_conducts_42 ?_
      refine lv_aload_n C.1 C.2.1 dX5_conducts_43 rfl (lv_at hl 0 rfl) ?_
      refine fg_X5_42 C hW dX5_conducts_44 ?_
      refine lv_iload_n C.1 C.2.1 dX5_conducts_47 rfl (lv_at hl 1 rfl) ?_
      obtain ⟨h9, h⟩ := h
      refine x_iald C hW g_49 h9 dX5_conducts_48 ?_
      refine x_Si (rest := []) C hW (c_X5_doesBy l g h) km_X5_doesBy qm_X5_129 ⟨rfl, rfl⟩ (by decide) rfl hl.1 rfl (Nat.le_of_ble_eq_true rfl) ⟨Nat.zero_le _, Nat.zero_le _⟩ dX5_conducts_49 (fun r10 u10 H locs h hW => ?_)
      refine lv_if_eq (tgt := 59) C.1 C.2.1 dX5_conducts_52 (by decide) (fun c11 => ?_) (fun c11 => ?_)
      · have h := h.1 c11
        refine lv_iconst (v := 0) C.1 C.2.1 dX5_conducts_59 (by decide) ?_
        exact x_zret C hW rfl h dX5_conducts_60
      · have h := h.2 c11
        refine lv_iconst (v := 1) C.1 C.2.1 dX5_conducts_55 (by decide) ?_
        refine lv_goto (tgt := 60) C.1 C.2.1 dX5_conducts_56 (by decide) ?_
        exact x_zret C hW rfl h dX5_conducts_60
