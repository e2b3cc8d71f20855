/-! MACHINE: a shelf comes into being; make(3, 0, 0) on it -/
theorem mx0 {n : Nat} (h : n < 2 ^ 31) : (if (0 : Int32) < nI n then nI n else 0) = nI n := by
  by_cases c : (0 : Int32) < nI n
  · rw [if_pos c]
  · rw [if_neg c]
    have h1 : n = 0 := by
      have h2 := (not_congr (nI_ltI (a := 0) (b := n) (by decide) h)).mp c
      omega
    rw [h1]
    rfl
set_option maxRecDepth 100000 in
theorem k_X2_fill {p : Program} {l : Launch} {e : Env} {R : Room} {s : State} {m : MethodId} {args : Array Value} {below : List Frame} {meth : Method} {c : Code} {g : GG} {A : Nat → Prop} {P w h q1 q2 cells slots : Nat} {Qs : State → Prop} (hP : P ≤ 6) (C : NC p s m args meth c cX2_init 4 RX2 g A) (kk : ∀ (f : Nat → Int32) (H : Heap) (locs : List Loc) (ls : Array Slot), (∀ j, j < P → f j = -1) → ND g A s [(h, .inr (2, [.int (nI P), .int (nI w), .ref q1, .ref q2])), (q1, Zf g P f), (q2, Za g (P * w))] H locs → W p l e R s m args below meth c H locs cells slots Qs (F0 m 70 ls [])) : ∀ (n i : Nat) (f : Nat → Int32) (H : Heap) (locs : List Loc) (ls : Array Slot), P - i < n → i ≤ P → (∀ j, j < i → f j = -1) → ND g A s [(h, .inr (2, [.int (nI P), .int (nI w), .ref q1, .ref q2])), (q1, Zf g P f), (q2, Za g (P * w))] H locs → lv_has ls 4 [(3, .int (nI i)), (0, .ref h)] → W p l e R s m args below meth c H locs cells slots Qs (F0 m 49 ls []) := by
  intro n
  induction n with
  | zero => intro i f H locs ls hm; exact absurd hm (Nat.not_lt_zero _)
  | succ n ih =>
    intro i f H locs ls hm hi hf hW hl
    refine lv_iload_n C.1 C.2.1 dX2_init_49 rfl (lv_at hl 0 rfl) ?_
    refine lv_aload_n C.1 C.2.1 dX2_init_50 rfl (lv_at hl 1 rfl) ?_
    refine n_get C hW cd2 0 (by decide) rfl rfl qf_X2_15 dX2_init_51 ?_
    refine lv_icmp_ge (tgt := 70) C.1 C.2.1 dX2_init_54 (by decide) (fun c1 => ?_) (fun c1 => ?_)
    · have e1 : i = P := by
        have := (nI_leI (by omega) (by omega)).mp c1
        omega
      subst e1
      exact kk f H locs ls hf hW
    · have e1 : i < P := Nat.not_le.mp (fun q => c1 ((nI_leI (by omega) (by omega)).mpr q))
      refine lv_aload_n C.1 C.2.1 dX2_init_57 rfl (lv_at hl 1 rfl) ?_
      refine n_get C hW cd2 2 (by decide) rfl rfl qf_X2_24 dX2_init_58 ?_
      refine lv_iload_n C.1 C.2.1 dX2_init_61 rfl (lv_at hl 0 rfl) ?_
      refine lv_iconst (v := -1) C.1 C.2.1 dX2_init_62 (by decide) ?_
      refine n_iast C hW 1 rfl (vp_in_nI e1 (by omega)) dX2_init_63 (fun H locs hW => ?_)
      rw [tNn (by omega)] at hW
      have hW : ND g A s [(h, .inr (2, [.int (nI P), .int (nI w), .ref q1, .ref q2])), (q1, Zf g P (upd f i (-1))), (q2, Za g (P * w))] H _ := hW
      refine lv_iinc (v := nI (i + 1)) (lv' := [(3, .int (nI (i + 1))), (0, .ref h)]) C.1 C.2.1 dX2_init_64 hl (k := 0) rfl (nI_1 i) (by decide) rfl (fun ls hl => ?_)
      refine lv_goto (tgt := 49) C.1 C.2.1 dX2_init_67 (by decide) ?_
      refine ih (i + 1) _ H locs ls (by omega) e1 (fun j hj => ?_) hW hl
      unfold upd
      by_cases e2 : j = i
      · rw [if_pos e2]
      · rw [if_neg e2]; exact hf j (by omega)
set_option maxRecDepth 100000 in
theorem c_X2_init (l : Launch) (g : GG) (h P w : Nat) (hP : P ≤ 6) (hw : w ≤ 60) : CN l yX2_init cX2_init 4 { frames := 1, cells := 2, slots := P + P * w, locals := 20 } g [.ref h, .int (nI P), .int (nI w)] [(h, .inr (2, [.int 0, .int 0, .null, .null]))] 2 (P + P * w) (fun ws => ∃ q1 q2 f, (∀ i, i < P → f i = -1) ∧ ws = [(h, .inr (2, [.int (nI P), .int (nI w), .ref q1, .ref q2])), (q1, Zf g P f), (q2, Za g (P * w))]) := by
  have hPw : P * w ≤ 6 * 60 := Nat.mul_le_mul hP hw
  refine n_ent (own := RX2) (by decide) rfl (Nat.le_of_ble_eq_true rfl) ?_
  intro p e s m below meth c A ls C hret hlk hnm hl hW
  have hl : lv_has ls 4 [(0, .ref h), (1, .int (nI P)), (2, .int (nI w))] := hl
  refine lv_aload_n C.1 C.2.1 dX2_init_0 rfl (lv_at hl 0 rfl) ?_
  refine n_obj C hl.1 qm_X2_3 ⟨Nat.le_of_ble_eq_true rfl, Nat.le_of_ble_eq_true rfl⟩ dX2_init_1 ?_
  refine lv_aload_n C.1 C.2.1 dX2_init_4 rfl (lv_at hl 0 rfl) ?_
  refine lv_iconst (v := 0) C.1 C.2.1 dX2_init_5 (by decide) ?_
  refine lv_iload_n C.1 C.2.1 dX2_init_6 rfl (lv_at hl 1 rfl) ?_
  refine n_mmax C hl.1 qm_X2_9 (Nat.le_of_ble_eq_true rfl) (Nat.le_of_ble_eq_true rfl) ⟨Nat.zero_le _, Nat.zero_le _⟩ dX2_init_7 ?_
  rw [mx0 (by omega)]
  refine n_putF C hnm hW cd2 0 (by decide) rfl rfl rfl rfl (Nat.le_of_ble_eq_true rfl) qf_X2_15 dX2_init_10 (fun H locs hW => ?_)
  have hW : ND g A s [(h, .inr (2, [.int (nI P), .int 0, .null, .null]))] H _ := hW
  refine lv_aload_n C.1 C.2.1 dX2_init_13 rfl (lv_at hl 0 rfl) ?_
  refine lv_iconst (v := 0) C.1 C.2.1 dX2_init_14 (by decide) ?_
  refine lv_iload_n C.1 C.2.1 dX2_init_15 rfl (lv_at hl 2 rfl) ?_
  refine n_mmax C hl.1 qm_X2_9 (Nat.le_of_ble_eq_true rfl) (Nat.le_of_ble_eq_true rfl) ⟨Nat.zero_le _, Nat.zero_le _⟩ dX2_init_16 ?_
  rw [mx0 (by omega)]
  refine n_putF C hnm hW cd2 1 (by decide) rfl rfl rfl rfl (Nat.le_of_ble_eq_true rfl) qf_X2_21 dX2_init_19 (fun H locs hW => ?_)
  have hW : ND g A s [(h, .inr (2, [.int (nI P), .int (nI w), .null, .null]))] H _ := hW
  refine lv_aload_n C.1 C.2.1 dX2_init_22 rfl (lv_at hl 0 rfl) ?_
  refine lv_aload_n C.1 C.2.1 dX2_init_23 rfl (lv_at hl 0 rfl) ?_
  refine n_get C hW cd2 0 (by decide) rfl rfl qf_X2_15 dX2_init_24 ?_
  refine n_newi C hW P rfl (by omega) ⟨Nat.le_of_ble_eq_true rfl, by show 0 + P ≤ P + P * w; omega⟩ dX2_init_27 (fun q1 H hW => ?_)
  have hW : ND g A s [(h, .inr (2, [.int (nI P), .int (nI w), .null, .null])), (q1, Za g P)] H _ := hW
  refine n_putF C hnm hW cd2 2 (by decide) rfl rfl rfl rfl (Nat.le_of_ble_eq_true rfl) qf_X2_24 dX2_init_29 (fun H locs hW => ?_)
  have hW : ND g A s [(h, .inr (2, [.int (nI P), .int (nI w), .ref q1, .null])), (q1, Za g P)] H _ := hW
  refine lv_aload_n C.1 C.2.1 dX2_init_32 rfl (lv_at hl 0 rfl) ?_
  refine lv_aload_n C.1 C.2.1 dX2_init_33 rfl (lv_at hl 0 rfl) ?_
  refine n_get C hW cd2 0 (by decide) rfl rfl qf_X2_15 dX2_init_34 ?_
  refine lv_aload_n C.1 C.2.1 dX2_init_37 rfl (lv_at hl 0 rfl) ?_
  refine n_get C hW cd2 1 (by decide) rfl rfl qf_X2_21 dX2_init_38 ?_
  refine lv_imul C.1 C.2.1 dX2_init_41 ?_
  refine n_newi C hW (P * w) (pk_mul P w) (by omega) ⟨Nat.le_of_ble_eq_true rfl, by show 0 + P + P * w ≤ P + P * w; omega⟩ dX2_init_42 (fun q2 H hW => ?_)
  have hW : ND g A s [(h, .inr (2, [.int (nI P), .int (nI w), .ref q1, .null])), (q1, Za g P), (q2, Za g (P * w))] H _ := hW
  refine n_putF C hnm hW cd2 3 (by decide) rfl rfl rfl rfl (Nat.le_of_ble_eq_true rfl) qf_X2_28 dX2_init_44 (fun H locs hW => ?_)
  have hW : ND g A s [(h, .inr (2, [.int (nI P), .int (nI w), .ref q1, .ref q2])), (q1, Zf g P (fun _ => 0)), (q2, Za g (P * w))] H _ := hW
  refine W.widen (k := 2) (n := P + P * w) (by omega) (by omega) ?_
  refine lv_iconst (v := 0) C.1 C.2.1 dX2_init_47 (by decide) ?_
  refine lv_istore_n (lv' := [(3, .int 0), (0, .ref h), (1, .int (nI P)), (2, .int (nI w))]) C.1 C.2.1 dX2_init_48 rfl hl (by decide) rfl (fun ls hl => ?_)
  exact k_X2_fill hP C (fun f H locs ls hf hW => n_ret C hret hlk hW ⟨q1, q2, f, hf, rfl⟩ dX2_init_70) (P + 1) 0 (fun _ => 0) H locs ls (by omega) (Nat.zero_le _) (fun j hj => absurd hj (Nat.not_lt_zero _)) hW (lv_sub hl [0, 1] rfl)
set_option maxRecDepth 100000 in
theorem c_within0 (l : Launch) {a b : Nat} (h : a < b) (hb : b < 2 ^ 31) : Met l yX4_within (.code yX4_within cX4_within 2 (some .boolean) :: BIG) rm_X4_within (va_Pc [.int (nI a), .int (nI b)] (fun _ => True)) (va_Qi (S := Unit) (fun r _ => r = 1) (fun _ _ => True) (fun _ => False)) 0 0 (fun _ => False) := by
  refine Met.ofW (cc := cX4_within) (maxL := 2) (ret := some .boolean) (by decide) rfl ?_
  intro p e s m args below meth c s₁ B hml hv
  obtain ⟨rfl, -⟩ := hv
  have hl := lv_entry [.int (nI a), .int (nI b)] (n := 2) (Nat.le_of_ble_eq_true rfl)
  rw [lg_entry_eq]
  generalize (lg_sl ([.int (nI a), .int (nI b)]) ++ List.replicate (2 - (lg_sl ([.int (nI a), .int (nI b)])).length) Slot.unset).toArray = ls at hl ⊢
  have hl : lv_has ls 2 [(0, .int (nI a)), (1, .int (nI b))] := hl
  refine lv_iload_n B.exec B.bytes dX4_within_0 rfl (lv_at hl 0 rfl) ?_
  refine lv_if_lt (tgt := 13) B.exec B.bytes dX4_within_1 (by decide) (fun c1 => absurd c1 (nI_pos (by omega))) (fun c1 => ?_)
  refine lv_iload_n B.exec B.bytes dX4_within_4 rfl (lv_at hl 0 rfl) ?_
  refine lv_iload_n B.exec B.bytes dX4_within_5 rfl (lv_at hl 1 rfl) ?_
  refine lv_icmp_ge (tgt := 13) B.exec B.bytes dX4_within_6 (by decide) (fun c2 => absurd c2 (nI_ge h hb)) (fun c2 => ?_)
  refine lv_iconst (v := 1) B.exec B.bytes dX4_within_9 (by decide) ?_
  refine lv_goto (tgt := 14) B.exec B.bytes dX4_within_10 (by decide) ?_
  exact W.zret (hlocks := B.notSynchronized) B.exec B.bytes B.returns rfl (fun t ht hWm => ⟨⟨1, (), rfl, rfl, trivial⟩, va_S.rf.F ht⟩) (fun q h => absurd h List.not_mem_nil) dX4_within_14
set_option maxRecDepth 100000 in
theorem c_make0 (l : Launch) (g : GG) (h a b : Nat) (f : Nat → Int32) : CN l yX2_make cX2_make 5 rm_X2_make g [.ref h, .int 3, .int 0, .int 0] [(h, .inr (2, [.int (nI 4), .int (nI 40), .ref a, .ref b])), (a, Zf g 4 f)] 0 0 (fun w => w = [(h, .inr (2, [.int (nI 4), .int (nI 40), .ref a, .ref b])), (a, Zf g 4 (upd f 3 0))]) := by
  refine n_ent (own := RX2) (by decide) rfl (Nat.le_of_ble_eq_true rfl) ?_
  intro p e s m below meth c A ls C hret hlk hnm hl hW
  have hl : lv_has ls 5 [(0, .ref h), (1, .int 3), (2, .int 0), (3, .int 0)] := hl
  have ok := C.2.2.2.2.1
  refine lv_iload_n C.1 C.2.1 dX2_make_0 rfl (lv_at hl 1 rfl) ?_
  refine lv_aload_n C.1 C.2.1 dX2_make_1 rfl (lv_at hl 0 rfl) ?_
  refine n_get C hW cd2 0 (by decide) rfl rfl qf_X2_15 dX2_make_2 ?_
  refine va_calli (va_runSN (host := "StrayKeys") (rest := []) ⟨C.1, C.2.1, C.2.2.1, C.2.2.2.1, ok⟩ (c_within0 l (a := 3) (b := 4) (by decide) (by decide)) ⟨va_cnB 2 ok (good_big km_X4_within.1) rfl rfl rfl (C.2.2.2.2.2.2.1.2 _ qmn_X2_31) (ok _ km_X4_within.2.2.1) km_X4_within.2.2.2 ⟨Nat.le_of_ble_eq_true rfl, Nat.le_of_ble_eq_true rfl⟩, ok _ km_X4_within.2.1, trivial⟩ ⟨fun _ _ _ _ q => ⟨q.1, trivial⟩, fun U hU hWm => ⟨rfl, trivial⟩⟩ rfl rfl hl.1 rfl (lv_room (Nat.le_of_ble_eq_true rfl)) dX2_make_5 ⟨Nat.le_of_ble_eq_true rfl, Nat.le_of_ble_eq_true rfl⟩) hW.2.2 (fun q _ h => h.elim) (fun q h => h.elim) (fun r u t H1 locs1 ht hvm hr hB _ hk hS => ?_)
  have hW : ND g A s [(h, .inr (2, [.int (nI 4), .int (nI 40), .ref a, .ref b])), (a, Zf g 4 f)] H1 locs1 := ⟨hW.1.kept (fun k q hq => hk _ ((hW.1 k q hq).lt) (fun h => h)), hW.2.1, hS⟩
  subst hr
  refine lv_if_eq (tgt := 60) C.1 C.2.1 dX2_make_8 (by decide) (fun c => absurd c (by decide)) (fun _ => ?_)
  refine lv_iload_n C.1 C.2.1 dX2_make_11 rfl (lv_at hl 2 rfl) ?_
  refine lv_if_lt (tgt := 60) C.1 C.2.1 dX2_make_12 (by decide) (fun c => absurd c (by decide)) (fun _ => ?_)
  refine lv_iload_n C.1 C.2.1 dX2_make_15 rfl (lv_at hl 2 rfl) ?_
  refine lv_aload_n C.1 C.2.1 dX2_make_16 rfl (lv_at hl 0 rfl) ?_
  refine n_get C hW cd2 1 (by decide) rfl rfl qf_X2_21 dX2_make_17 ?_
  refine lv_icmp_gt (tgt := 60) C.1 C.2.1 dX2_make_20 (by decide) (fun c => absurd c (by decide)) (fun _ => ?_)
  refine lv_aload_n C.1 C.2.1 dX2_make_23 rfl (lv_at hl 0 rfl) ?_
  refine n_get C hW cd2 2 (by decide) rfl rfl qf_X2_24 dX2_make_24 ?_
  refine lv_iload_n C.1 C.2.1 dX2_make_27 rfl (lv_at hl 1 rfl) ?_
  refine lv_iload_n C.1 C.2.1 dX2_make_28 rfl (lv_at hl 2 rfl) ?_
  refine n_iast C hW 1 rfl (vp_in_nI (n := 3) (by decide) (by decide)) dX2_make_29 (fun H locs hW => ?_)
  have hW : ND g A s [(h, .inr (2, [.int (nI 4), .int (nI 40), .ref a, .ref b])), (a, Zf g 4 (upd f 3 0))] H _ := hW
  refine lv_iconst (v := 0) C.1 C.2.1 dX2_make_30 (by decide) ?_
  refine lv_istore (lv' := [(4, .int 0), (0, .ref h), (1, .int 3), (2, .int 0), (3, .int 0)]) C.1 C.2.1 dX2_make_31 hl (by decide) rfl (fun ls hl => ?_)
  refine lv_iload C.1 C.2.1 dX2_make_33 (lv_at hl 0 rfl) ?_
  refine lv_iload_n C.1 C.2.1 dX2_make_35 rfl (lv_at hl 3 rfl) ?_
  refine lv_icmp_ge (tgt := 60) C.1 C.2.1 dX2_make_36 (by decide) (fun _ => ?_) (fun c => absurd (by decide) c)
  exact n_ret C hret hlk hW rfl dX2_make_60
