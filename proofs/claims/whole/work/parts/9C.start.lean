/-! THE LAW, from its entry -/
theorem NX_of {s : State} {args : Array Value} (tb : ∀ w ∈ tables_1, w.before args s = true) : NX s := ⟨List.forall_mem_cons.mpr ⟨va_Nw.of rfl (tb _ qtf_0), List.forall_mem_cons.mpr ⟨va_Nw.of rfl (tb _ qtf_1), List.forall_mem_cons.mpr ⟨va_Nw.of rfl (tb _ qtf_2), List.forall_mem_cons.mpr ⟨va_Nw.of rfl (tb _ qtf_3), List.forall_mem_cons.mpr ⟨va_Nw.of rfl (tb _ qtf_4), List.forall_mem_cons.mpr ⟨va_Nw.of rfl (tb _ qtf_5), List.forall_mem_cons.mpr ⟨va_Nw.of rfl (tb _ qtf_6), List.forall_mem_cons.mpr ⟨va_Nw.of rfl (tb _ qtf_7), List.forall_mem_cons.mpr ⟨va_Nw.of rfl (tb _ qtf_8), List.forall_mem_cons.mpr ⟨va_Nw.of rfl (tb _ qtf_9), List.forall_mem_cons.mpr ⟨va_Nw.of rfl (tb _ qtf_10), List.forall_mem_cons.mpr ⟨va_Nw.of rfl (tb _ qtf_11), fun _ h => absurd h List.not_mem_nil⟩⟩⟩⟩⟩⟩⟩⟩⟩⟩⟩⟩, List.forall_mem_cons.mpr ⟨va_Nw.of rfl (tb _ qtm_0), List.forall_mem_cons.mpr ⟨va_Nw.of rfl (tb _ qtm_1), List.forall_mem_cons.mpr ⟨va_Nw.of rfl (tb _ qtm_2), List.forall_mem_cons.mpr ⟨va_Nw.of rfl (tb _ qtm_3), List.forall_mem_cons.mpr ⟨va_Nw.of rfl (tb _ qtm_4), List.forall_mem_cons.mpr ⟨va_Nw.of rfl (tb _ qtm_5), List.forall_mem_cons.mpr ⟨va_Nw.of rfl (tb _ qtm_6), List.forall_mem_cons.mpr ⟨va_Nw.of rfl (tb _ qtm_7), List.forall_mem_cons.mpr ⟨va_Nw.of rfl (tb _ qtm_8), List.forall_mem_cons.mpr ⟨va_Nw.of rfl (tb _ qtm_9), List.forall_mem_cons.mpr ⟨va_Nw.of rfl (tb _ qtm_10), List.forall_mem_cons.mpr ⟨va_Nw.of rfl (tb _ qtm_11), fun _ h => absurd h List.not_mem_nil⟩⟩⟩⟩⟩⟩⟩⟩⟩⟩⟩⟩⟩
theorem KX_of {s : State} {args : Array Value} (ok : ∀ w ∈ BIG, w.before args s = true) (tb : ∀ w ∈ tables_1, w.before args s = true) (st : Nat → Nat) : ∃ g : GG, KX g s ∧ AY g s ∧ g.2.2.2 = st := by
  obtain ⟨c0, i0, k0⟩ := u_known (C := RX0) (T := TX0) (N := 5) (n := 5) ok inB_X0 (ok _ qin_X0)
  obtain ⟨c1, i1, k1⟩ := u_known (C := RX1) (T := TX1) (N := 4) (n := 4) ok inB_X1 (ok _ qin_X1)
  obtain ⟨c2, i2, k2⟩ := u_known (C := RX2) (T := TX2) (N := 4) (n := 4) ok inB_X2 (ok _ qin_X2)
  obtain ⟨c3, i3, k3⟩ := u_known (C := RX3) (T := TX3) (N := 9) (n := 9) ok inB_X3 (ok _ qin_X3)
  obtain ⟨c4, i4, k4⟩ := u_known (C := RX4) (T := TX4) (N := 15) (n := 15) ok inB_X4 (ok _ qin_X4)
  obtain ⟨c5, i5, k5⟩ := u_known (C := RX5) (T := TX5) (N := 27) (n := 27) ok inB_X5 (ok _ qin_X5)
  obtain ⟨cI, kI, ccI, fI, hkI, hkindI⟩ := Cond.arrayClass_spec (ok _ qar_int)
  obtain ⟨cB, kB, ccB, fB, hkB, hkindB⟩ := Cond.arrayClass_spec (ok _ qar_byte)
  obtain ⟨comp, cA, kA, hcomp, hidx, hkA, hkindA, hnameA⟩ := arrayOverA_spec (tb _ qt_over)
  have ec : comp = cI := Option.some.inj (hcomp.symm.trans (show s.vm.findClass (FieldType.array .int).toString = some cI from fI))
  subst ec
  refine ⟨((fun k => match k with | 0 => c0 | 1 => c1 | 2 => c2 | 3 => c3 | 4 => c4 | _ => c5, fun k => match k with | 0 => i0 | 1 => i1 | 2 => i2 | 3 => i3 | 4 => i4 | _ => i5), fun _ => 0, (fun k => match k with | 0 => comp | 1 => cB | _ => cA), st), ⟨fun k q hq => ?_, fun k q hq => ?_⟩, ⟨kA, kI, ccI, hkA, hkindA, hkI, hkindI⟩, rfl⟩
  · match k, hq with
    | 0, hq => cases hq; exact k0
    | 1, hq => cases hq; exact k1
    | 2, hq => cases hq; exact k2
    | 3, hq => cases hq; exact k3
    | 4, hq => cases hq; exact k4
    | 5, hq => cases hq; exact k5
    | k + 6, hq => cases hq
  · match k, hq with
    | 0, hq => cases hq; exact ⟨fun N z => ⟨(fun k h => by cases h), kI, hkI, ccI, hkindI⟩, fI⟩
    | 1, hq => cases hq; exact ⟨fun N z => ⟨(fun k h => by cases h), kB, hkB, ccB, hkindB⟩, fB⟩
    | 2, hq => cases hq; exact ⟨fun N z => ⟨(fun k h => by cases h), kA, hkA, comp, hkindA⟩, hnameA⟩
    | k + 3, hq => cases hq
theorem ST_of {s : State} {b : Nat} (ok : ∀ w ∈ BIG, w.before #[Value.ref b] s = true) (tb : ∀ w ∈ tables_1, w.before #[Value.ref b] s = true) (hgv : (Jvm.Cond.and given_1 narrow_1).before #[Value.ref b] s = true) {A : Nat → Prop} (hA : ∀ a : Nat, a < s.heap.size → ¬ A a) : ∃ t0 t1 : Nat, va_Z "StrayKeys" "LETTERS" "[I" (.ref t0) A s s.heap ∧ va_T .int t0 6 (fun j => .int (letT j)) A s s.heap ∧ va_Z "StrayKeys" "SORT_OF" "[I" (.ref t1) A s s.heap ∧ va_T .int t1 6 (fun j => .int (sortT j)) A s s.heap := by
  have hs := flat_of_before _ hgv
  have la : (Cond.arrayOf (Jvm.Term.static "StrayKeys" "LETTERS" "[I") .int).before #[Value.ref b] s = true := hs _ (by decide +kernel)
  have ln : (Cond.eq (Term.length (Jvm.Term.static "StrayKeys" "LETTERS" "[I")) (.int 6)).before #[Value.ref b] s = true := hs _ (by decide +kernel)
  have l0 : (Cond.eq (Term.elem (Jvm.Term.static "StrayKeys" "LETTERS" "[I") (.int 0)) (.int (107))).before #[Value.ref b] s = true := hs _ (by decide +kernel)
  have l1 : (Cond.eq (Term.elem (Jvm.Term.static "StrayKeys" "LETTERS" "[I") (.int 1)) (.int (118))).before #[Value.ref b] s = true := hs _ (by decide +kernel)
  have l2 : (Cond.eq (Term.elem (Jvm.Term.static "StrayKeys" "LETTERS" "[I") (.int 2)) (.int (115))).before #[Value.ref b] s = true := hs _ (by decide +kernel)
  have l3 : (Cond.eq (Term.elem (Jvm.Term.static "StrayKeys" "LETTERS" "[I") (.int 3)) (.int (117))).before #[Value.ref b] s = true := hs _ (by decide +kernel)
  have l4 : (Cond.eq (Term.elem (Jvm.Term.static "StrayKeys" "LETTERS" "[I") (.int 4)) (.int (116))).before #[Value.ref b] s = true := hs _ (by decide +kernel)
  have l5 : (Cond.eq (Term.elem (Jvm.Term.static "StrayKeys" "LETTERS" "[I") (.int 5)) (.int (119))).before #[Value.ref b] s = true := hs _ (by decide +kernel)
  obtain ⟨tl, el, Tl⟩ := va_Tof (N := 6) (f := fun j => .int (letT j)) (A := A) (by decide) la (va_eqt ln) (fun j hj => by
    match j, hj with
    | 0, _ => exact va_eqt l0
    | 1, _ => exact va_eqt l1
    | 2, _ => exact va_eqt l2
    | 3, _ => exact va_eqt l3
    | 4, _ => exact va_eqt l4
    | 5, _ => exact va_eqt l5
    | j + 6, hj => exact absurd hj (by omega)) hA
  have sa : (Cond.arrayOf (Jvm.Term.static "StrayKeys" "SORT_OF" "[I") .int).before #[Value.ref b] s = true := hs _ (by decide +kernel)
  have sn : (Cond.eq (Term.length (Jvm.Term.static "StrayKeys" "SORT_OF" "[I")) (.int 6)).before #[Value.ref b] s = true := hs _ (by decide +kernel)
  have s0 : (Cond.eq (Term.elem (Jvm.Term.static "StrayKeys" "SORT_OF" "[I") (.int 0)) (.int (-1))).before #[Value.ref b] s = true := hs _ (by decide +kernel)
  have s1 : (Cond.eq (Term.elem (Jvm.Term.static "StrayKeys" "SORT_OF" "[I") (.int 1)) (.int (0))).before #[Value.ref b] s = true := hs _ (by decide +kernel)
  have s2 : (Cond.eq (Term.elem (Jvm.Term.static "StrayKeys" "SORT_OF" "[I") (.int 2)) (.int (0))).before #[Value.ref b] s = true := hs _ (by decide +kernel)
  have s3 : (Cond.eq (Term.elem (Jvm.Term.static "StrayKeys" "SORT_OF" "[I") (.int 3)) (.int (0))).before #[Value.ref b] s = true := hs _ (by decide +kernel)
  have s4 : (Cond.eq (Term.elem (Jvm.Term.static "StrayKeys" "SORT_OF" "[I") (.int 4)) (.int (1))).before #[Value.ref b] s = true := hs _ (by decide +kernel)
  have s5 : (Cond.eq (Term.elem (Jvm.Term.static "StrayKeys" "SORT_OF" "[I") (.int 5)) (.int (2))).before #[Value.ref b] s = true := hs _ (by decide +kernel)
  obtain ⟨ts, es, Ts⟩ := va_Tof (N := 6) (f := fun j => .int (sortT j)) (A := A) (by decide) sa (va_eqt sn) (fun j hj => by
    match j, hj with
    | 0, _ => exact va_eqt s0
    | 1, _ => exact va_eqt s1
    | 2, _ => exact va_eqt s2
    | 3, _ => exact va_eqt s3
    | 4, _ => exact va_eqt s4
    | 5, _ => exact va_eqt s5
    | j + 6, hj => exact absurd hj (by omega)) hA
  exact ⟨tl, ts, va_Zref (tb _ qt_ls_LETTERS) (ok _ qi_X4) el hA, Tl, va_Zref (tb _ qt_ls_SORT_OF) (ok _ qi_X4) es hA, Ts⟩
set_option maxHeartbeats 4000000 in
set_option maxRecDepth 100000 in
theorem whole_start {p : Program} {e : Env} {s : State} {m : MethodId} {below : List Frame} {meth : Method} {c : Code} (l : Launch) {b L : Nat} {xs : Nat → Int32} (hL : L ≤ 3072) (C0 : lw_At p s m meth c b L xs) : W p l e room_1 s m #[Value.ref b] below meth c s.heap [] 0 0 (lw_Z below #[Value.ref b] s) (entryFrame m ([Value.ref b] : List Value).toArray 4) := by
  obtain ⟨hx, hb, hr, hml, hown, hts, hX, hbl, hlocks, hgv⟩ := id C0
  have hbA : ¬ (fun q : Nat => s.heap.size ≤ q) b := Nat.not_le.mpr hbl
  have ok : ∀ w ∈ BIG, w.before #[Value.ref b] s = true := fun w h => hts w (big_lw w h)
  have tb : ∀ w ∈ tables_1, w.before #[Value.ref b] s = true := fun w h => hts w (List.mem_append_right _ h)
  obtain ⟨t0, t1, z1, z2, z3, z4⟩ := ST_of ok tb hgv (A := fun q : Nat => s.heap.size ≤ q) (fun a ha => Nat.not_le.mpr ha)
  obtain ⟨g, hK, hY, hst⟩ := KX_of ok tb (fun k => match k with | 0 => t0 | _ => t1)
  have hS0 : gst g 0 = t0 := congrFun hst 0
  have hS1 : gst g 1 = t1 := congrFun hst 1
  have hN := NX_of tb
  have C : NC p s m #[Value.ref b] meth c cL_law 4 RL g (fun q : Nat => s.heap.size ≤ q) := ⟨hx, hb, hml, hown, ok, hK, hN, hY, fun _ h => h⟩
  have hl := lv_entry ([.ref b]) (n := 4) (Nat.le_of_ble_eq_true rfl)
  rw [lg_entry_eq]
  generalize (lg_sl ([.ref b]) ++ List.replicate (4 - (lg_sl ([.ref b])).length) Slot.unset).toArray = ls at hl ⊢
  have hl : lv_has ls 4 [(0, .ref b)] := hl
  have hW : ND g (fun q : Nat => s.heap.size ≤ q) s [] s.heap [] := ⟨fun k q h => by simp at h, ⟨fun i j p q h => by simp at h, fun k q h => by simp at h⟩, va_S.rf⟩
  refine n_new C hW cd4 [.null, .null, .null, .null, .null, .null, .null, .null, .null, .null, .null, .int 0, .int 0, .long 0, .long 0] qcl_L_7 qin_X4 qi_X4 (fun j hj => by
    match j, hj with
    | 0, _ => rfl | 1, _ => rfl | 2, _ => rfl | 3, _ => rfl | 4, _ => rfl | 5, _ => rfl | 6, _ => rfl | 7, _ => rfl | 8, _ => rfl | 9, _ => rfl | 10, _ => rfl | 11, _ => rfl | 12, _ => rfl | 13, _ => rfl | 14, _ => rfl | j + 15, hj => exact absurd hj (by omega)) ⟨Nat.le_of_ble_eq_true rfl, Nat.le_of_ble_eq_true rfl⟩ dL_law_0 (fun q0 H hW => ?_)
  refine lv_dup C.1 C.2.1 dL_law_3 rfl ?_
  refine n_goI (X := []) (rest := [.ref q0]) (As := []) C hW (c_X4_init l g q0) kn_X4 rfl qm_L_9 ⟨rfl, rfl⟩ ⟨Nat.le_of_ble_eq_true rfl, Nat.le_of_ble_eq_true rfl⟩ rfl hl.1 rfl (Nat.le_of_ble_eq_true rfl) ⟨Nat.le_of_ble_eq_true rfl, Nat.le_of_ble_eq_true rfl⟩ dL_law_4 (fun w H locs hw hW => ?_)
  obtain ⟨q, f2, f5, f8, hq0, h2, h5, h8, h83, rfl⟩ := hw
  have hW : ND g (fun q : Nat => s.heap.size ≤ q) s (wX4 g q f2 f5 f8) H _ := hW
  refine lv_astore_n (lv' := [(1, .ref q0), (0, .ref b)]) C.1 C.2.1 dL_law_7 rfl hl (by decide) rfl (fun ls hl => ?_)
  refine n_new C hW cd5 [.int 0, .null, .int 0, .long 0, .long 0, .null, .null, .null, .null, .null, .int 0, .null, .null, .null, .null, .null, .int 0, .null, .null, .null, .null, .null, .null, .null, .null, .null, .null] qcl_L_10 qin_X5 qi_X5 (fun j hj => by
    match j, hj with
    | 0, _ => rfl | 1, _ => rfl | 2, _ => rfl | 3, _ => rfl | 4, _ => rfl | 5, _ => rfl | 6, _ => rfl | 7, _ => rfl | 8, _ => rfl | 9, _ => rfl | 10, _ => rfl | 11, _ => rfl | 12, _ => rfl | 13, _ => rfl | 14, _ => rfl | 15, _ => rfl | 16, _ => rfl | 17, _ => rfl | 18, _ => rfl | 19, _ => rfl | 20, _ => rfl | 21, _ => rfl | 22, _ => rfl | 23, _ => rfl | 24, _ => rfl | 25, _ => rfl | 26, _ => rfl | j + 27, hj => exact absurd hj (by omega)) ⟨Nat.le_of_ble_eq_true rfl, Nat.le_of_ble_eq_true rfl⟩ dL_law_8 (fun q39 H hW => ?_)
  refine lv_dup C.1 C.2.1 dL_law_11 rfl ?_
  refine n_goI (X := wX4 g q f2 f5 f8) (rest := [.ref q39]) (As := []) C hW (c_X5_init l g q39) kn_X5 rfl qm_L_12 ⟨rfl, rfl⟩ ⟨Nat.le_of_ble_eq_true rfl, Nat.le_of_ble_eq_true rfl⟩ rfl hl.1 rfl (Nat.le_of_ble_eq_true rfl) ⟨Nat.le_of_ble_eq_true rfl, Nat.le_of_ble_eq_true rfl⟩ dL_law_12 (fun w H locs hw hWz => ?_)
  obtain ⟨r, fw, ff, fk, hr39, hfw, hff, hfk, rfl⟩ := hw
  subst hq0
  subst hr39
  refine lv_astore_n (lv' := [(2, .ref (r 39)), (1, .ref (q 0)), (0, .ref b)]) C.1 C.2.1 dL_law_15 rfl hl (by decide) rfl (fun ls hl => ?_)
  refine lv_iconst (v := 0) C.1 C.2.1 dL_law_16 (by decide) ?_
  refine lv_istore_n (lv' := [(3, .int 0), (2, .ref (r 39)), (1, .ref (q 0)), (0, .ref b)]) C.1 C.2.1 dL_law_17 rfl hl (by decide) rfl (fun ls hl => ?_)
  have CM : MC p s m #[Value.ref b] meth c cL_law 4 RL ret (gN g q r) (fun q : Nat => s.heap.size ≤ q) := ⟨hx, hb, hml, hown, ok, hK, hr, hlocks, ⟨by rw [show gst (gN g q r) 0 = t0 from hS0]; exact z1, by rw [show gst (gN g q r) 0 = t0 from hS0]; exact z2, by rw [show gst (gN g q r) 1 = t1 from hS1]; exact z3, by rw [show gst (gN g q r) 1 = t1 from hS1]; exact z4⟩, hN, fun _ h => h⟩
  obtain ⟨n, hn⟩ := law_pure (L := L) (xs := xs) (Q := fun _ _ => True) hL (inv0 h2 h5 h8 h83 hfw hff hfk)
  exact k_L_law_L18 CM hX hbl hbA (fun _ h => h) ⟨Nat.le_of_ble_eq_true rfl, Nat.le_of_ble_eq_true rfl⟩ n 0 _ H locs ls hn (ND_WD hWz) (lv_sub hl [3, 2, 1, 0] rfl)
