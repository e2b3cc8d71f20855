/-! MACHINE: calls over growing worlds; the small constructors -/
def Za (g : GG) (n : Nat) : va_E := .inl (gcy g 0, n, .inl (fun _ => 0))
def Zb (g : GG) (n : Nat) : va_E := .inl (gcy g 1, n, .inl (fun _ => 0))
def Zf (g : GG) (n : Nat) (f : Nat → Int32) : va_E := .inl (gcy g 0, n, .inl f)
section NG
variable {p : Program} {l : Launch} {e : Env} {R : Room} {s : State} {m : MethodId} {args : Array Value} {below : List Frame} {meth : Method} {c : Code} {H : Heap} {locs : List Loc} {cells slots : Nat} {Q : State → Prop}
variable {cc : ByteArray} {nL pc : Nat} {ls : Array Slot} {rest : List Value} {own : String} {g : GG} {A : Nat → Prop} {X wc : va_W}
variable {y : MethodName} {bytes : ByteArray} {maxL n index mc ms b : Nat} {rm : Room} {st0 As : List Value} {Qp : va_W → Prop}
theorem n_pre {av : List Value} (C : NC p s m args meth c cc nL own g A) (hW : ND g A s (X ++ wc) H locs) : PreS s H (PN g av wc H.size) av := ⟨PN_blind, fun U hU hWm => ⟨rfl, by rw [hU], by rw [hU]; exact n_right hW.1, va_K.moved hWm.alike C.2.2.2.2.2.1, n_rightD hW.2.1, C.2.2.2.2.2.2.1.warm hWm, C.2.2.2.2.2.2.2.1.moved hWm.alike⟩⟩
theorem n_gov {a : Array Value} (C : NC p s m args meth c cc nL own g A) (hW : ND g A s (X ++ wc) H locs) (hr : va_Run p l e R s m args below meth c H locs cells slots mc ms (F0 m pc ls st0) rest (QN g Qp (va_A wc H.size) a) (va_A wc H.size))
    (kk : ∀ (w : va_W) (H1 : Heap) (locs1 : List Loc), Qp w → ND g A s (X ++ w) H1 locs1 → W p l e R s m args below meth c H1 locs1 (cells + mc) (slots + ms) Q (F0 m (pc + 3) ls rest)) : W p l e R s m args below meth c H locs cells slots Q (F0 m pc ls st0) := by
  have hF := n_free hW.2.1 hW.2.2 C.2.2.2.2.2.2.2.2
  refine va_callv hr hW.2.2 (fun q _ h => hF q h) hF (fun w t H1 locs1 ht hvm hp hB _ hk hS => ?_)
  obtain ⟨hP1, hD1⟩ := hB
  rw [ht] at hP1
  obtain ⟨hP2, hD2⟩ := n_join hW.1 hW.2.1 hk hF hP1 hD1
  exact kk w H1 locs1 hp ⟨hP2, hD2, hS⟩
def KN (y : MethodName) (bytes : ByteArray) (maxL n : Nat) : Prop := Cond.code y bytes maxL none ∈ BIG ∧ Cond.instanceMethod y ∈ BIG ∧ Cond.initialized y.cls ∈ BIG ∧ y.cls ≠ "java/lang/invoke/MethodHandle" ∧ y.cls ≠ "java/lang/invoke/VarHandle" ∧ (parseMethodDescriptor y.desc).map (fun d => d.parameters.length) = some n
theorem n_goI (C : NC p s m args meth c cc nL own g A) (hW : ND g A s (X ++ wc) H locs) (hM : CN l y bytes maxL rm g (.ref b :: As) wc mc ms Qp) (km : KN y bytes maxL n) (hi : y.name = "<init>") (hl : Cond.methodLink own index y ∈ BIG) (hrm : rm.cells = mc ∧ rm.slots = ms) (hR : rm.frames + 1 ≤ R.frames ∧ 8 + (maxL + 11) + rm.locals ≤ R.locals) (hn : As.length = n) (hls : ls.size = nL) (hst : st0 = As.reverse ++ .ref b :: rest) (hrest : (rest.map fun v => v.category).sum ≤ 8) (hcs : cells + mc ≤ R.cells ∧ slots + ms ≤ R.slots) (hdg : decode cc pc = .ok (.invokespecial index, 3))
    (kk : ∀ (w : va_W) (H1 : Heap) (locs1 : List Loc), Qp w → ND g A s (X ++ w) H1 locs1 → W p l e R s m args below meth c H1 locs1 (cells + mc) (slots + ms) Q (F0 m (pc + 3) ls rest)) : W p l e R s m args below meth c H locs cells slots Q (F0 m pc ls st0) := by
  have ok := C.2.2.2.2.1
  exact n_gov C hW (va_runI ⟨C.1, C.2.1, C.2.2.1, C.2.2.2.1, ok⟩ (hM H.size) ⟨callB_of n ok (good_big km.1) rfl hrm.1 hrm.2 (ok _ km.2.2.1) (ok _ hl) km.2.2.2 hR, hi, ok _ km.2.1⟩ (n_pre C hW) rfl hn hls hst (lv_room hrest) hdg hcs) kk
theorem n_goN {host : String} (C : NC p s m args meth c cc nL own g A) (hW : ND g A s (X ++ wc) H locs) (hM : CN l y bytes maxL rm g (.ref b :: As) wc mc ms Qp) (km : KN y bytes maxL n) (hi : y.name = "<init>") (hl : (own, index, y, host) ∈ nestM) (hrm : rm.cells = mc ∧ rm.slots = ms) (hR : rm.frames + 1 ≤ R.frames ∧ 8 + (maxL + 11) + rm.locals ≤ R.locals) (hn : As.length = n) (hls : ls.size = nL) (hst : st0 = As.reverse ++ .ref b :: rest) (hrest : (rest.map fun v => v.category).sum ≤ 8) (hcs : cells + mc ≤ R.cells ∧ slots + ms ≤ R.slots) (hdg : decode cc pc = .ok (.invokespecial index, 3))
    (kk : ∀ (w : va_W) (H1 : Heap) (locs1 : List Loc), Qp w → ND g A s (X ++ w) H1 locs1 → W p l e R s m args below meth c H1 locs1 (cells + mc) (slots + ms) Q (F0 m (pc + 3) ls rest)) : W p l e R s m args below meth c H locs cells slots Q (F0 m pc ls st0) := by
  have ok := C.2.2.2.2.1
  exact n_gov C hW (va_runIN (host := host) ⟨C.1, C.2.1, C.2.2.1, C.2.2.2.1, ok⟩ (hM H.size) ⟨va_cnB n ok (good_big km.1) rfl hrm.1 hrm.2 (C.2.2.2.2.2.2.1.2 _ hl) (ok _ km.2.2.1) km.2.2.2 hR, hi, ok _ km.2.1⟩ (n_pre C hW) rfl hn hls hst (lv_room hrest) hdg hcs) kk
theorem n_goV {ci N k : Nat} {fs : List Value} {Tt : u_T} (C : NC p s m args meth c cc nL own g A) (hW : ND g A s (X ++ wc) H locs) (hM : CN l y bytes maxL rm g (.ref b :: As) wc mc ms Qp) (km : KN y bytes maxL n) (hs : Cond.selects y.cls y y ∈ BIG) (hc : wc[k]? = some (b, .inr (ci, fs))) (hcl : vwCl[ci]? = some (y.cls, Tt, N)) (hl : Cond.methodLink own index y ∈ BIG) (hrm : rm.cells = mc ∧ rm.slots = ms) (hR : rm.frames + 1 ≤ R.frames ∧ 8 + (maxL + 11) + rm.locals ≤ R.locals) (hn : As.length = n) (hls : ls.size = nL) (hst : st0 = As.reverse ++ .ref b :: rest) (hrest : (rest.map fun v => v.category).sum ≤ 8) (hcs : cells + mc ≤ R.cells ∧ slots + ms ≤ R.slots) (hdg : decode cc pc = .ok (.invokevirtual index, 3))
    (kk : ∀ (w : va_W) (H1 : Heap) (locs1 : List Loc), Qp w → ND g A s (X ++ w) H1 locs1 → W p l e R s m args below meth c H1 locs1 (cells + mc) (slots + ms) Q (F0 m (pc + 3) ls rest)) : W p l e R s m args below meth c H locs cells slots Q (F0 m pc ls st0) := by
  have ok := C.2.2.2.2.1
  exact n_gov C hW (va_runV (C := y.cls) ⟨C.1, C.2.1, C.2.2.1, C.2.2.2.1, ok⟩ (hM H.size) ⟨callB_of n ok (good_big km.1) rfl hrm.1 hrm.2 (ok _ km.2.2.1) (ok _ hl) km.2.2.2 hR, ok _ km.2.1, ok _ hs⟩ ⟨(n_pre C hW).1, va_recv (q := (y.cls, Tt, N)) C.2.2.2.2.2.1 (n_right hW.1) hcl hc, (n_pre C hW).2⟩ rfl hn hls hst (lv_room hrest) hdg hcs) kk
theorem n_mmax (C : NC p s m args meth c cc nL own g A) (hls : ls.size = nL) {index : Nat} (hlink : Cond.methodLink own index Lib.Math.max.name ∈ BIG) (hfr : 1 ≤ R.frames) (hlo : (rest.map fun v => v.category).sum + 13 ≤ R.locals) (hcs : cells ≤ R.cells ∧ slots ≤ R.slots) {x z : Int32} (hdg : decode cc pc = .ok (.invokestatic index, 3))
    (kk : W p l e R s m args below meth c H locs cells slots Q (F0 m (pc + 3) ls (.int (if x < z then z else x) :: rest))) : W p l e R s m args below meth c H locs cells slots Q (F0 m pc ls (.int z :: .int x :: rest)) :=
  va_mmax C.1 C.2.1 (C.2.2.1.trans hls.symm) C.2.2.2.1 (C.2.2.2.2.1 _ hlink) (C.2.2.2.2.1 _ qy_max) (C.2.2.2.2.1 _ qi_J9) (C.2.2.2.2.1 _ qc_max) hfr hlo hcs.1 hcs.2 hdg kk
end NG
set_option maxRecDepth 100000 in
theorem c_X0_init (l : Launch) (g : GG) (h : Nat) : CN l yX0_init cX0_init 1 { frames := 1, cells := 4, slots := 28, locals := 12 } g [.ref h] [(h, .inr (0, [.null, .null, .null, .null, .int 0]))] 4 28 (fun w => ∃ q1 q2 q3 q4, w = [(h, .inr (0, [.ref q1, .ref q2, .ref q3, .ref q4, .int 0])), (q1, Za g 7), (q2, Za g 7), (q3, Za g 7), (q4, Za g 7)]) := by
  refine n_ent (own := RX0) (by decide) rfl (Nat.le_of_ble_eq_true rfl) ?_
  intro p e s m below meth c A ls C hret hlk hnm hl hW
  have hl : lv_has ls 1 [(0, .ref h)] := hl
  refine lv_aload_n C.1 C.2.1 dX0_init_0 rfl (lv_at hl 0 rfl) ?_
  refine n_obj C hl.1 qm_X0_3 ⟨Nat.le_of_ble_eq_true rfl, Nat.le_of_ble_eq_true rfl⟩ dX0_init_1 ?_
  refine lv_aload_n C.1 C.2.1 dX0_init_4 rfl (lv_at hl 0 rfl) ?_
  refine lv_bipush (v := 7) C.1 C.2.1 dX0_init_5 (by decide) ?_
  refine n_newi C hW 7 rfl (by decide) ⟨Nat.le_of_ble_eq_true rfl, Nat.le_of_ble_eq_true rfl⟩ dX0_init_7 (fun q1 H hW => ?_)
  have hW : ND g A s [(h, .inr (0, [.null, .null, .null, .null, .int 0])), (q1, Za g 7)] H _ := hW
  refine n_putF C hnm hW cd0 0 (by decide) rfl rfl rfl rfl (Nat.le_of_ble_eq_true rfl) qf_X0_9 dX0_init_9 (fun H locs hW => ?_)
  have hW : ND g A s [(h, .inr (0, [.ref q1, .null, .null, .null, .int 0])), (q1, Za g 7)] H _ := hW
  refine lv_aload_n C.1 C.2.1 dX0_init_12 rfl (lv_at hl 0 rfl) ?_
  refine lv_bipush (v := 7) C.1 C.2.1 dX0_init_13 (by decide) ?_
  refine n_newi C hW 7 rfl (by decide) ⟨Nat.le_of_ble_eq_true rfl, Nat.le_of_ble_eq_true rfl⟩ dX0_init_15 (fun q2 H hW => ?_)
  have hW : ND g A s [(h, .inr (0, [.ref q1, .null, .null, .null, .int 0])), (q1, Za g 7), (q2, Za g 7)] H _ := hW
  refine n_putF C hnm hW cd0 1 (by decide) rfl rfl rfl rfl (Nat.le_of_ble_eq_true rfl) qf_X0_15 dX0_init_17 (fun H locs hW => ?_)
  have hW : ND g A s [(h, .inr (0, [.ref q1, .ref q2, .null, .null, .int 0])), (q1, Za g 7), (q2, Za g 7)] H _ := hW
  refine lv_aload_n C.1 C.2.1 dX0_init_20 rfl (lv_at hl 0 rfl) ?_
  refine lv_bipush (v := 7) C.1 C.2.1 dX0_init_21 (by decide) ?_
  refine n_newi C hW 7 rfl (by decide) ⟨Nat.le_of_ble_eq_true rfl, Nat.le_of_ble_eq_true rfl⟩ dX0_init_23 (fun q3 H hW => ?_)
  have hW : ND g A s [(h, .inr (0, [.ref q1, .ref q2, .null, .null, .int 0])), (q1, Za g 7), (q2, Za g 7), (q3, Za g 7)] H _ := hW
  refine n_putF C hnm hW cd0 2 (by decide) rfl rfl rfl rfl (Nat.le_of_ble_eq_true rfl) qf_X0_18 dX0_init_25 (fun H locs hW => ?_)
  have hW : ND g A s [(h, .inr (0, [.ref q1, .ref q2, .ref q3, .null, .int 0])), (q1, Za g 7), (q2, Za g 7), (q3, Za g 7)] H _ := hW
  refine lv_aload_n C.1 C.2.1 dX0_init_28 rfl (lv_at hl 0 rfl) ?_
  refine lv_bipush (v := 7) C.1 C.2.1 dX0_init_29 (by decide) ?_
  refine n_newi C hW 7 rfl (by decide) ⟨Nat.le_of_ble_eq_true rfl, Nat.le_of_ble_eq_true rfl⟩ dX0_init_31 (fun q4 H hW => ?_)
  have hW : ND g A s [(h, .inr (0, [.ref q1, .ref q2, .ref q3, .null, .int 0])), (q1, Za g 7), (q2, Za g 7), (q3, Za g 7), (q4, Za g 7)] H _ := hW
  refine n_putF C hnm hW cd0 3 (by decide) rfl rfl rfl rfl (Nat.le_of_ble_eq_true rfl) qf_X0_21 dX0_init_33 (fun H locs hW => ?_)
  have hW : ND g A s [(h, .inr (0, [.ref q1, .ref q2, .ref q3, .ref q4, .int 0])), (q1, Za g 7), (q2, Za g 7), (q3, Za g 7), (q4, Za g 7)] H _ := hW
  refine lv_aload_n C.1 C.2.1 dX0_init_36 rfl (lv_at hl 0 rfl) ?_
  refine lv_iconst (v := 0) C.1 C.2.1 dX0_init_37 (by decide) ?_
  refine n_put C hW cd0 4 (by decide) rfl rfl rfl rfl (Nat.le_of_ble_eq_true rfl) qf_X0_24 dX0_init_38 (fun H locs hW => ?_)
  have hW : ND g A s [(h, .inr (0, [.ref q1, .ref q2, .ref q3, .ref q4, .int 0])), (q1, Za g 7), (q2, Za g 7), (q3, Za g 7), (q4, Za g 7)] H _ := hW
  exact n_ret C hret hlk hW ⟨q1, q2, q3, q4, rfl⟩ dX0_init_41
set_option maxRecDepth 100000 in
theorem c_X1_init (l : Launch) (g : GG) (h : Nat) : CN l yX1_init cX1_init 1 { frames := 1, cells := 1, slots := 7, locals := 12 } g [.ref h] [(h, .inr (1, [.null, .int 0, .int 0, .int 0]))] 1 7 (fun w => ∃ q1, w = [(h, .inr (1, [.ref q1, .int 0, .int 0, .int 0])), (q1, Za g 7)]) := by
  refine n_ent (own := RX1) (by decide) rfl (Nat.le_of_ble_eq_true rfl) ?_
  intro p e s m below meth c A ls C hret hlk hnm hl hW
  have hl : lv_has ls 1 [(0, .ref h)] := hl
  refine lv_aload_n C.1 C.2.1 dX1_init_0 rfl (lv_at hl 0 rfl) ?_
  refine n_obj C hl.1 qm_X1_3 ⟨Nat.le_of_ble_eq_true rfl, Nat.le_of_ble_eq_true rfl⟩ dX1_init_1 ?_
  refine lv_aload_n C.1 C.2.1 dX1_init_4 rfl (lv_at hl 0 rfl) ?_
  refine lv_bipush (v := 7) C.1 C.2.1 dX1_init_5 (by decide) ?_
  refine n_newi C hW 7 rfl (by decide) ⟨Nat.le_of_ble_eq_true rfl, Nat.le_of_ble_eq_true rfl⟩ dX1_init_7 (fun q1 H hW => ?_)
  have hW : ND g A s [(h, .inr (1, [.null, .int 0, .int 0, .int 0])), (q1, Za g 7)] H _ := hW
  refine n_putF C hnm hW cd1 0 (by decide) rfl rfl rfl rfl (Nat.le_of_ble_eq_true rfl) qf_X1_9 dX1_init_9 (fun H locs hW => ?_)
  have hW : ND g A s [(h, .inr (1, [.ref q1, .int 0, .int 0, .int 0])), (q1, Za g 7)] H _ := hW
  refine lv_aload_n C.1 C.2.1 dX1_init_12 rfl (lv_at hl 0 rfl) ?_
  refine lv_iconst (v := 0) C.1 C.2.1 dX1_init_13 (by decide) ?_
  refine n_put C hW cd1 1 (by decide) rfl rfl rfl rfl (Nat.le_of_ble_eq_true rfl) qf_X1_15 dX1_init_14 (fun H locs hW => ?_)
  have hW : ND g A s [(h, .inr (1, [.ref q1, .int 0, .int 0, .int 0])), (q1, Za g 7)] H _ := hW
  refine lv_aload_n C.1 C.2.1 dX1_init_17 rfl (lv_at hl 0 rfl) ?_
  refine lv_iconst (v := 0) C.1 C.2.1 dX1_init_18 (by decide) ?_
  refine n_put C hW cd1 2 (by decide) rfl rfl rfl rfl (Nat.le_of_ble_eq_true rfl) qf_X1_19 dX1_init_19 (fun H locs hW => ?_)
  have hW : ND g A s [(h, .inr (1, [.ref q1, .int 0, .int 0, .int 0])), (q1, Za g 7)] H _ := hW
  refine lv_aload_n C.1 C.2.1 dX1_init_22 rfl (lv_at hl 0 rfl) ?_
  refine lv_iconst (v := 0) C.1 C.2.1 dX1_init_23 (by decide) ?_
  refine n_put C hW cd1 3 (by decide) rfl rfl rfl rfl (Nat.le_of_ble_eq_true rfl) qf_X1_22 dX1_init_24 (fun H locs hW => ?_)
  have hW : ND g A s [(h, .inr (1, [.ref q1, .int 0, .int 0, .int 0])), (q1, Za g 7)] H _ := hW
  exact n_ret C hret hlk hW ⟨q1, rfl⟩ dX1_init_27
set_option maxRecDepth 100000 in
theorem c_X3_init (l : Launch) (g : GG) (h : Nat) : CN l yX3_init cX3_init 1 { frames := 1, cells := 5, slots := 26, locals := 12 } g [.ref h] [(h, .inr (3, [.null, .null, .null, .null, .null, .int 0, .int 0, .int 0, .int 0]))] 5 26 (fun w => ∃ q1 q2 q3 q4 q5, w = [(h, .inr (3, [.ref q1, .ref q2, .ref q3, .ref q4, .ref q5, .int 0, .int 0, .int 0, .int 0])), (q1, Za g 7), (q2, Za g 7), (q3, Za g 4), (q4, Za g 4), (q5, Za g 4)]) := by
  refine n_ent (own := RX3) (by decide) rfl (Nat.le_of_ble_eq_true rfl) ?_
  intro p e s m below meth c A ls C hret hlk hnm hl hW
  have hl : lv_has ls 1 [(0, .ref h)] := hl
  refine lv_aload_n C.1 C.2.1 dX3_init_0 rfl (lv_at hl 0 rfl) ?_
  refine n_obj C hl.1 qm_X3_3 ⟨Nat.le_of_ble_eq_true rfl, Nat.le_of_ble_eq_true rfl⟩ dX3_init_1 ?_
  refine lv_aload_n C.1 C.2.1 dX3_init_4 rfl (lv_at hl 0 rfl) ?_
  refine lv_bipush (v := 7) C.1 C.2.1 dX3_init_5 (by decide) ?_
  refine n_newi C hW 7 rfl (by decide) ⟨Nat.le_of_ble_eq_true rfl, Nat.le_of_ble_eq_true rfl⟩ dX3_init_7 (fun q1 H hW => ?_)
  have hW : ND g A s [(h, .inr (3, [.null, .null, .null, .null, .null, .int 0, .int 0, .int 0, .int 0])), (q1, Za g 7)] H _ := hW
  refine n_putF C hnm hW cd3 0 (by decide) rfl rfl rfl rfl (Nat.le_of_ble_eq_true rfl) qf_X3_9 dX3_init_9 (fun H locs hW => ?_)
  have hW : ND g A s [(h, .inr (3, [.ref q1, .null, .null, .null, .null, .int 0, .int 0, .int 0, .int 0])), (q1, Za g 7)] H _ := hW
  refine lv_aload_n C.1 C.2.1 dX3_init_12 rfl (lv_at hl 0 rfl) ?_
  refine lv_bipush (v := 7) C.1 C.2.1 dX3_init_13 (by decide) ?_
  refine n_newi C hW 7 rfl (by decide) ⟨Nat.le_of_ble_eq_true rfl, Nat.le_of_ble_eq_true rfl⟩ dX3_init_15 (fun q2 H hW => ?_)
  have hW : ND g A s [(h, .inr (3, [.ref q1, .null, .null, .null, .null, .int 0, .int 0, .int 0, .int 0])), (q1, Za g 7), (q2, Za g 7)] H _ := hW
  refine n_putF C hnm hW cd3 1 (by decide) rfl rfl rfl rfl (Nat.le_of_ble_eq_true rfl) qf_X3_15 dX3_init_17 (fun H locs hW => ?_)
  have hW : ND g A s [(h, .inr (3, [.ref q1, .ref q2, .null, .null, .null, .int 0, .int 0, .int 0, .int 0])), (q1, Za g 7), (q2, Za g 7)] H _ := hW
  refine lv_aload_n C.1 C.2.1 dX3_init_20 rfl (lv_at hl 0 rfl) ?_
  refine lv_iconst (v := 4) C.1 C.2.1 dX3_init_21 (by decide) ?_
  refine n_newi C hW 4 rfl (by decide) ⟨Nat.le_of_ble_eq_true rfl, Nat.le_of_ble_eq_true rfl⟩ dX3_init_22 (fun q3 H hW => ?_)
  have hW : ND g A s [(h, .inr (3, [.ref q1, .ref q2, .null, .null, .null, .int 0, .int 0, .int 0, .int 0])), (q1, Za g 7), (q2, Za g 7), (q3, Za g 4)] H _ := hW
  refine n_putF C hnm hW cd3 2 (by decide) rfl rfl rfl rfl (Nat.le_of_ble_eq_true rfl) qf_X3_18 dX3_init_24 (fun H locs hW => ?_)
  have hW : ND g A s [(h, .inr (3, [.ref q1, .ref q2, .ref q3, .null, .null, .int 0, .int 0, .int 0, .int 0])), (q1, Za g 7), (q2, Za g 7), (q3, Za g 4)] H _ := hW
  refine lv_aload_n C.1 C.2.1 dX3_init_27 rfl (lv_at hl 0 rfl) ?_
  refine lv_iconst (v := 4) C.1 C.2.1 dX3_init_28 (by decide) ?_
  refine n_newi C hW 4 rfl (by decide) ⟨Nat.le_of_ble_eq_true rfl, Nat.le_of_ble_eq_true rfl⟩ dX3_init_29 (fun q4 H hW => ?_)
  have hW : ND g A s [(h, .inr (3, [.ref q1, .ref q2, .ref q3, .null, .null, .int 0, .int 0, .int 0, .int 0])), (q1, Za g 7), (q2, Za g 7), (q3, Za g 4), (q4, Za g 4)] H _ := hW
  refine n_putF C hnm hW cd3 3 (by decide) rfl rfl rfl rfl (Nat.le_of_ble_eq_true rfl) qf_X3_21 dX3_init_31 (fun H locs hW => ?_)
  have hW : ND g A s [(h, .inr (3, [.ref q1, .ref q2, .ref q3, .ref q4, .null, .int 0, .int 0, .int 0, .int 0])), (q1, Za g 7), (q2, Za g 7), (q3, Za g 4), (q4, Za g 4)] H _ := hW
  refine lv_aload_n C.1 C.2.1 dX3_init_34 rfl (lv_at hl 0 rfl) ?_
  refine lv_iconst (v := 4) C.1 C.2.1 dX3_init_35 (by decide) ?_
  refine n_newi C hW 4 rfl (by decide) ⟨Nat.le_of_ble_eq_true rfl, Nat.le_of_ble_eq_true rfl⟩ dX3_init_36 (fun q5 H hW => ?_)
  have hW : ND g A s [(h, .inr (3, [.ref q1, .ref q2, .ref q3, .ref q4, .null, .int 0, .int 0, .int 0, .int 0])), (q1, Za g 7), (q2, Za g 7), (q3, Za g 4), (q4, Za g 4), (q5, Za g 4)] H _ := hW
  refine n_putF C hnm hW cd3 4 (by decide) rfl rfl rfl rfl (Nat.le_of_ble_eq_true rfl) qf_X3_24 dX3_init_38 (fun H locs hW => ?_)
  have hW : ND g A s [(h, .inr (3, [.ref q1, .ref q2, .ref q3, .ref q4, .ref q5, .int 0, .int 0, .int 0, .int 0])), (q1, Za g 7), (q2, Za g 7), (q3, Za g 4), (q4, Za g 4), (q5, Za g 4)] H _ := hW
  refine lv_aload_n C.1 C.2.1 dX3_init_41 rfl (lv_at hl 0 rfl) ?_
  refine lv_iconst (v := 0) C.1 C.2.1 dX3_init_42 (by decide) ?_
  refine n_put C hW cd3 5 (by decide) rfl rfl rfl rfl (Nat.le_of_ble_eq_true rfl) qf_X3_27 dX3_init_43 (fun H locs hW => ?_)
  have hW : ND g A s [(h, .inr (3, [.ref q1, .ref q2, .ref q3, .ref q4, .ref q5, .int 0, .int 0, .int 0, .int 0])), (q1, Za g 7), (q2, Za g 7), (q3, Za g 4), (q4, Za g 4), (q5, Za g 4)] H _ := hW
  refine lv_aload_n C.1 C.2.1 dX3_init_46 rfl (lv_at hl 0 rfl) ?_
  refine lv_iconst (v := 0) C.1 C.2.1 dX3_init_47 (by decide) ?_
  refine n_put C hW cd3 6 (by decide) rfl rfl rfl rfl (Nat.le_of_ble_eq_true rfl) qf_X3_31 dX3_init_48 (fun H locs hW => ?_)
  have hW : ND g A s [(h, .inr (3, [.ref q1, .ref q2, .ref q3, .ref q4, .ref q5, .int 0, .int 0, .int 0, .int 0])), (q1, Za g 7), (q2, Za g 7), (q3, Za g 4), (q4, Za g 4), (q5, Za g 4)] H _ := hW
  refine lv_aload_n C.1 C.2.1 dX3_init_51 rfl (lv_at hl 0 rfl) ?_
  refine lv_iconst (v := 0) C.1 C.2.1 dX3_init_52 (by decide) ?_
  refine n_put C hW cd3 7 (by decide) rfl rfl rfl rfl (Nat.le_of_ble_eq_true rfl) qf_X3_34 dX3_init_53 (fun H locs hW => ?_)
  have hW : ND g A s [(h, .inr (3, [.ref q1, .ref q2, .ref q3, .ref q4, .ref q5, .int 0, .int 0, .int 0, .int 0])), (q1, Za g 7), (q2, Za g 7), (q3, Za g 4), (q4, Za g 4), (q5, Za g 4)] H _ := hW
  refine lv_aload_n C.1 C.2.1 dX3_init_56 rfl (lv_at hl 0 rfl) ?_
  refine lv_iconst (v := 0) C.1 C.2.1 dX3_init_57 (by decide) ?_
  refine n_put C hW cd3 8 (by decide) rfl rfl rfl rfl (Nat.le_of_ble_eq_true rfl) qf_X3_37 dX3_init_58 (fun H locs hW => ?_)
  have hW : ND g A s [(h, .inr (3, [.ref q1, .ref q2, .ref q3, .ref q4, .ref q5, .int 0, .int 0, .int 0, .int 0])), (q1, Za g 7), (q2, Za g 7), (q3, Za g 4), (q4, Za g 4), (q5, Za g 4)] H _ := hW
  exact n_ret C hret hlk hW ⟨q1, q2, q3, q4, q5, rfl⟩ dX3_init_61
