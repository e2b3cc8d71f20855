/-! THE CLAIM OUT OF ONE WALK OF THE LAW'S BODY. Your part is whole_start (and what it stands on); all else here is the same for every law, but numbers. -/
def R_law : String := "StrayKeysLaw"
def lw_P (b : Addr) (xs : List Int32) (args : Array Value) (s : State) : Prop := args = #[.ref b] ∧ s.IntsAt b xs ∧ xs.length ≤ 3072 ∧ (Jvm.Cond.and given_1 narrow_1).before args s = true
def lw_Q (_ : Array Value) (s : State) (o : Outcome) (t : State) : Prop := o = .returned (some (.int 1)) ∧ Framed s o t [] 600000 7302250
def lw_Z (below : List Frame) (a : Array Value) (s : State) : State → Prop := fun t => ∃ o, t.status = .running ∧ Ended t below o ∧ lw_Q a s o t
/-- the law's own end, with 1 on the stack, nothing written that was there before, its room as the claim has it -/
theorem lw_ret {p : Program} {l : Launch} {e : Env} {s : State} {m : MethodId} {below : List Frame} {meth : Method} {c : Code} {b : Nat} (hx : p.tables.exec = Jvm.exec) (hb : c.code = code) (hr : meth.sig.returnType = ret) (hlocks : meth.locks = false) {pc : Nat} {H : Heap} {ls : Array Slot} (hdg : decode code pc = .ok (.ireturn, 1)) : W p l e room_1 s m #[Value.ref b] below meth c H [] 600000 7302250 (lw_Z below #[Value.ref b] s) (F0 m pc ls [.int 1]) := by
  intro T hT X
  obtain ⟨fs, hret, hrun, hended, hW, hframe⟩ := X.leave (v := some (.int 1)) (hlocks := hlocks) (fun h => by rw [hr] at h; cases h)
  have hmeth' : T.vm.method? m = some meth := X.method'
  refine ⟨T.setFrames fs, ?_, .returned (some (.int 1)), hrun, hended, rfl, ⟨_, rfl⟩, hW, hframe⟩
  jvm_step X.here [X.here.top, hx, hb, hdg, hmeth', hr, ret, narrow_b1]
  (try refine ⟨rfl, ?_⟩); (try refine ⟨rfl, ?_⟩)
  first | (intro acts; rw [hret _ acts rfl rfl rfl]) | rw [hret _ _ rfl rfl rfl]
  exact Steps.refl _
/-- what holds at the law's entry: the machine, the code, the tables' words (any of lw_tbl by 'hts w (by decide +kernel)'), the script of L ints xs at the cell b, what the Statement gives of the start (any of its parts by flat_of_before) -/
def lw_At (p : Program) (s : State) (m : MethodId) (meth : Method) (c : Code) (b L : Nat) (xs : Nat → Int32) : Prop :=
  p.tables.exec = Jvm.exec ∧ c.code = code ∧ meth.sig.returnType = ret ∧ c.maxLocals = 4 ∧ s.vm.findClass R_law = some m.cls ∧ (∀ w ∈ lw_tbl, w.before #[Value.ref b] s = true) ∧ va_X b L xs s s.heap ∧ b < s.heap.size ∧ meth.locks = false ∧ (Jvm.Cond.and given_1 narrow_1).before #[Value.ref b] s = true
theorem x_lawret {p : Program} {l : Launch} {e : Env} {s : State} {m : MethodId} {below : List Frame} {meth : Method} {c : Code} {g : GG} {A : Nat → Prop} {b : Nat} {u : St} {H : Heap} {locs : List Loc} {cells slots pc : Nat} {ls : Array Slot} (C : MC p s m #[Value.ref b] meth c cL_law 4 RL ret g A) (hW : WD g A s u H locs) (hcs2 : (∀ q, A q → s.heap.size ≤ q) ∧ cells ≤ room_1.cells ∧ slots ≤ room_1.slots) (hdg : decode cL_law pc = .ok (.ireturn, 1)) : W p l e room_1 s m #[Value.ref b] below meth c H locs cells slots (lw_Z below #[Value.ref b] s) (F0 m pc ls [.int 1]) := by
  refine va_forget (fun q hq => hcs2.1 _ (hW.2.2.2.2 q hq)) ?_
  refine W.widen (k := 600000) (n := 7302250) hcs2.2.1 hcs2.2.2 ?_
  exact lw_ret C.1 C.2.1 C.2.2.2.2.2.2.1 C.2.2.2.2.2.2.2.1 hdg
set_option maxRecDepth 100000 in
set_option maxHeartbeats 4000000 in
theorem k_L_law_B18 {p : Program} {l : Launch} {e : Env} {s : State} {m : MethodId} {below : List Frame} {meth : Method} {c : Code} {g : GG} {A : Nat → Prop} {b : Nat} {L : Nat} {xs : Nat → Int32} {Q : Int32 → St → Prop} {cells slots : Nat} (C : MC p s m #[Value.ref b] meth c cL_law 4 RL ret g A) (hX : va_X b L xs s s.heap) (hbl : b < s.heap.size) (hbA : ¬ A b) (hAs : ∀ q, A q → s.heap.size ≤ q) (hcs : cells ≤ room_1.cells ∧ slots ≤ room_1.slots) {K18 : Int32 → St → Prop} (hK18 : ∀ (v3 : Int32) (u : St) (H : Heap) (locs : List Loc) (ls : Array Slot), K18 v3 u → WD g A s u H locs → lv_has ls 4 [(0, .ref b), (1, .ref (gad g 0)), (2, .ref (gad g 39)), (3, .int v3)] → W p l e room_1 s m #[Value.ref b] below meth c H locs cells slots (lw_Z below #[Value.ref b] s) (F0 m 18 ls [])) : ∀ (v3 : Int32) (u : St) (H : Heap) (locs : List Loc) (ls : Array Slot), wp_L_law_B18 L xs Q K18 v3 u → WD g A s u H locs → lv_has ls 4 [(0, .ref b), (1, .ref (gad g 0)), (2, .ref (gad g 39)), (3, .int v3)] → W p l e room_1 s m #[Value.ref b] below meth c H locs cells slots (lw_Z below #[Value.ref b] s) (F0 m 18 ls []) := by
  intro v3 u H locs ls h hW hl
  refine lv_iload_n C.1 C.2.1 dL_law_18 rfl (lv_at hl 3 rfl) ?_
  refine lv_aload_n C.1 C.2.1 dL_law_19 rfl (lv_at hl 0 rfl) ?_
  refine va_slen C.1 C.2.1 hX hbl hbA hW.2.2 dL_law_20 ?_
  refine lv_bipush (v := 6) C.1 C.2.1 dL_law_21 (by decide) ?_
  refine lv_isub C.1 C.2.1 dL_law_23 ?_
  refine lv_icmp_gt (tgt := 1224) C.1 C.2.1 dL_law_24 (by decide) (fun c1 => ?_) (fun c1 => ?_)
  · have h := h.1 c1
    refine lv_iconst (v := 1) C.1 C.2.1 dL_law_1224 (by decide) ?_
    exact x_lawret C hW ⟨hAs, hcs⟩ dL_law_1225
  · have h := h.2 c1
    refine lv_aload_n C.1 C.2.1 dL_law_27 rfl (lv_at hl 0 rfl) ?_
    refine lv_iload_n C.1 C.2.1 dL_law_28 rfl (lv_at hl 3 rfl) ?_
    obtain ⟨h2, h⟩ := h
    refine va_sld C.1 C.2.1 hX hbl hbA hW.2.2 h2 dL_law_29 ?_
    refine lv_bipush (v := 63) C.1 C.2.1 dL_law_30 (by decide) ?_
    refine lv_iand C.1 C.2.1 dL_law_32 ?_
    by_cases c3 : ((xs (Int32.toNatClampNeg v3)) &&& 63) = 0
    · refine lv_tableIn (off := 179) (tgt := 212) C.1 C.2.1 dL_law_33 (by rw [c3]; decide +kernel) (by rw [c3]; decide +kernel) (by rw [c3]; decide +kernel) (by decide) ?_
      have h := h.1 c3
      refine lv_aload_n C.1 C.2.1 dL_law_212 rfl (lv_at hl 1 rfl) ?_
      refine lv_aload_n C.1 C.2.1 dL_law_213 rfl (lv_at hl 0 rfl) ?_
      refine lv_iload_n C.1 C.2.1 dL_law_214 rfl (lv_at hl 3 rfl) ?_
      refine lv_iconst (v := 1) C.1 C.2.1 dL_law_215 (by decide) ?_
      refine lv_iadd C.1 C.2.1 dL_law_216 ?_
      obtain ⟨h4, h⟩ := h
      refine va_sld C.1 C.2.1 hX hbl hbA hW.2.2 h4 dL_law_217 ?_
      refine lv_aload_n C.1 C.2.1 dL_law_218 rfl (lv_at hl 0 rfl) ?_
      refine lv_iload_n C.1 C.2.1 dL_law_219 rfl (lv_at hl 3 rfl) ?_
      refine lv_iconst (v := 2) C.1 C.2.1 dL_law_220 (by decide) ?_
      refine lv_iadd C.1 C.2.1 dL_law_221 ?_
      obtain ⟨h5, h⟩ := h
      refine va_sld C.1 C.2.1 hX hbl hbA hW.2.2 h5 dL_law_222 ?_
      refine x_Vi (rest := []) C hW (c_X4_row l g h) km_X4_row oKeys rfl qm_L_13 ⟨rfl, rfl⟩ (by decide) rfl hl.1 rfl (Nat.le_of_ble_eq_true rfl) hcs dL_law_223 (fun r6 u6 H locs h hW => ?_)
      refine lv_aload_n C.1 C.2.1 dL_law_226 rfl (lv_at hl 2 rfl) ?_
      refine lv_aload_n C.1 C.2.1 dL_law_227 rfl (lv_at hl 0 rfl) ?_
      refine lv_iload_n C.1 C.2.1 dL_law_228 rfl (lv_at hl 3 rfl) ?_
      refine lv_iconst (v := 1) C.1 C.2.1 dL_law_229 (by decide) ?_
      refine lv_iadd C.1 C.2.1 dL_law_230 ?_
      obtain ⟨h7, h⟩ := h
      refine va_sld C.1 C.2.1 hX hbl hbA hW.2.2 h7 dL_law_231 ?_
      refine lv_aload_n C.1 C.2.1 dL_law_232 rfl (lv_at hl 0 rfl) ?_
      refine lv_iload_n C.1 C.2.1 dL_law_233 rfl (lv_at hl 3 rfl) ?_
      refine lv_iconst (v := 2) C.1 C.2.1 dL_law_234 (by decide) ?_
      refine lv_iadd C.1 C.2.1 dL_law_235 ?_
      obtain ⟨h8, h⟩ := h
      refine va_sld C.1 C.2.1 hX hbl hbA hW.2.2 h8 dL_law_236 ?_
      refine x_Vi (rest := [.int r6]) C hW (c_X5_row l g h) km_X5_row oModel rfl qm_L_17 ⟨rfl, rfl⟩ (by decide) rfl hl.1 rfl (Nat.le_of_ble_eq_true rfl) hcs dL_law_237 (fun r9 u9 H locs h hW => ?_)
      refine lv_icmp_eq (tgt := 1218) C.1 C.2.1 dL_law_240 (by decide) (fun c10 => ?_) (fun c10 => ?_)
      · have h := h.1 c10
        refine lv_iinc (v := (v3 + 6)) (lv' := [(3, .int (v3 + 6)), (0, .ref b), (1, .ref (gad g 0)), (2, .ref (gad g 39))]) C.1 C.2.1 dL_law_1218 hl (k := 3) rfl rfl (by decide) rfl (fun ls hl => ?_)
        refine lv_goto (tgt := 18) C.1 C.2.1 dL_law_1221 (by decide) ?_
        exact hK18 (v3 + 6) u9 _ _ _ h hW (lv_sub hl [1, 2, 3, 0] rfl)
      · have h := h.2 c10
        refine lv_iconst (v := 0) C.1 C.2.1 dL_law_243 (by decide) ?_
        exact h.elim
    · skip
      by_cases c11 : ((xs (Int32.toNatClampNeg v3)) &&& 63) = 1
      · refine lv_tableIn (off := 212) (tgt := 245) C.1 C.2.1 dL_law_33 (by rw [c11]; decide +kernel) (by rw [c11]; decide +kernel) (by rw [c11]; decide +kernel) (by decide) ?_
        have h := h.2.1 c11
        refine lv_aload_n C.1 C.2.1 dL_law_245 rfl (lv_at hl 1 rfl) ?_
        refine lv_aload_n C.1 C.2.1 dL_law_246 rfl (lv_at hl 0 rfl) ?_
        refine lv_iload_n C.1 C.2.1 dL_law_247 rfl (lv_at hl 3 rfl) ?_
        refine lv_iconst (v := 1) C.1 C.2.1 dL_law_248 (by decide) ?_
        refine lv_iadd C.1 C.2.1 dL_law_249 ?_
        obtain ⟨h12, h⟩ := h
        refine va_sld C.1 C.2.1 hX hbl hbA hW.2.2 h12 dL_law_250 ?_
        refine lv_aload_n C.1 C.2.1 dL_law_251 rfl (lv_at hl 0 rfl) ?_
        refine lv_iload_n C.1 C.2.1 dL_law_252 rfl (lv_at hl 3 rfl) ?_
        refine lv_iconst (v := 2) C.1 C.2.1 dL_law_253 (by decide) ?_
        refine lv_iadd C.1 C.2.1 dL_law_254 ?_
        obtain ⟨h13, h⟩ := h
        refine va_sld C.1 C.2.1 hX hbl hbA hW.2.2 h13 dL_law_255 ?_
        refine lv_aload_n C.1 C.2.1 dL_law_256 rfl (lv_at hl 0 rfl) ?_
        refine lv_iload_n C.1 C.2.1 dL_law_257 rfl (lv_at hl 3 rfl) ?_
        refine lv_iconst (v := 3) C.1 C.2.1 dL_law_258 (by decide) ?_
        refine lv_iadd C.1 C.2.1 dL_law_259 ?_
        obtain ⟨h14, h⟩ := h
        refine va_sld C.1 C.2.1 hX hbl hbA hW.2.2 h14 dL_law_260 ?_
        refine x_Vi (rest := []) C hW (c_X4_lay l g h) km_X4_lay oKeys rfl qm_L_18 ⟨rfl, rfl⟩ (by decide) rfl hl.1 rfl (Nat.le_of_ble_eq_true rfl) hcs dL_law_261 (fun r15 u15 H locs h hW => ?_)
        refine lv_aload_n C.1 C.2.1 dL_law_264 rfl (lv_at hl 2 rfl) ?_
        refine lv_aload_n C.1 C.2.1 dL_law_265 rfl (lv_at hl 0 rfl) ?_
        refine lv_iload_n C.1 C.2.1 dL_law_266 rfl (lv_at hl 3 rfl) ?_
        refine lv_iconst (v := 1) C.1 C.2.1 dL_law_267 (by decide) ?_
        refine lv_iadd C.1 C.2.1 dL_law_268 ?_
        obtain ⟨h16, h⟩ := h
        refine va_sld C.1 C.2.1 hX hbl hbA hW.2.2 h16 dL_law_269 ?_
        refine lv_aload_n C.1 C.2.1 dL_law_270 rfl (lv_at hl 0 rfl) ?_
        refine lv_iload_n C.1 C.2.1 dL_law_271 rfl (lv_at hl 3 rfl) ?_
        refine lv_iconst (v := 2) C.1 C.2.1 dL_law_272 (by decide) ?_
        refine lv_iadd C.1 C.2.1 dL_law_273 ?_
        obtain ⟨h17, h⟩ := h
        refine va_sld C.1 C.2.1 hX hbl hbA hW.2.2 h17 dL_law_274 ?_
        refine lv_aload_n C.1 C.2.1 dL_law_275 rfl (lv_at hl 0 rfl) ?_
        refine lv_iload_n C.1 C.2.1 dL_law_276 rfl (lv_at hl 3 rfl) ?_
        refine lv_iconst (v := 3) C.1 C.2.1 dL_law_277 (by decide) ?_
        refine lv_iadd C.1 C.2.1 dL_law_278 ?_
        obtain ⟨h18, h⟩ := h
        refine va_sld C.1 C.2.1 hX hbl hbA hW.2.2 h18 dL_law_279 ?_
        refine x_Vi (rest := [.int r15]) C hW (c_X5_lay l g h) km_X5_lay oModel rfl qm_L_22 ⟨rfl, rfl⟩ (by decide) rfl hl.1 rfl (Nat.le_of_ble_eq_true rfl) hcs dL_law_280 (fun r19 u19 H locs h hW => ?_)
        refine lv_icmp_eq (tgt := 1218) C.1 C.2.1 dL_law_283 (by decide) (fun c20 => ?_) (fun c20 => ?_)
        · have h := h.1 c20
          refine lv_iinc (v := (v3 + 6)) (lv' := [(3, .int (v3 + 6)), (0, .ref b), (1, .ref (gad g 0)), (2, .ref (gad g 39))]) C.1 C.2.1 dL_law_1218 hl (k := 3) rfl rfl (by decide) rfl (fun ls hl => ?_)
          refine lv_goto (tgt := 18) C.1 C.2.1 dL_law_1221 (by decide) ?_
          exact hK18 (v3 + 6) u19 _ _ _ h hW (lv_sub hl [1, 2, 3, 0] rfl)
        · have h := h.2 c20
          refine lv_iconst (v := 0) C.1 C.2.1 dL_law_286 (by decide) ?_
          exact h.elim
      · skip
        by_cases c21 : ((xs (Int32.toNatClampNeg v3)) &&& 63) = 2
        · refine lv_tableIn (off := 255) (tgt := 288) C.1 C.2.1 dL_law_33 (by rw [c21]; decide +kernel) (by rw [c21]; decide +kernel) (by rw [c21]; decide +kernel) (by decide) ?_
          have h := h.2.2.1 c21
          refine lv_aload_n C.1 C.2.1 dL_law_288 rfl (lv_at hl 1 rfl) ?_
          refine lv_aload_n C.1 C.2.1 dL_law_289 rfl (lv_at hl 0 rfl) ?_
          refine lv_iload_n C.1 C.2.1 dL_law_290 rfl (lv_at hl 3 rfl) ?_
          refine lv_iconst (v := 1) C.1 C.2.1 dL_law_291 (by decide) ?_
          refine lv_iadd C.1 C.2.1 dL_law_292 ?_
          obtain ⟨h22, h⟩ := h
          refine va_sld C.1 C.2.1 hX hbl hbA hW.2.2 h22 dL_law_293 ?_
          refine lv_aload_n C.1 C.2.1 dL_law_294 rfl (lv_at hl 0 rfl) ?_
          refine lv_iload_n C.1 C.2.1 dL_law_295 rfl (lv_at hl 3 rfl) ?_
          refine lv_iconst (v := 2) C.1 C.2.1 dL_law_296 (by decide) ?_
          refine lv_iadd C.1 C.2.1 dL_law_297 ?_
          obtain ⟨h23, h⟩ := h
          refine va_sld C.1 C.2.1 hX hbl hbA hW.2.2 h23 dL_law_298 ?_
          refine x_Vi (rest := []) C hW (c_X4_at l g h) km_X4_at oKeys rfl qm_L_23 ⟨rfl, rfl⟩ (by decide) rfl hl.1 rfl (Nat.le_of_ble_eq_true rfl) hcs dL_law_299 (fun r24 u24 H locs h hW => ?_)
          refine lv_aload_n C.1 C.2.1 dL_law_302 rfl (lv_at hl 2 rfl) ?_
          refine lv_aload_n C.1 C.2.1 dL_law_303 rfl (lv_at hl 0 rfl) ?_
          refine lv_iload_n C.1 C.2.1 dL_law_304 rfl (lv_at hl 3 rfl) ?_
          refine lv_iconst (v := 1) C.1 C.2.1 dL_law_305 (by decide) ?_
          refine lv_iadd C.1 C.2.1 dL_law_306 ?_
          obtain ⟨h25, h⟩ := h
          refine va_sld C.1 C.2.1 hX hbl hbA hW.2.2 h25 dL_law_307 ?_
          refine lv_aload_n C.1 C.2.1 dL_law_308 rfl (lv_at hl 0 rfl) ?_
          refine lv_iload_n C.1 C.2.1 dL_law_309 rfl (lv_at hl 3 rfl) ?_
          refine lv_iconst (v := 2) C.1 C.2.1 dL_law_310 (by decide) ?_
          refine lv_iadd C.1 C.2.1 dL_law_311 ?_
          obtain ⟨h26, h⟩ := h
          refine va_sld C.1 C.2.1 hX hbl hbA hW.2.2 h26 dL_law_312 ?_
          refine x_Vi (rest := [.int r24]) C hW (c_X5_at l g h) km_X5_at oModel rfl qm_L_26 ⟨rfl, rfl⟩ (by decide) rfl hl.1 rfl (Nat.le_of_ble_eq_true rfl) hcs dL_law_313 (fun r27 u27 H locs h hW => ?_)
          refine lv_icmp_eq (tgt := 1218) C.1 C.2.1 dL_law_316 (by decide) (fun c28 => ?_) (fun c28 => ?_)
          · have h := h.1 c28
            refine lv_iinc (v := (v3 + 6)) (lv' := [(3, .int (v3 + 6)), (0, .ref b), (1, .ref (gad g 0)), (2, .ref (gad g 39))]) C.1 C.2.1 dL_law_1218 hl (k := 3) rfl rfl (by decide) rfl (fun ls hl => ?_)
            refine lv_goto (tgt := 18) C.1 C.2.1 dL_law_1221 (by decide) ?_
            exact hK18 (v3 + 6) u27 _ _ _ h hW (lv_sub hl [1, 2, 3, 0] rfl)
          · have h := h.2 c28
            refine lv_iconst (v := 0) C.1 C.2.1 dL_law_319 (by decide) ?_
            exact h.elim
        · skip
          by_cases c29 : ((xs (Int32.toNatClampNeg v3)) &&& 63) = 3
          · refine lv_tableIn (off := 288) (tgt := 321) C.1 C.2.1 dL_law_33 (by rw [c29]; decide +kernel) (by rw [c29]; decide +kernel) (by rw [c29]; decide +kernel) (by decide) ?_
            have h := h.2.2.2.1 c29
            refine lv_aload_n C.1 C.2.1 dL_law_321 rfl (lv_at hl 1 rfl) ?_
            refine lv_aload_n C.1 C.2.1 dL_law_322 rfl (lv_at hl 0 rfl) ?_
            refine lv_iload_n C.1 C.2.1 dL_law_323 rfl (lv_at hl 3 rfl) ?_
            refine lv_iconst (v := 1) C.1 C.2.1 dL_law_324 (by decide) ?_
            refine lv_iadd C.1 C.2.1 dL_law_325 ?_
            obtain ⟨h30, h⟩ := h
            refine va_sld C.1 C.2.1 hX hbl hbA hW.2.2 h30 dL_law_326 ?_
            refine x_Vi (rest := []) C hW (c_X4_tear l g h) km_X4_tear oKeys rfl qm_L_27 ⟨rfl, rfl⟩ (by decide) rfl hl.1 rfl (Nat.le_of_ble_eq_true rfl) hcs dL_law_327 (fun r31 u31 H locs h hW => ?_)
            refine lv_aload_n C.1 C.2.1 dL_law_330 rfl (lv_at hl 2 rfl) ?_
            refine lv_aload_n C.1 C.2.1 dL_law_331 rfl (lv_at hl 0 rfl) ?_
            refine lv_iload_n C.1 C.2.1 dL_law_332 rfl (lv_at hl 3 rfl) ?_
            refine lv_iconst (v := 1) C.1 C.2.1 dL_law_333 (by decide) ?_
            refine lv_iadd C.1 C.2.1 dL_law_334 ?_
            obtain ⟨h32, h⟩ := h
            refine va_sld C.1 C.2.1 hX hbl hbA hW.2.2 h32 dL_law_335 ?_
            refine x_Vi (rest := [.int r31]) C hW (c_X5_tear l g h) km_X5_tear oModel rfl qm_L_31 ⟨rfl, rfl⟩ (by decide) rfl hl.1 rfl (Nat.le_of_ble_eq_true rfl) hcs dL_law_336 (fun r33 u33 H locs h hW => ?_)
            refine lv_icmp_eq (tgt := 1218) C.1 C.2.1 dL_law_339 (by decide) (fun c34 => ?_) (fun c34 => ?_)
            · have h := h.1 c34
              refine lv_iinc (v := (v3 + 6)) (lv' := [(3, .int (v3 + 6)), (0, .ref b), (1, .ref (gad g 0)), (2, .ref (gad g 39))]) C.1 C.2.1 dL_law_1218 hl (k := 3) rfl rfl (by decide) rfl (fun ls hl => ?_)
              refine lv_goto (tgt := 18) C.1 C.2.1 dL_law_1221 (by decide) ?_
              exact hK18 (v3 + 6) u33 _ _ _ h hW (lv_sub hl [1, 2, 3, 0] rfl)
            · have h := h.2 c34
              refine lv_iconst (v := 0) C.1 C.2.1 dL_law_342 (by decide) ?_
              exact h.elim
          · skip
            by_cases c35 : ((xs (Int32.toNatClampNeg v3)) &&& 63) = 4
            · refine lv_tableIn (off := 311) (tgt := 344) C.1 C.2.1 dL_law_33 (by rw [c35]; decide +kernel) (by rw [c35]; decide +kernel) (by rw [c35]; decide +kernel) (by decide) ?_
              have h := h.2.2.2.2.1 c35
              refine lv_aload_n C.1 C.2.1 dL_law_344 rfl (lv_at hl 1 rfl) ?_
              refine lv_aload_n C.1 C.2.1 dL_law_345 rfl (lv_at hl 0 rfl) ?_
              refine lv_iload_n C.1 C.2.1 dL_law_346 rfl (lv_at hl 3 rfl) ?_
              refine lv_iconst (v := 1) C.1 C.2.1 dL_law_347 (by decide) ?_
              refine lv_iadd C.1 C.2.1 dL_law_348 ?_
              obtain ⟨h36, h⟩ := h
              refine va_sld C.1 C.2.1 hX hbl hbA hW.2.2 h36 dL_law_349 ?_
              refine lv_aload_n C.1 C.2.1 dL_law_350 rfl (lv_at hl 0 rfl) ?_
              refine lv_iload_n C.1 C.2.1 dL_law_351 rfl (lv_at hl 3 rfl) ?_
              refine lv_iconst (v := 2) C.1 C.2.1 dL_law_352 (by decide) ?_
              refine lv_iadd C.1 C.2.1 dL_law_353 ?_
              obtain ⟨h37, h⟩ := h
              refine va_sld C.1 C.2.1 hX hbl hbA hW.2.2 h37 dL_law_354 ?_
              refine lv_aload_n C.1 C.2.1 dL_law_355 rfl (lv_at hl 0 rfl) ?_
              refine lv_iload_n C.1 C.2.1 dL_law_356 rfl (lv_at hl 3 rfl) ?_
              refine lv_iconst (v := 3) C.1 C.2.1 dL_law_357 (by decide) ?_
              refine lv_iadd C.1 C.2.1 dL_law_358 ?_
              obtain ⟨h38, h⟩ := h
              refine va_sld C.1 C.2.1 hX hbl hbA hW.2.2 h38 dL_law_359 ?_
              refine lv_aload_n C.1 C.2.1 dL_law_360 rfl (lv_at hl 0 rfl) ?_
              refine lv_iload_n C.1 C.2.1 dL_law_361 rfl (lv_at hl 3 rfl) ?_
              refine lv_iconst (v := 4) C.1 C.2.1 dL_law_362 (by decide) ?_
              refine lv_iadd C.1 C.2.1 dL_law_363 ?_
              obtain ⟨h39, h⟩ := h
              refine va_sld C.1 C.2.1 hX hbl hbA hW.2.2 h39 dL_law_364 ?_
              refine lv_aload_n C.1 C.2.1 dL_law_365 rfl (lv_at hl 0 rfl) ?_
              refine lv_iload_n C.1 C.2.1 dL_law_366 rfl (lv_at hl 3 rfl) ?_
              refine lv_iconst (v := 5) C.1 C.2.1 dL_law_367 (by decide) ?_
              refine lv_iadd C.1 C.2.1 dL_law_368 ?_
              obtain ⟨h40, h⟩ := h
              refine va_sld C.1 C.2.1 hX hbl hbA hW.2.2 h40 dL_law_369 ?_
              refine x_Vi (rest := []) C hW (c_X4_copy l g h) km_X4_copy oKeys rfl qm_L_32 ⟨rfl, rfl⟩ (by decide) rfl hl.1 rfl (Nat.le_of_ble_eq_true rfl) hcs dL_law_370 (fun r41 u41 H locs h hW => ?_)
              refine lv_aload_n C.1 C.2.1 dL_law_373 rfl (lv_at hl 2 rfl) ?_
              refine lv_aload_n C.1 C.2.1 dL_law_374 rfl (lv_at hl 0 rfl) ?_
              refine lv_iload_n C.1 C.2.1 dL_law_375 rfl (lv_at hl 3 rfl) ?_
              refine lv_iconst (v := 1) C.1 C.2.1 dL_law_376 (by decide) ?_
              refine lv_iadd C.1 C.2.1 dL_law_377 ?_
              obtain ⟨h42, h⟩ := h
              refine va_sld C.1 C.2.1 hX hbl hbA hW.2.2 h42 dL_law_378 ?_
              refine lv_aload_n C.1 C.2.1 dL_law_379 rfl (lv_at hl 0 rfl) ?_
              refine lv_iload_n C.1 C.2.1 dL_law_380 rfl (lv_at hl 3 rfl) ?_
              refine lv_iconst (v := 2) C.1 C.2.1 dL_law_381 (by decide) ?_
              refine lv_iadd C.1 C.2.1 dL_law_382 ?_
              obtain ⟨h43, h⟩ := h
              refine va_sld C.1 C.2.1 hX hbl hbA hW.2.2 h43 dL_law_383 ?_
              refine lv_aload_n C.1 C.2.1 dL_law_384 rfl (lv_at hl 0 rfl) ?_
              refine lv_iload_n C.1 C.2.1 dL_law_385 rfl (lv_at hl 3 rfl) ?_
              refine lv_iconst (v := 3) C.1 C.2.1 dL_law_386 (by decide) ?_
              refine lv_iadd C.1 C.2.1 dL_law_387 ?_
              obtain ⟨h44, h⟩ := h
              refine va_sld C.1 C.2.1 hX hbl hbA hW.2.2 h44 dL_law_388 ?_
              refine lv_aload_n C.1 C.2.1 dL_law_389 rfl (lv_at hl 0 rfl) ?_
              refine lv_iload_n C.1 C.2.1 dL_law_390 rfl (lv_at hl 3 rfl) ?_
              refine lv_iconst (v := 4) C.1 C.2.1 dL_law_391 (by decide) ?_
              refine lv_iadd C.1 C.2.1 dL_law_392 ?_
              obtain ⟨h45, h⟩ := h
              refine va_sld C.1 C.2.1 hX hbl hbA hW.2.2 h45 dL_law_393 ?_
              refine lv_aload_n C.1 C.2.1 dL_law_394 rfl (lv_at hl 0 rfl) ?_
              refine lv_iload_n C.1 C.2.1 dL_law_395 rfl (lv_at hl 3 rfl) ?_
              refine lv_iconst (v := 5) C.1 C.2.1 dL_law_396 (by decide) ?_
              refine lv_iadd C.1 C.2.1 dL_law_397 ?_
              obtain ⟨h46, h⟩ := h
              refine va_sld C.1 C.2.1 hX hbl hbA hW.2.2 h46 dL_law_398 ?_
              refine x_Vi (rest := [.int r41]) C hW (c_X5_copy l g h) km_X5_copy oModel rfl qm_L_36 ⟨rfl, rfl⟩ (by decide) rfl hl.1 rfl (Nat.le_of_ble_eq_true rfl) hcs dL_law_399 (fun r47 u47 H locs h hW => ?_)
              refine lv_icmp_eq (tgt := 1218) C.1 C.2.1 dL_law_402 (by decide) (fun c48 => ?_) (fun c48 => ?_)
              · have h := h.1 c48
                refine lv_iinc (v := (v3 + 6)) (lv' := [(3, .int (v3 + 6)), (0, .ref b), (1, .ref (gad g 0)), (2, .ref (gad g 39))]) C.1 C.2.1 dL_law_1218 hl (k := 3) rfl rfl (by decide) rfl (fun ls hl => ?_)
                refine lv_goto (tgt := 18) C.1 C.2.1 dL_law_1221 (by decide) ?_
                exact hK18 (v3 + 6) u47 _ _ _ h hW (lv_sub hl [1, 2, 3, 0] rfl)
              · have h := h.2 c48
                refine lv_iconst (v := 0) C.1 C.2.1 dL_law_405 (by decide) ?_
                exact h.elim
            · skip
              by_cases c49 : ((xs (Int32.toNatClampNeg v3)) &&& 63) = 5
              · refine lv_tableIn (off := 374) (tgt := 407) C.1 C.2.1 dL_law_33 (by rw [c49]; decide +kernel) (by rw [c49]; decide +kernel) (by rw [c49]; decide +kernel) (by decide) ?_
                have h := h.2.2.2.2.2.1 c49
                refine lv_aload_n C.1 C.2.1 dL_law_407 rfl (lv_at hl 1 rfl) ?_
                refine lv_aload_n C.1 C.2.1 dL_law_408 rfl (lv_at hl 0 rfl) ?_
                refine lv_iload_n C.1 C.2.1 dL_law_409 rfl (lv_at hl 3 rfl) ?_
                refine lv_iconst (v := 1) C.1 C.2.1 dL_law_410 (by decide) ?_
                refine lv_iadd C.1 C.2.1 dL_law_411 ?_
                obtain ⟨h50, h⟩ := h
                refine va_sld C.1 C.2.1 hX hbl hbA hW.2.2 h50 dL_law_412 ?_
                refine x_Vi (rest := []) C hW (c_X4_mean l g h) km_X4_mean oKeys rfl qm_L_37 ⟨rfl, rfl⟩ (by decide) rfl hl.1 rfl (Nat.le_of_ble_eq_true rfl) hcs dL_law_413 (fun r51 u51 H locs h hW => ?_)
                refine lv_aload_n C.1 C.2.1 dL_law_416 rfl (lv_at hl 2 rfl) ?_
                refine lv_aload_n C.1 C.2.1 dL_law_417 rfl (lv_at hl 0 rfl) ?_
                refine lv_iload_n C.1 C.2.1 dL_law_418 rfl (lv_at hl 3 rfl) ?_
                refine lv_iconst (v := 1) C.1 C.2.1 dL_law_419 (by decide) ?_
                refine lv_iadd C.1 C.2.1 dL_law_420 ?_
                obtain ⟨h52, h⟩ := h
                refine va_sld C.1 C.2.1 hX hbl hbA hW.2.2 h52 dL_law_421 ?_
                refine x_Vi (rest := [.int r51]) C hW (c_X5_mean l g h) km_X5_mean oModel rfl qm_L_40 ⟨rfl, rfl⟩ (by decide) rfl hl.1 rfl (Nat.le_of_ble_eq_true rfl) hcs dL_law_422 (fun r53 u53 H locs h hW => ?_)
                refine lv_icmp_eq (tgt := 1218) C.1 C.2.1 dL_law_425 (by decide) (fun c54 => ?_) (fun c54 => ?_)
                · have h := h.1 c54
                  refine lv_iinc (v := (v3 + 6)) (lv' := [(3, .int (v3 + 6)), (0, .ref b), (1, .ref (gad g 0)), (2, .ref (gad g 39))]) C.1 C.2.1 dL_law_1218 hl (k := 3) rfl rfl (by decide) rfl (fun ls hl => ?_)
                  refine lv_goto (tgt := 18) C.1 C.2.1 dL_law_1221 (by decide) ?_
                  exact hK18 (v3 + 6) u53 _ _ _ h hW (lv_sub hl [1, 2, 3, 0] rfl)
                · have h := h.2 c54
                  refine lv_iconst (v := 0) C.1 C.2.1 dL_law_428 (by decide) ?_
                  exact h.elim
              · skip
                by_cases c55 : ((xs (Int32.toNatClampNeg v3)) &&& 63) = 6
                · refine lv_tableIn (off := 397) (tgt := 430) C.1 C.2.1 dL_law_33 (by rw [c55]; decide +kernel) (by rw [c55]; decide +kernel) (by rw [c55]; decide +kernel) (by decide) ?_
                  have h := h.2.2.2.2.2.2.1 c55
                  refine lv_aload_n C.1 C.2.1 dL_law_430 rfl (lv_at hl 1 rfl) ?_
                  refine lv_aload_n C.1 C.2.1 dL_law_431 rfl (lv_at hl 0 rfl) ?_
                  refine lv_iload_n C.1 C.2.1 dL_law_432 rfl (lv_at hl 3 rfl) ?_
                  refine lv_iconst (v := 1) C.1 C.2.1 dL_law_433 (by decide) ?_
                  refine lv_iadd C.1 C.2.1 dL_law_434 ?_
                  obtain ⟨h56, h⟩ := h
                  refine va_sld C.1 C.2.1 hX hbl hbA hW.2.2 h56 dL_law_435 ?_
                  refine lv_aload_n C.1 C.2.1 dL_law_436 rfl (lv_at hl 0 rfl) ?_
                  refine lv_iload_n C.1 C.2.1 dL_law_437 rfl (lv_at hl 3 rfl) ?_
                  refine lv_iconst (v := 2) C.1 C.2.1 dL_law_438 (by decide) ?_
                  refine lv_iadd C.1 C.2.1 dL_law_439 ?_
                  obtain ⟨h57, h⟩ := h
                  refine va_sld C.1 C.2.1 hX hbl hbA hW.2.2 h57 dL_law_440 ?_
                  refine x_Vi (rest := []) C hW (c_X4_text l g h) km_X4_text oKeys rfl qm_L_41 ⟨rfl, rfl⟩ (by decide) rfl hl.1 rfl (Nat.le_of_ble_eq_true rfl) hcs dL_law_441 (fun r58 u58 H locs h hW => ?_)
                  refine lv_aload_n C.1 C.2.1 dL_law_444 rfl (lv_at hl 2 rfl) ?_
                  refine lv_aload_n C.1 C.2.1 dL_law_445 rfl (lv_at hl 0 rfl) ?_
                  refine lv_iload_n C.1 C.2.1 dL_law_446 rfl (lv_at hl 3 rfl) ?_
                  refine lv_iconst (v := 1) C.1 C.2.1 dL_law_447 (by decide) ?_
                  refine lv_iadd C.1 C.2.1 dL_law_448 ?_
                  obtain ⟨h59, h⟩ := h
                  refine va_sld C.1 C.2.1 hX hbl hbA hW.2.2 h59 dL_law_449 ?_
                  refine lv_aload_n C.1 C.2.1 dL_law_450 rfl (lv_at hl 0 rfl) ?_
                  refine lv_iload_n C.1 C.2.1 dL_law_451 rfl (lv_at hl 3 rfl) ?_
                  refine lv_iconst (v := 2) C.1 C.2.1 dL_law_452 (by decide) ?_
                  refine lv_iadd C.1 C.2.1 dL_law_453 ?_
                  obtain ⟨h60, h⟩ := h
                  refine va_sld C.1 C.2.1 hX hbl hbA hW.2.2 h60 dL_law_454 ?_
                  refine x_Vi (rest := [.int r58]) C hW (c_X5_text l g h) km_X5_text oModel rfl qm_L_44 ⟨rfl, rfl⟩ (by decide) rfl hl.1 rfl (Nat.le_of_ble_eq_true rfl) hcs dL_law_455 (fun r61 u61 H locs h hW => ?_)
                  refine lv_icmp_eq (tgt := 1218) C.1 C.2.1 dL_law_458 (by decide) (fun c62 => ?_) (fun c62 => ?_)
                  · have h := h.1 c62
                    refine lv_iinc (v := (v3 + 6)) (lv' := [(3, .int (v3 + 6)), (0, .ref b), (1, .ref (gad g 0)), (2, .ref (gad g 39))]) C.1 C.2.1 dL_law_1218 hl (k := 3) rfl rfl (by decide) rfl (fun ls hl => ?_)
                    refine lv_goto (tgt := 18) C.1 C.2.1 dL_law_1221 (by decide) ?_
                    exact hK18 (v3 + 6) u61 _ _ _ h hW (lv_sub hl [1, 2, 3, 0] rfl)
                  · have h := h.2 c62
                    refine lv_iconst (v := 0) C.1 C.2.1 dL_law_461 (by decide) ?_
                    exact h.elim
                · skip
                  by_cases c63 : ((xs (Int32.toNatClampNeg v3)) &&& 63) = 7
                  · refine lv_tableIn (off := 430) (tgt := 463) C.1 C.2.1 dL_law_33 (by rw [c63]; decide +kernel) (by rw [c63]; decide +kernel) (by rw [c63]; decide +kernel) (by decide) ?_
                    have h := h.2.2.2.2.2.2.2.1 c63
                    refine lv_aload_n C.1 C.2.1 dL_law_463 rfl (lv_at hl 1 rfl) ?_
                    refine lv_aload_n C.1 C.2.1 dL_law_464 rfl (lv_at hl 0 rfl) ?_
                    refine lv_iload_n C.1 C.2.1 dL_law_465 rfl (lv_at hl 3 rfl) ?_
                    refine lv_iconst (v := 1) C.1 C.2.1 dL_law_466 (by decide) ?_
                    refine lv_iadd C.1 C.2.1 dL_law_467 ?_
                    obtain ⟨h64, h⟩ := h
                    refine va_sld C.1 C.2.1 hX hbl hbA hW.2.2 h64 dL_law_468 ?_
                    refine lv_aload_n C.1 C.2.1 dL_law_469 rfl (lv_at hl 0 rfl) ?_
                    refine lv_iload_n C.1 C.2.1 dL_law_470 rfl (lv_at hl 3 rfl) ?_
                    refine lv_iconst (v := 2) C.1 C.2.1 dL_law_471 (by decide) ?_
                    refine lv_iadd C.1 C.2.1 dL_law_472 ?_
                    obtain ⟨h65, h⟩ := h
                    refine va_sld C.1 C.2.1 hX hbl hbA hW.2.2 h65 dL_law_473 ?_
                    refine lv_aload_n C.1 C.2.1 dL_law_474 rfl (lv_at hl 0 rfl) ?_
                    refine lv_iload_n C.1 C.2.1 dL_law_475 rfl (lv_at hl 3 rfl) ?_
                    refine lv_iconst (v := 3) C.1 C.2.1 dL_law_476 (by decide) ?_
                    refine lv_iadd C.1 C.2.1 dL_law_477 ?_
                    obtain ⟨h66, h⟩ := h
                    refine va_sld C.1 C.2.1 hX hbl hbA hW.2.2 h66 dL_law_478 ?_
                    refine x_Vi (rest := []) C hW (c_X4_put l g h) km_X4_put oKeys rfl qm_L_45 ⟨rfl, rfl⟩ (by decide) rfl hl.1 rfl (Nat.le_of_ble_eq_true rfl) hcs dL_law_479 (fun r67 u67 H locs h hW => ?_)
                    refine lv_aload_n C.1 C.2.1 dL_law_482 rfl (lv_at hl 2 rfl) ?_
                    refine lv_aload_n C.1 C.2.1 dL_law_483 rfl (lv_at hl 0 rfl) ?_
                    refine lv_iload_n C.1 C.2.1 dL_law_484 rfl (lv_at hl 3 rfl) ?_
                    refine lv_iconst (v := 1) C.1 C.2.1 dL_law_485 (by decide) ?_
                    refine lv_iadd C.1 C.2.1 dL_law_486 ?_
                    obtain ⟨h68, h⟩ := h
                    refine va_sld C.1 C.2.1 hX hbl hbA hW.2.2 h68 dL_law_487 ?_
                    refine lv_aload_n C.1 C.2.1 dL_law_488 rfl (lv_at hl 0 rfl) ?_
                    refine lv_iload_n C.1 C.2.1 dL_law_489 rfl (lv_at hl 3 rfl) ?_
                    refine lv_iconst (v := 2) C.1 C.2.1 dL_law_490 (by decide) ?_
                    refine lv_iadd C.1 C.2.1 dL_law_491 ?_
                    obtain ⟨h69, h⟩ := h
                    refine va_sld C.1 C.2.1 hX hbl hbA hW.2.2 h69 dL_law_492 ?_
                    refine lv_aload_n C.1 C.2.1 dL_law_493 rfl (lv_at hl 0 rfl) ?_
                    refine lv_iload_n C.1 C.2.1 dL_law_494 rfl (lv_at hl 3 rfl) ?_
                    refine lv_iconst (v := 3) C.1 C.2.1 dL_law_495 (by decide) ?_
                    refine lv_iadd C.1 C.2.1 dL_law_496 ?_
                    obtain ⟨h70, h⟩ := h
                    refine va_sld C.1 C.2.1 hX hbl hbA hW.2.2 h70 dL_law_497 ?_
                    refine x_Vi (rest := [.int r67]) C hW (c_X5_put l g h) km_X5_put oModel rfl qm_L_48 ⟨rfl, rfl⟩ (by decide) rfl hl.1 rfl (Nat.le_of_ble_eq_true rfl) hcs dL_law_498 (fun r71 u71 H locs h hW => ?_)
                    refine lv_icmp_eq (tgt := 1218) C.1 C.2.1 dL_law_501 (by decide) (fun c72 => ?_) (fun c72 => ?_)
                    · have h := h.1 c72
                      refine lv_iinc (v := (v3 + 6)) (lv' := [(3, .int (v3 + 6)), (0, .ref b), (1, .ref (gad g 0)), (2, .ref (gad g 39))]) C.1 C.2.1 dL_law_1218 hl (k := 3) rfl rfl (by decide) rfl (fun ls hl => ?_)
                      refine lv_goto (tgt := 18) C.1 C.2.1 dL_law_1221 (by decide) ?_
                      exact hK18 (v3 + 6) u71 _ _ _ h hW (lv_sub hl [1, 2, 3, 0] rfl)
                    · have h := h.2 c72
                      refine lv_iconst (v := 0) C.1 C.2.1 dL_law_504 (by decide) ?_
                      exact h.elim
                  · skip
                    by_cases c73 : ((xs (Int32.toNatClampNeg v3)) &&& 63) = 8
                    · refine lv_tableIn (off := 473) (tgt := 506) C.1 C.2.1 dL_law_33 (by rw [c73]; decide +kernel) (by rw [c73]; decide +kernel) (by rw [c73]; decide +kernel) (by decide) ?_
                      have h := h.2.2.2.2.2.2.2.2.1 c73
                      refine lv_aload_n C.1 C.2.1 dL_law_506 rfl (lv_at hl 1 rfl) ?_
                      refine lv_aload_n C.1 C.2.1 dL_law_507 rfl (lv_at hl 0 rfl) ?_
                      refine lv_iload_n C.1 C.2.1 dL_law_508 rfl (lv_at hl 3 rfl) ?_
                      refine lv_iconst (v := 1) C.1 C.2.1 dL_law_509 (by decide) ?_
                      refine lv_iadd C.1 C.2.1 dL_law_510 ?_
                      obtain ⟨h74, h⟩ := h
                      refine va_sld C.1 C.2.1 hX hbl hbA hW.2.2 h74 dL_law_511 ?_
                      refine x_Vi (rest := []) C hW (c_X4_fault l g h) km_X4_fault oKeys rfl qm_L_49 ⟨rfl, rfl⟩ (by decide) rfl hl.1 rfl (Nat.le_of_ble_eq_true rfl) hcs dL_law_512 (fun r75 u75 H locs h hW => ?_)
                      refine lv_aload_n C.1 C.2.1 dL_law_515 rfl (lv_at hl 2 rfl) ?_
                      refine lv_aload_n C.1 C.2.1 dL_law_516 rfl (lv_at hl 0 rfl) ?_
                      refine lv_iload_n C.1 C.2.1 dL_law_517 rfl (lv_at hl 3 rfl) ?_
                      refine lv_iconst (v := 1) C.1 C.2.1 dL_law_518 (by decide) ?_
                      refine lv_iadd C.1 C.2.1 dL_law_519 ?_
                      obtain ⟨h76, h⟩ := h
                      refine va_sld C.1 C.2.1 hX hbl hbA hW.2.2 h76 dL_law_520 ?_
                      refine x_Vi (rest := [.int r75]) C hW (c_X5_fault l g h) km_X5_fault oModel rfl qm_L_52 ⟨rfl, rfl⟩ (by decide) rfl hl.1 rfl (Nat.le_of_ble_eq_true rfl) hcs dL_law_521 (fun r77 u77 H locs h hW => ?_)
                      refine lv_icmp_eq (tgt := 1218) C.1 C.2.1 dL_law_524 (by decide) (fun c78 => ?_) (fun c78 => ?_)
                      · have h := h.1 c78
                        refine lv_iinc (v := (v3 + 6)) (lv' := [(3, .int (v3 + 6)), (0, .ref b), (1, .ref (gad g 0)), (2, .ref (gad g 39))]) C.1 C.2.1 dL_law_1218 hl (k := 3) rfl rfl (by decide) rfl (fun ls hl => ?_)
                        refine lv_goto (tgt := 18) C.1 C.2.1 dL_law_1221 (by decide) ?_
                        exact hK18 (v3 + 6) u77 _ _ _ h hW (lv_sub hl [1, 2, 3, 0] rfl)
                      · have h := h.2 c78
                        refine lv_iconst (v := 0) C.1 C.2.1 dL_law_527 (by decide) ?_
                        exact h.elim
                    · skip
                      by_cases c79 : ((xs (Int32.toNatClampNeg v3)) &&& 63) = 9
                      · refine lv_tableIn (off := 496) (tgt := 529) C.1 C.2.1 dL_law_33 (by rw [c79]; decide +kernel) (by rw [c79]; decide +kernel) (by rw [c79]; decide +kernel) (by decide) ?_
                        have h := h.2.2.2.2.2.2.2.2.2.1 c79
                        refine lv_aload_n C.1 C.2.1 dL_law_529 rfl (lv_at hl 1 rfl) ?_
                        refine lv_aload_n C.1 C.2.1 dL_law_530 rfl (lv_at hl 0 rfl) ?_
                        refine lv_iload_n C.1 C.2.1 dL_law_531 rfl (lv_at hl 3 rfl) ?_
                        refine lv_iconst (v := 1) C.1 C.2.1 dL_law_532 (by decide) ?_
                        refine lv_iadd C.1 C.2.1 dL_law_533 ?_
                        obtain ⟨h80, h⟩ := h
                        refine va_sld C.1 C.2.1 hX hbl hbA hW.2.2 h80 dL_law_534 ?_
                        refine x_Vi (rest := []) C hW (c_X4_board l g h) km_X4_board oKeys rfl qm_L_53 ⟨rfl, rfl⟩ (by decide) rfl hl.1 rfl (Nat.le_of_ble_eq_true rfl) hcs dL_law_535 (fun r81 u81 H locs h hW => ?_)
                        refine lv_aload_n C.1 C.2.1 dL_law_538 rfl (lv_at hl 2 rfl) ?_
                        refine lv_aload_n C.1 C.2.1 dL_law_539 rfl (lv_at hl 0 rfl) ?_
                        refine lv_iload_n C.1 C.2.1 dL_law_540 rfl (lv_at hl 3 rfl) ?_
                        refine lv_iconst (v := 1) C.1 C.2.1 dL_law_541 (by decide) ?_
                        refine lv_iadd C.1 C.2.1 dL_law_542 ?_
                        obtain ⟨h82, h⟩ := h
                        refine va_sld C.1 C.2.1 hX hbl hbA hW.2.2 h82 dL_law_543 ?_
                        refine x_Vi (rest := [.int r81]) C hW (c_X5_board l g h) km_X5_board oModel rfl qm_L_56 ⟨rfl, rfl⟩ (by decide) rfl hl.1 rfl (Nat.le_of_ble_eq_true rfl) hcs dL_law_544 (fun r83 u83 H locs h hW => ?_)
                        refine lv_icmp_eq (tgt := 1218) C.1 C.2.1 dL_law_547 (by decide) (fun c84 => ?_) (fun c84 => ?_)
                        · have h := h.1 c84
                          refine lv_iinc (v := (v3 + 6)) (lv' := [(3, .int (v3 + 6)), (0, .ref b), (1, .ref (gad g 0)), (2, .ref (gad g 39))]) C.1 C.2.1 dL_law_1218 hl (k := 3) rfl rfl (by decide) rfl (fun ls hl => ?_)
                          refine lv_goto (tgt := 18) C.1 C.2.1 dL_law_1221 (by decide) ?_
                          exact hK18 (v3 + 6) u83 _ _ _ h hW (lv_sub hl [1, 2, 3, 0] rfl)
                        · have h := h.2 c84
                          refine lv_iconst (v := 0) C.1 C.2.1 dL_law_550 (by decide) ?_
                          exact h.elim
                      · skip
                        by_cases c85 : ((xs (Int32.toNatClampNeg v3)) &&& 63) = 10
                        · refine lv_tableIn (off := 519) (tgt := 552) C.1 C.2.1 dL_law_33 (by rw [c85]; decide +kernel) (by rw [c85]; decide +kernel) (by rw [c85]; decide +kernel) (by decide) ?_
                          have h := h.2.2.2.2.2.2.2.2.2.2.1 c85
                          refine lv_aload_n C.1 C.2.1 dL_law_552 rfl (lv_at hl 1 rfl) ?_
                          refine lv_aload_n C.1 C.2.1 dL_law_553 rfl (lv_at hl 0 rfl) ?_
                          refine lv_iload_n C.1 C.2.1 dL_law_554 rfl (lv_at hl 3 rfl) ?_
                          refine lv_iconst (v := 1) C.1 C.2.1 dL_law_555 (by decide) ?_
                          refine lv_iadd C.1 C.2.1 dL_law_556 ?_
                          obtain ⟨h86, h⟩ := h
                          refine va_sld C.1 C.2.1 hX hbl hbA hW.2.2 h86 dL_law_557 ?_
                          refine lv_aload_n C.1 C.2.1 dL_law_558 rfl (lv_at hl 0 rfl) ?_
                          refine lv_iload_n C.1 C.2.1 dL_law_559 rfl (lv_at hl 3 rfl) ?_
                          refine lv_iconst (v := 2) C.1 C.2.1 dL_law_560 (by decide) ?_
                          refine lv_iadd C.1 C.2.1 dL_law_561 ?_
                          obtain ⟨h87, h⟩ := h
                          refine va_sld C.1 C.2.1 hX hbl hbA hW.2.2 h87 dL_law_562 ?_
                          refine x_Vi (rest := []) C hW (c_X4_key l g h) km_X4_key oKeys rfl qm_L_57 ⟨rfl, rfl⟩ (by decide) rfl hl.1 rfl (Nat.le_of_ble_eq_true rfl) hcs dL_law_563 (fun r88 u88 H locs h hW => ?_)
                          refine lv_aload_n C.1 C.2.1 dL_law_566 rfl (lv_at hl 2 rfl) ?_
                          refine lv_aload_n C.1 C.2.1 dL_law_567 rfl (lv_at hl 0 rfl) ?_
                          refine lv_iload_n C.1 C.2.1 dL_law_568 rfl (lv_at hl 3 rfl) ?_
                          refine lv_iconst (v := 1) C.1 C.2.1 dL_law_569 (by decide) ?_
                          refine lv_iadd C.1 C.2.1 dL_law_570 ?_
                          obtain ⟨h89, h⟩ := h
                          refine va_sld C.1 C.2.1 hX hbl hbA hW.2.2 h89 dL_law_571 ?_
                          refine lv_aload_n C.1 C.2.1 dL_law_572 rfl (lv_at hl 0 rfl) ?_
                          refine lv_iload_n C.1 C.2.1 dL_law_573 rfl (lv_at hl 3 rfl) ?_
                          refine lv_iconst (v := 2) C.1 C.2.1 dL_law_574 (by decide) ?_
                          refine lv_iadd C.1 C.2.1 dL_law_575 ?_
                          obtain ⟨h90, h⟩ := h
                          refine va_sld C.1 C.2.1 hX hbl hbA hW.2.2 h90 dL_law_576 ?_
                          refine x_Vi (rest := [.int r88]) C hW (c_X5_key l g h) km_X5_key oModel rfl qm_L_60 ⟨rfl, rfl⟩ (by decide) rfl hl.1 rfl (Nat.le_of_ble_eq_true rfl) hcs dL_law_577 (fun r91 u91 H locs h hW => ?_)
                          refine lv_icmp_eq (tgt := 1218) C.1 C.2.1 dL_law_580 (by decide) (fun c92 => ?_) (fun c92 => ?_)
                          · have h := h.1 c92
                            refine lv_iinc (v := (v3 + 6)) (lv' := [(3, .int (v3 + 6)), (0, .ref b), (1, .ref (gad g 0)), (2, .ref (gad g 39))]) C.1 C.2.1 dL_law_1218 hl (k := 3) rfl rfl (by decide) rfl (fun ls hl => ?_)
                            refine lv_goto (tgt := 18) C.1 C.2.1 dL_law_1221 (by decide) ?_
                            exact hK18 (v3 + 6) u91 _ _ _ h hW (lv_sub hl [1, 2, 3, 0] rfl)
                          · have h := h.2 c92
                            refine lv_iconst (v := 0) C.1 C.2.1 dL_law_583 (by decide) ?_
                            exact h.elim
                        · skip
                          by_cases c93 : ((xs (Int32.toNatClampNeg v3)) &&& 63) = 11
                          · refine lv_tableIn (off := 552) (tgt := 585) C.1 C.2.1 dL_law_33 (by rw [c93]; decide +kernel) (by rw [c93]; decide +kernel) (by rw [c93]; decide +kernel) (by decide) ?_
                            have h := h.2.2.2.2.2.2.2.2.2.2.2.1 c93
                            refine lv_aload_n C.1 C.2.1 dL_law_585 rfl (lv_at hl 1 rfl) ?_
                            refine lv_aload_n C.1 C.2.1 dL_law_586 rfl (lv_at hl 0 rfl) ?_
                            refine lv_iload_n C.1 C.2.1 dL_law_587 rfl (lv_at hl 3 rfl) ?_
                            refine lv_iconst (v := 1) C.1 C.2.1 dL_law_588 (by decide) ?_
                            refine lv_iadd C.1 C.2.1 dL_law_589 ?_
                            obtain ⟨h94, h⟩ := h
                            refine va_sld C.1 C.2.1 hX hbl hbA hW.2.2 h94 dL_law_590 ?_
                            refine lv_aload_n C.1 C.2.1 dL_law_591 rfl (lv_at hl 0 rfl) ?_
                            refine lv_iload_n C.1 C.2.1 dL_law_592 rfl (lv_at hl 3 rfl) ?_
                            refine lv_iconst (v := 2) C.1 C.2.1 dL_law_593 (by decide) ?_
                            refine lv_iadd C.1 C.2.1 dL_law_594 ?_
                            obtain ⟨h95, h⟩ := h
                            refine va_sld C.1 C.2.1 hX hbl hbA hW.2.2 h95 dL_law_595 ?_
                            refine x_Vi (rest := []) C hW (c_X4_mark l g h) km_X4_mark oKeys rfl qm_L_61 ⟨rfl, rfl⟩ (by decide) rfl hl.1 rfl (Nat.le_of_ble_eq_true rfl) hcs dL_law_596 (fun r96 u96 H locs h hW => ?_)
                            refine lv_aload_n C.1 C.2.1 dL_law_599 rfl (lv_at hl 2 rfl) ?_
                            refine lv_aload_n C.1 C.2.1 dL_law_600 rfl (lv_at hl 0 rfl) ?_
                            refine lv_iload_n C.1 C.2.1 dL_law_601 rfl (lv_at hl 3 rfl) ?_
                            refine lv_iconst (v := 1) C.1 C.2.1 dL_law_602 (by decide) ?_
                            refine lv_iadd C.1 C.2.1 dL_law_603 ?_
                            obtain ⟨h97, h⟩ := h
                            refine va_sld C.1 C.2.1 hX hbl hbA hW.2.2 h97 dL_law_604 ?_
                            refine lv_aload_n C.1 C.2.1 dL_law_605 rfl (lv_at hl 0 rfl) ?_
                            refine lv_iload_n C.1 C.2.1 dL_law_606 rfl (lv_at hl 3 rfl) ?_
                            refine lv_iconst (v := 2) C.1 C.2.1 dL_law_607 (by decide) ?_
                            refine lv_iadd C.1 C.2.1 dL_law_608 ?_
                            obtain ⟨h98, h⟩ := h
                            refine va_sld C.1 C.2.1 hX hbl hbA hW.2.2 h98 dL_law_609 ?_
                            refine x_Vi (rest := [.int r96]) C hW (c_X5_mark l g h) km_X5_mark oModel rfl qm_L_64 ⟨rfl, rfl⟩ (by decide) rfl hl.1 rfl (Nat.le_of_ble_eq_true rfl) hcs dL_law_610 (fun r99 u99 H locs h hW => ?_)
                            refine lv_icmp_eq (tgt := 1218) C.1 C.2.1 dL_law_613 (by decide) (fun c100 => ?_) (fun c100 => ?_)
                            · have h := h.1 c100
                              refine lv_iinc (v := (v3 + 6)) (lv' := [(3, .int (v3 + 6)), (0, .ref b), (1, .ref (gad g 0)), (2, .ref (gad g 39))]) C.1 C.2.1 dL_law_1218 hl (k := 3) rfl rfl (by decide) rfl (fun ls hl => ?_)
                              refine lv_goto (tgt := 18) C.1 C.2.1 dL_law_1221 (by decide) ?_
                              exact hK18 (v3 + 6) u99 _ _ _ h hW (lv_sub hl [1, 2, 3, 0] rfl)
                            · have h := h.2 c100
                              refine lv_iconst (v := 0) C.1 C.2.1 dL_law_616 (by decide) ?_
                              exact h.elim
                          · skip
                            by_cases c101 : ((xs (Int32.toNatClampNeg v3)) &&& 63) = 12
                            · refine lv_tableIn (off := 585) (tgt := 618) C.1 C.2.1 dL_law_33 (by rw [c101]; decide +kernel) (by rw [c101]; decide +kernel) (by rw [c101]; decide +kernel) (by decide) ?_
                              have h := h.2.2.2.2.2.2.2.2.2.2.2.2.1 c101
                              refine lv_aload_n C.1 C.2.1 dL_law_618 rfl (lv_at hl 1 rfl) ?_
                              refine lv_aload_n C.1 C.2.1 dL_law_619 rfl (lv_at hl 0 rfl) ?_
                              refine lv_iload_n C.1 C.2.1 dL_law_620 rfl (lv_at hl 3 rfl) ?_
                              refine lv_iconst (v := 1) C.1 C.2.1 dL_law_621 (by decide) ?_
                              refine lv_iadd C.1 C.2.1 dL_law_622 ?_
                              obtain ⟨h102, h⟩ := h
                              refine va_sld C.1 C.2.1 hX hbl hbA hW.2.2 h102 dL_law_623 ?_
                              refine x_Vi (rest := []) C hW (c_X4_reads l g h) km_X4_reads oKeys rfl qm_L_65 ⟨rfl, rfl⟩ (by decide) rfl hl.1 rfl (Nat.le_of_ble_eq_true rfl) hcs dL_law_624 (fun r103 u103 H locs h hW => ?_)
                              refine lv_aload_n C.1 C.2.1 dL_law_627 rfl (lv_at hl 2 rfl) ?_
                              refine lv_aload_n C.1 C.2.1 dL_law_628 rfl (lv_at hl 0 rfl) ?_
                              refine lv_iload_n C.1 C.2.1 dL_law_629 rfl (lv_at hl 3 rfl) ?_
                              refine lv_iconst (v := 1) C.1 C.2.1 dL_law_630 (by decide) ?_
                              refine lv_iadd C.1 C.2.1 dL_law_631 ?_
                              obtain ⟨h104, h⟩ := h
                              refine va_sld C.1 C.2.1 hX hbl hbA hW.2.2 h104 dL_law_632 ?_
                              refine x_Vi (rest := [.int r103]) C hW (c_X5_reads l g h) km_X5_reads oModel rfl qm_L_68 ⟨rfl, rfl⟩ (by decide) rfl hl.1 rfl (Nat.le_of_ble_eq_true rfl) hcs dL_law_633 (fun r105 u105 H locs h hW => ?_)
                              refine lv_icmp_eq (tgt := 1218) C.1 C.2.1 dL_law_636 (by decide) (fun c106 => ?_) (fun c106 => ?_)
                              · have h := h.1 c106
                                refine lv_iinc (v := (v3 + 6)) (lv' := [(3, .int (v3 + 6)), (0, .ref b), (1, .ref (gad g 0)), (2, .ref (gad g 39))]) C.1 C.2.1 dL_law_1218 hl (k := 3) rfl rfl (by decide) rfl (fun ls hl => ?_)
                                refine lv_goto (tgt := 18) C.1 C.2.1 dL_law_1221 (by decide) ?_
                                exact hK18 (v3 + 6) u105 _ _ _ h hW (lv_sub hl [1, 2, 3, 0] rfl)
                              · have h := h.2 c106
                                refine lv_iconst (v := 0) C.1 C.2.1 dL_law_639 (by decide) ?_
                                exact h.elim
                            · skip
                              by_cases c107 : ((xs (Int32.toNatClampNeg v3)) &&& 63) = 13
                              · refine lv_tableIn (off := 608) (tgt := 641) C.1 C.2.1 dL_law_33 (by rw [c107]; decide +kernel) (by rw [c107]; decide +kernel) (by rw [c107]; decide +kernel) (by decide) ?_
                                have h := h.2.2.2.2.2.2.2.2.2.2.2.2.2.1 c107
                                refine lv_aload_n C.1 C.2.1 dL_law_641 rfl (lv_at hl 1 rfl) ?_
                                refine lv_aload_n C.1 C.2.1 dL_law_642 rfl (lv_at hl 0 rfl) ?_
                                refine lv_iload_n C.1 C.2.1 dL_law_643 rfl (lv_at hl 3 rfl) ?_
                                refine lv_iconst (v := 1) C.1 C.2.1 dL_law_644 (by decide) ?_
                                refine lv_iadd C.1 C.2.1 dL_law_645 ?_
                                obtain ⟨h108, h⟩ := h
                                refine va_sld C.1 C.2.1 hX hbl hbA hW.2.2 h108 dL_law_646 ?_
                                refine x_Vi (rest := []) C hW (c_X4_press l g h) km_X4_press oKeys rfl qm_L_69 ⟨rfl, rfl⟩ (by decide) rfl hl.1 rfl (Nat.le_of_ble_eq_true rfl) hcs dL_law_647 (fun r109 u109 H locs h hW => ?_)
                                refine lv_aload_n C.1 C.2.1 dL_law_650 rfl (lv_at hl 2 rfl) ?_
                                refine lv_aload_n C.1 C.2.1 dL_law_651 rfl (lv_at hl 0 rfl) ?_
                                refine lv_iload_n C.1 C.2.1 dL_law_652 rfl (lv_at hl 3 rfl) ?_
                                refine lv_iconst (v := 1) C.1 C.2.1 dL_law_653 (by decide) ?_
                                refine lv_iadd C.1 C.2.1 dL_law_654 ?_
                                obtain ⟨h110, h⟩ := h
                                refine va_sld C.1 C.2.1 hX hbl hbA hW.2.2 h110 dL_law_655 ?_
                                refine x_Vi (rest := [.int r109]) C hW (c_X5_press l g h) km_X5_press oModel rfl qm_L_72 ⟨rfl, rfl⟩ (by decide) rfl hl.1 rfl (Nat.le_of_ble_eq_true rfl) hcs dL_law_656 (fun r111 u111 H locs h hW => ?_)
                                refine lv_icmp_eq (tgt := 1218) C.1 C.2.1 dL_law_659 (by decide) (fun c112 => ?_) (fun c112 => ?_)
                                · have h := h.1 c112
                                  refine lv_iinc (v := (v3 + 6)) (lv' := [(3, .int (v3 + 6)), (0, .ref b), (1, .ref (gad g 0)), (2, .ref (gad g 39))]) C.1 C.2.1 dL_law_1218 hl (k := 3) rfl rfl (by decide) rfl (fun ls hl => ?_)
                                  refine lv_goto (tgt := 18) C.1 C.2.1 dL_law_1221 (by decide) ?_
                                  exact hK18 (v3 + 6) u111 _ _ _ h hW (lv_sub hl [1, 2, 3, 0] rfl)
                                · have h := h.2 c112
                                  refine lv_iconst (v := 0) C.1 C.2.1 dL_law_662 (by decide) ?_
                                  exact h.elim
                              · skip
                                by_cases c113 : ((xs (Int32.toNatClampNeg v3)) &&& 63) = 14
                                · refine lv_tableIn (off := 631) (tgt := 664) C.1 C.2.1 dL_law_33 (by rw [c113]; decide +kernel) (by rw [c113]; decide +kernel) (by rw [c113]; decide +kernel) (by decide) ?_
                                  have h := h.2.2.2.2.2.2.2.2.2.2.2.2.2.2.1 c113
                                  refine lv_aload_n C.1 C.2.1 dL_law_664 rfl (lv_at hl 1 rfl) ?_
                                  refine x_Vi (rest := []) C hW (c_X4_scan l g h) km_X4_scan oKeys rfl qm_L_73 ⟨rfl, rfl⟩ (by decide) rfl hl.1 rfl (Nat.le_of_ble_eq_true rfl) hcs dL_law_665 (fun r114 u114 H locs h hW => ?_)
                                  refine lv_aload_n C.1 C.2.1 dL_law_668 rfl (lv_at hl 2 rfl) ?_
                                  refine x_Vi (rest := [.int r114]) C hW (c_X5_scan l g h) km_X5_scan oModel rfl qm_L_77 ⟨rfl, rfl⟩ (by decide) rfl hl.1 rfl (Nat.le_of_ble_eq_true rfl) hcs dL_law_669 (fun r115 u115 H locs h hW => ?_)
                                  refine lv_icmp_eq (tgt := 1218) C.1 C.2.1 dL_law_672 (by decide) (fun c116 => ?_) (fun c116 => ?_)
                                  · have h := h.1 c116
                                    refine lv_iinc (v := (v3 + 6)) (lv' := [(3, .int (v3 + 6)), (0, .ref b), (1, .ref (gad g 0)), (2, .ref (gad g 39))]) C.1 C.2.1 dL_law_1218 hl (k := 3) rfl rfl (by decide) rfl (fun ls hl => ?_)
                                    refine lv_goto (tgt := 18) C.1 C.2.1 dL_law_1221 (by decide) ?_
                                    exact hK18 (v3 + 6) u115 _ _ _ h hW (lv_sub hl [1, 2, 3, 0] rfl)
                                  · have h := h.2 c116
                                    refine lv_iconst (v := 0) C.1 C.2.1 dL_law_675 (by decide) ?_
                                    exact h.elim
                                · skip
                                  by_cases c117 : ((xs (Int32.toNatClampNeg v3)) &&& 63) = 15
                                  · refine lv_tableIn (off := 644) (tgt := 677) C.1 C.2.1 dL_law_33 (by rw [c117]; decide +kernel) (by rw [c117]; decide +kernel) (by rw [c117]; decide +kernel) (by decide) ?_
                                    have h := h.2.2.2.2.2.2.2.2.2.2.2.2.2.2.2.1 c117
                                    refine lv_aload_n C.1 C.2.1 dL_law_677 rfl (lv_at hl 1 rfl) ?_
                                    refine lv_aload_n C.1 C.2.1 dL_law_678 rfl (lv_at hl 0 rfl) ?_
                                    refine lv_iload_n C.1 C.2.1 dL_law_679 rfl (lv_at hl 3 rfl) ?_
                                    refine lv_iconst (v := 1) C.1 C.2.1 dL_law_680 (by decide) ?_
                                    refine lv_iadd C.1 C.2.1 dL_law_681 ?_
                                    obtain ⟨h118, h⟩ := h
                                    refine va_sld C.1 C.2.1 hX hbl hbA hW.2.2 h118 dL_law_682 ?_
                                    refine x_Vi (rest := []) C hW (c_X4_cut l g h) km_X4_cut oKeys rfl qm_L_78 ⟨rfl, rfl⟩ (by decide) rfl hl.1 rfl (Nat.le_of_ble_eq_true rfl) hcs dL_law_683 (fun r119 u119 H locs h hW => ?_)
                                    refine lv_aload_n C.1 C.2.1 dL_law_686 rfl (lv_at hl 2 rfl) ?_
                                    refine lv_aload_n C.1 C.2.1 dL_law_687 rfl (lv_at hl 0 rfl) ?_
                                    refine lv_iload_n C.1 C.2.1 dL_law_688 rfl (lv_at hl 3 rfl) ?_
                                    refine lv_iconst (v := 1) C.1 C.2.1 dL_law_689 (by decide) ?_
                                    refine lv_iadd C.1 C.2.1 dL_law_690 ?_
                                    obtain ⟨h120, h⟩ := h
                                    refine va_sld C.1 C.2.1 hX hbl hbA hW.2.2 h120 dL_law_691 ?_
                                    refine x_Vi (rest := [.int r119]) C hW (c_X5_cut l g h) km_X5_cut oModel rfl qm_L_81 ⟨rfl, rfl⟩ (by decide) rfl hl.1 rfl (Nat.le_of_ble_eq_true rfl) hcs dL_law_692 (fun r121 u121 H locs h hW => ?_)
                                    refine lv_icmp_eq (tgt := 1218) C.1 C.2.1 dL_law_695 (by decide) (fun c122 => ?_) (fun c122 => ?_)
                                    · have h := h.1 c122
                                      refine lv_iinc (v := (v3 + 6)) (lv' := [(3, .int (v3 + 6)), (0, .ref b), (1, .ref (gad g 0)), (2, .ref (gad g 39))]) C.1 C.2.1 dL_law_1218 hl (k := 3) rfl rfl (by decide) rfl (fun ls hl => ?_)
                                      refine lv_goto (tgt := 18) C.1 C.2.1 dL_law_1221 (by decide) ?_
                                      exact hK18 (v3 + 6) u121 _ _ _ h hW (lv_sub hl [1, 2, 3, 0] rfl)
                                    · have h := h.2 c122
                                      refine lv_iconst (v := 0) C.1 C.2.1 dL_law_698 (by decide) ?_
                                      exact h.elim
                                  · skip
                                    by_cases c123 : ((xs (Int32.toNatClampNeg v3)) &&& 63) = 16
                                    · refine lv_tableIn (off := 667) (tgt := 700) C.1 C.2.1 dL_law_33 (by rw [c123]; decide +kernel) (by rw [c123]; decide +kernel) (by rw [c123]; decide +kernel) (by decide) ?_
                                      have h := h.2.2.2.2.2.2.2.2.2.2.2.2.2.2.2.2.1 c123
                                      refine lv_aload_n C.1 C.2.1 dL_law_700 rfl (lv_at hl 1 rfl) ?_
                                      refine lv_aload_n C.1 C.2.1 dL_law_701 rfl (lv_at hl 0 rfl) ?_
                                      refine lv_iload_n C.1 C.2.1 dL_law_702 rfl (lv_at hl 3 rfl) ?_
                                      refine lv_iconst (v := 1) C.1 C.2.1 dL_law_703 (by decide) ?_
                                      refine lv_iadd C.1 C.2.1 dL_law_704 ?_
                                      obtain ⟨h124, h⟩ := h
                                      refine va_sld C.1 C.2.1 hX hbl hbA hW.2.2 h124 dL_law_705 ?_
                                      refine x_Vi (rest := []) C hW (c_X4_undo l g h) km_X4_undo oKeys rfl qm_L_82 ⟨rfl, rfl⟩ (by decide) rfl hl.1 rfl (Nat.le_of_ble_eq_true rfl) hcs dL_law_706 (fun r125 u125 H locs h hW => ?_)
                                      refine lv_aload_n C.1 C.2.1 dL_law_709 rfl (lv_at hl 2 rfl) ?_
                                      refine lv_aload_n C.1 C.2.1 dL_law_710 rfl (lv_at hl 0 rfl) ?_
                                      refine lv_iload_n C.1 C.2.1 dL_law_711 rfl (lv_at hl 3 rfl) ?_
                                      refine lv_iconst (v := 1) C.1 C.2.1 dL_law_712 (by decide) ?_
                                      refine lv_iadd C.1 C.2.1 dL_law_713 ?_
                                      obtain ⟨h126, h⟩ := h
                                      refine va_sld C.1 C.2.1 hX hbl hbA hW.2.2 h126 dL_law_714 ?_
                                      refine x_Vi (rest := [.int r125]) C hW (c_X5_undo l g h) km_X5_undo oModel rfl qm_L_85 ⟨rfl, rfl⟩ (by decide) rfl hl.1 rfl (Nat.le_of_ble_eq_true rfl) hcs dL_law_715 (fun r127 u127 H locs h hW => ?_)
                                      refine lv_icmp_eq (tgt := 1218) C.1 C.2.1 dL_law_718 (by decide) (fun c128 => ?_) (fun c128 => ?_)
                                      · have h := h.1 c128
                                        refine lv_iinc (v := (v3 + 6)) (lv' := [(3, .int (v3 + 6)), (0, .ref b), (1, .ref (gad g 0)), (2, .ref (gad g 39))]) C.1 C.2.1 dL_law_1218 hl (k := 3) rfl rfl (by decide) rfl (fun ls hl => ?_)
                                        refine lv_goto (tgt := 18) C.1 C.2.1 dL_law_1221 (by decide) ?_
                                        exact hK18 (v3 + 6) u127 _ _ _ h hW (lv_sub hl [1, 2, 3, 0] rfl)
                                      · have h := h.2 c128
                                        refine lv_iconst (v := 0) C.1 C.2.1 dL_law_721 (by decide) ?_
                                        exact h.elim
                                    · skip
                                      by_cases c129 : ((xs (Int32.toNatClampNeg v3)) &&& 63) = 17
                                      · refine lv_tableIn (off := 690) (tgt := 723) C.1 C.2.1 dL_law_33 (by rw [c129]; decide +kernel) (by rw [c129]; decide +kernel) (by rw [c129]; decide +kernel) (by decide) ?_
                                        have h := h.2.2.2.2.2.2.2.2.2.2.2.2.2.2.2.2.2.1 c129
                                        refine lv_aload_n C.1 C.2.1 dL_law_723 rfl (lv_at hl 1 rfl) ?_
                                        refine lv_aload_n C.1 C.2.1 dL_law_724 rfl (lv_at hl 0 rfl) ?_
                                        refine lv_iload_n C.1 C.2.1 dL_law_725 rfl (lv_at hl 3 rfl) ?_
                                        refine lv_iconst (v := 1) C.1 C.2.1 dL_law_726 (by decide) ?_
                                        refine lv_iadd C.1 C.2.1 dL_law_727 ?_
                                        obtain ⟨h130, h⟩ := h
                                        refine va_sld C.1 C.2.1 hX hbl hbA hW.2.2 h130 dL_law_728 ?_
                                        refine x_Vi (rest := []) C hW (c_X4_keep l g h) km_X4_keep oKeys rfl qm_L_86 ⟨rfl, rfl⟩ (by decide) rfl hl.1 rfl (Nat.le_of_ble_eq_true rfl) hcs dL_law_729 (fun r131 u131 H locs h hW => ?_)
                                        refine lv_aload_n C.1 C.2.1 dL_law_732 rfl (lv_at hl 2 rfl) ?_
                                        refine lv_aload_n C.1 C.2.1 dL_law_733 rfl (lv_at hl 0 rfl) ?_
                                        refine lv_iload_n C.1 C.2.1 dL_law_734 rfl (lv_at hl 3 rfl) ?_
                                        refine lv_iconst (v := 1) C.1 C.2.1 dL_law_735 (by decide) ?_
                                        refine lv_iadd C.1 C.2.1 dL_law_736 ?_
                                        obtain ⟨h132, h⟩ := h
                                        refine va_sld C.1 C.2.1 hX hbl hbA hW.2.2 h132 dL_law_737 ?_
                                        refine x_Vi (rest := [.int r131]) C hW (c_X5_keep l g h) km_X5_keep oModel rfl qm_L_89 ⟨rfl, rfl⟩ (by decide) rfl hl.1 rfl (Nat.le_of_ble_eq_true rfl) hcs dL_law_738 (fun r133 u133 H locs h hW => ?_)
                                        refine lv_icmp_eq (tgt := 1218) C.1 C.2.1 dL_law_741 (by decide) (fun c134 => ?_) (fun c134 => ?_)
                                        · have h := h.1 c134
                                          refine lv_iinc (v := (v3 + 6)) (lv' := [(3, .int (v3 + 6)), (0, .ref b), (1, .ref (gad g 0)), (2, .ref (gad g 39))]) C.1 C.2.1 dL_law_1218 hl (k := 3) rfl rfl (by decide) rfl (fun ls hl => ?_)
                                          refine lv_goto (tgt := 18) C.1 C.2.1 dL_law_1221 (by decide) ?_
                                          exact hK18 (v3 + 6) u133 _ _ _ h hW (lv_sub hl [1, 2, 3, 0] rfl)
                                        · have h := h.2 c134
                                          refine lv_iconst (v := 0) C.1 C.2.1 dL_law_744 (by decide) ?_
                                          exact h.elim
                                      · skip
                                        by_cases c135 : ((xs (Int32.toNatClampNeg v3)) &&& 63) = 18
                                        · refine lv_tableIn (off := 713) (tgt := 746) C.1 C.2.1 dL_law_33 (by rw [c135]; decide +kernel) (by rw [c135]; decide +kernel) (by rw [c135]; decide +kernel) (by decide) ?_
                                          have h := h.2.2.2.2.2.2.2.2.2.2.2.2.2.2.2.2.2.2.1 c135
                                          refine lv_aload_n C.1 C.2.1 dL_law_746 rfl (lv_at hl 1 rfl) ?_
                                          refine lv_aload_n C.1 C.2.1 dL_law_747 rfl (lv_at hl 0 rfl) ?_
                                          refine lv_iload_n C.1 C.2.1 dL_law_748 rfl (lv_at hl 3 rfl) ?_
                                          refine lv_iconst (v := 1) C.1 C.2.1 dL_law_749 (by decide) ?_
                                          refine lv_iadd C.1 C.2.1 dL_law_750 ?_
                                          obtain ⟨h136, h⟩ := h
                                          refine va_sld C.1 C.2.1 hX hbl hbA hW.2.2 h136 dL_law_751 ?_
                                          refine x_Vi (rest := []) C hW (c_X4_on l g h) km_X4_on oKeys rfl qm_L_90 ⟨rfl, rfl⟩ (by decide) rfl hl.1 rfl (Nat.le_of_ble_eq_true rfl) hcs dL_law_752 (fun r137 u137 H locs h hW => ?_)
                                          refine lv_aload_n C.1 C.2.1 dL_law_755 rfl (lv_at hl 2 rfl) ?_
                                          refine lv_aload_n C.1 C.2.1 dL_law_756 rfl (lv_at hl 0 rfl) ?_
                                          refine lv_iload_n C.1 C.2.1 dL_law_757 rfl (lv_at hl 3 rfl) ?_
                                          refine lv_iconst (v := 1) C.1 C.2.1 dL_law_758 (by decide) ?_
                                          refine lv_iadd C.1 C.2.1 dL_law_759 ?_
                                          obtain ⟨h138, h⟩ := h
                                          refine va_sld C.1 C.2.1 hX hbl hbA hW.2.2 h138 dL_law_760 ?_
                                          refine x_Vi (rest := [.int r137]) C hW (c_X5_on l g h) km_X5_on oModel rfl qm_L_93 ⟨rfl, rfl⟩ (by decide) rfl hl.1 rfl (Nat.le_of_ble_eq_true rfl) hcs dL_law_761 (fun r139 u139 H locs h hW => ?_)
                                          refine lv_icmp_eq (tgt := 1218) C.1 C.2.1 dL_law_764 (by decide) (fun c140 => ?_) (fun c140 => ?_)
                                          · have h := h.1 c140
                                            refine lv_iinc (v := (v3 + 6)) (lv' := [(3, .int (v3 + 6)), (0, .ref b), (1, .ref (gad g 0)), (2, .ref (gad g 39))]) C.1 C.2.1 dL_law_1218 hl (k := 3) rfl rfl (by decide) rfl (fun ls hl => ?_)
                                            refine lv_goto (tgt := 18) C.1 C.2.1 dL_law_1221 (by decide) ?_
                                            exact hK18 (v3 + 6) u139 _ _ _ h hW (lv_sub hl [1, 2, 3, 0] rfl)
                                          · have h := h.2 c140
                                            refine lv_iconst (v := 0) C.1 C.2.1 dL_law_767 (by decide) ?_
                                            exact h.elim
                                        · skip
                                          by_cases c141 : ((xs (Int32.toNatClampNeg v3)) &&& 63) = 19
                                          · refine lv_tableIn (off := 736) (tgt := 769) C.1 C.2.1 dL_law_33 (by rw [c141]; decide +kernel) (by rw [c141]; decide +kernel) (by rw [c141]; decide +kernel) (by decide) ?_
                                            have h := h.2.2.2.2.2.2.2.2.2.2.2.2.2.2.2.2.2.2.2.1 c141
                                            refine lv_aload_n C.1 C.2.1 dL_law_769 rfl (lv_at hl 1 rfl) ?_
                                            refine x_Vi (rest := []) C hW (c_X4_told l g h) km_X4_told oKeys rfl qm_L_94 ⟨rfl, rfl⟩ (by decide) rfl hl.1 rfl (Nat.le_of_ble_eq_true rfl) hcs dL_law_770 (fun r142 u142 H locs h hW => ?_)
                                            refine lv_aload_n C.1 C.2.1 dL_law_773 rfl (lv_at hl 2 rfl) ?_
                                            refine x_Vi (rest := [.int r142]) C hW (c_X5_told l g h) km_X5_told oModel rfl qm_L_97 ⟨rfl, rfl⟩ (by decide) rfl hl.1 rfl (Nat.le_of_ble_eq_true rfl) hcs dL_law_774 (fun r143 u143 H locs h hW => ?_)
                                            refine lv_icmp_eq (tgt := 1218) C.1 C.2.1 dL_law_777 (by decide) (fun c144 => ?_) (fun c144 => ?_)
                                            · have h := h.1 c144
                                              refine lv_iinc (v := (v3 + 6)) (lv' := [(3, .int (v3 + 6)), (0, .ref b), (1, .ref (gad g 0)), (2, .ref (gad g 39))]) C.1 C.2.1 dL_law_1218 hl (k := 3) rfl rfl (by decide) rfl (fun ls hl => ?_)
                                              refine lv_goto (tgt := 18) C.1 C.2.1 dL_law_1221 (by decide) ?_
                                              exact hK18 (v3 + 6) u143 _ _ _ h hW (lv_sub hl [1, 2, 3, 0] rfl)
                                            · have h := h.2 c144
                                              refine lv_iconst (v := 0) C.1 C.2.1 dL_law_780 (by decide) ?_
                                              exact h.elim
                                          · skip
                                            by_cases c145 : ((xs (Int32.toNatClampNeg v3)) &&& 63) = 20
                                            · refine lv_tableIn (off := 749) (tgt := 782) C.1 C.2.1 dL_law_33 (by rw [c145]; decide +kernel) (by rw [c145]; decide +kernel) (by rw [c145]; decide +kernel) (by decide) ?_
                                              have h := h.2.2.2.2.2.2.2.2.2.2.2.2.2.2.2.2.2.2.2.2.1 c145
                                              refine lv_aload_n C.1 C.2.1 dL_law_782 rfl (lv_at hl 1 rfl) ?_
                                              refine x_Vi (rest := []) C hW (c_X4_ghosts l g h) km_X4_ghosts oKeys rfl qm_L_98 ⟨rfl, rfl⟩ (by decide) rfl hl.1 rfl (Nat.le_of_ble_eq_true rfl) hcs dL_law_783 (fun r146 u146 H locs h hW => ?_)
                                              refine lv_aload_n C.1 C.2.1 dL_law_786 rfl (lv_at hl 2 rfl) ?_
                                              refine x_Vi (rest := [.int r146]) C hW (c_X5_ghosts l g h) km_X5_ghosts oModel rfl qm_L_101 ⟨rfl, rfl⟩ (by decide) rfl hl.1 rfl (Nat.le_of_ble_eq_true rfl) hcs dL_law_787 (fun r147 u147 H locs h hW => ?_)
                                              refine lv_icmp_eq (tgt := 1218) C.1 C.2.1 dL_law_790 (by decide) (fun c148 => ?_) (fun c148 => ?_)
                                              · have h := h.1 c148
                                                refine lv_iinc (v := (v3 + 6)) (lv' := [(3, .int (v3 + 6)), (0, .ref b), (1, .ref (gad g 0)), (2, .ref (gad g 39))]) C.1 C.2.1 dL_law_1218 hl (k := 3) rfl rfl (by decide) rfl (fun ls hl => ?_)
                                                refine lv_goto (tgt := 18) C.1 C.2.1 dL_law_1221 (by decide) ?_
                                                exact hK18 (v3 + 6) u147 _ _ _ h hW (lv_sub hl [1, 2, 3, 0] rfl)
                                              · have h := h.2 c148
                                                refine lv_iconst (v := 0) C.1 C.2.1 dL_law_793 (by decide) ?_
                                                exact h.elim
                                            · skip
                                              by_cases c149 : ((xs (Int32.toNatClampNeg v3)) &&& 63) = 21
                                              · refine lv_tableIn (off := 762) (tgt := 795) C.1 C.2.1 dL_law_33 (by rw [c149]; decide +kernel) (by rw [c149]; decide +kernel) (by rw [c149]; decide +kernel) (by decide) ?_
                                                have h := h.2.2.2.2.2.2.2.2.2.2.2.2.2.2.2.2.2.2.2.2.2.1 c149
                                                refine lv_aload_n C.1 C.2.1 dL_law_795 rfl (lv_at hl 1 rfl) ?_
                                                refine lv_aload_n C.1 C.2.1 dL_law_796 rfl (lv_at hl 0 rfl) ?_
                                                refine lv_iload_n C.1 C.2.1 dL_law_797 rfl (lv_at hl 3 rfl) ?_
                                                refine lv_iconst (v := 1) C.1 C.2.1 dL_law_798 (by decide) ?_
                                                refine lv_iadd C.1 C.2.1 dL_law_799 ?_
                                                obtain ⟨h150, h⟩ := h
                                                refine va_sld C.1 C.2.1 hX hbl hbA hW.2.2 h150 dL_law_800 ?_
                                                refine x_Vi (rest := []) C hW (c_X4_later l g h) km_X4_later oKeys rfl qm_L_102 ⟨rfl, rfl⟩ (by decide) rfl hl.1 rfl (Nat.le_of_ble_eq_true rfl) hcs dL_law_801 (fun r151 u151 H locs h hW => ?_)
                                                refine lv_aload_n C.1 C.2.1 dL_law_804 rfl (lv_at hl 2 rfl) ?_
                                                refine lv_aload_n C.1 C.2.1 dL_law_805 rfl (lv_at hl 0 rfl) ?_
                                                refine lv_iload_n C.1 C.2.1 dL_law_806 rfl (lv_at hl 3 rfl) ?_
                                                refine lv_iconst (v := 1) C.1 C.2.1 dL_law_807 (by decide) ?_
                                                refine lv_iadd C.1 C.2.1 dL_law_808 ?_
                                                obtain ⟨h152, h⟩ := h
                                                refine va_sld C.1 C.2.1 hX hbl hbA hW.2.2 h152 dL_law_809 ?_
                                                refine x_Vi (rest := [.int r151]) C hW (c_X5_later l g h) km_X5_later oModel rfl qm_L_105 ⟨rfl, rfl⟩ (by decide) rfl hl.1 rfl (Nat.le_of_ble_eq_true rfl) hcs dL_law_810 (fun r153 u153 H locs h hW => ?_)
                                                refine lv_icmp_eq (tgt := 1218) C.1 C.2.1 dL_law_813 (by decide) (fun c154 => ?_) (fun c154 => ?_)
                                                · have h := h.1 c154
                                                  refine lv_iinc (v := (v3 + 6)) (lv' := [(3, .int (v3 + 6)), (0, .ref b), (1, .ref (gad g 0)), (2, .ref (gad g 39))]) C.1 C.2.1 dL_law_1218 hl (k := 3) rfl rfl (by decide) rfl (fun ls hl => ?_)
                                                  refine lv_goto (tgt := 18) C.1 C.2.1 dL_law_1221 (by decide) ?_
                                                  exact hK18 (v3 + 6) u153 _ _ _ h hW (lv_sub hl [1, 2, 3, 0] rfl)
                                                · have h := h.2 c154
                                                  refine lv_iconst (v := 0) C.1 C.2.1 dL_law_816 (by decide) ?_
                                                  exact h.elim
                                              · skip
                                                by_cases c155 : ((xs (Int32.toNatClampNeg v3)) &&& 63) = 22
                                                · refine lv_tableIn (off := 785) (tgt := 818) C.1 C.2.1 dL_law_33 (by rw [c155]; decide +kernel) (by rw [c155]; decide +kernel) (by rw [c155]; decide +kernel) (by decide) ?_
                                                  have h := h.2.2.2.2.2.2.2.2.2.2.2.2.2.2.2.2.2.2.2.2.2.2.1 c155
                                                  refine lv_aload_n C.1 C.2.1 dL_law_818 rfl (lv_at hl 1 rfl) ?_
                                                  refine lv_aload_n C.1 C.2.1 dL_law_819 rfl (lv_at hl 0 rfl) ?_
                                                  refine lv_iload_n C.1 C.2.1 dL_law_820 rfl (lv_at hl 3 rfl) ?_
                                                  refine lv_iconst (v := 1) C.1 C.2.1 dL_law_821 (by decide) ?_
                                                  refine lv_iadd C.1 C.2.1 dL_law_822 ?_
                                                  obtain ⟨h156, h⟩ := h
                                                  refine va_sld C.1 C.2.1 hX hbl hbA hW.2.2 h156 dL_law_823 ?_
                                                  refine x_Vi (rest := []) C hW (c_X4_would l g h) km_X4_would oKeys rfl qm_L_106 ⟨rfl, rfl⟩ (by decide) rfl hl.1 rfl (Nat.le_of_ble_eq_true rfl) hcs dL_law_824 (fun r157 u157 H locs h hW => ?_)
                                                  refine lv_aload_n C.1 C.2.1 dL_law_827 rfl (lv_at hl 2 rfl) ?_
                                                  refine lv_aload_n C.1 C.2.1 dL_law_828 rfl (lv_at hl 0 rfl) ?_
                                                  refine lv_iload_n C.1 C.2.1 dL_law_829 rfl (lv_at hl 3 rfl) ?_
                                                  refine lv_iconst (v := 1) C.1 C.2.1 dL_law_830 (by decide) ?_
                                                  refine lv_iadd C.1 C.2.1 dL_law_831 ?_
                                                  obtain ⟨h158, h⟩ := h
                                                  refine va_sld C.1 C.2.1 hX hbl hbA hW.2.2 h158 dL_law_832 ?_
                                                  refine x_Vi (rest := [.int r157]) C hW (c_X5_would l g h) km_X5_would oModel rfl qm_L_109 ⟨rfl, rfl⟩ (by decide) rfl hl.1 rfl (Nat.le_of_ble_eq_true rfl) hcs dL_law_833 (fun r159 u159 H locs h hW => ?_)
                                                  refine lv_icmp_eq (tgt := 1218) C.1 C.2.1 dL_law_836 (by decide) (fun c160 => ?_) (fun c160 => ?_)
                                                  · have h := h.1 c160
                                                    refine lv_iinc (v := (v3 + 6)) (lv' := [(3, .int (v3 + 6)), (0, .ref b), (1, .ref (gad g 0)), (2, .ref (gad g 39))]) C.1 C.2.1 dL_law_1218 hl (k := 3) rfl rfl (by decide) rfl (fun ls hl => ?_)
                                                    refine lv_goto (tgt := 18) C.1 C.2.1 dL_law_1221 (by decide) ?_
                                                    exact hK18 (v3 + 6) u159 _ _ _ h hW (lv_sub hl [1, 2, 3, 0] rfl)
                                                  · have h := h.2 c160
                                                    refine lv_iconst (v := 0) C.1 C.2.1 dL_law_839 (by decide) ?_
                                                    exact h.elim
                                                · skip
                                                  by_cases c161 : ((xs (Int32.toNatClampNeg v3)) &&& 63) = 23
                                                  · refine lv_tableIn (off := 808) (tgt := 841) C.1 C.2.1 dL_law_33 (by rw [c161]; decide +kernel) (by rw [c161]; decide +kernel) (by rw [c161]; decide +kernel) (by decide) ?_
                                                    have h := h.2.2.2.2.2.2.2.2.2.2.2.2.2.2.2.2.2.2.2.2.2.2.2.1 c161
                                                    refine lv_aload_n C.1 C.2.1 dL_law_841 rfl (lv_at hl 1 rfl) ?_
                                                    refine lv_aload_n C.1 C.2.1 dL_law_842 rfl (lv_at hl 0 rfl) ?_
                                                    refine lv_iload_n C.1 C.2.1 dL_law_843 rfl (lv_at hl 3 rfl) ?_
                                                    refine lv_iconst (v := 1) C.1 C.2.1 dL_law_844 (by decide) ?_
                                                    refine lv_iadd C.1 C.2.1 dL_law_845 ?_
                                                    obtain ⟨h162, h⟩ := h
                                                    refine va_sld C.1 C.2.1 hX hbl hbA hW.2.2 h162 dL_law_846 ?_
                                                    refine x_Vi (rest := []) C hW (c_X4_haunts l g h) km_X4_haunts oKeys rfl qm_L_110 ⟨rfl, rfl⟩ (by decide) rfl hl.1 rfl (Nat.le_of_ble_eq_true rfl) hcs dL_law_847 (fun r163 u163 H locs h hW => ?_)
                                                    refine lv_aload_n C.1 C.2.1 dL_law_850 rfl (lv_at hl 2 rfl) ?_
                                                    refine lv_aload_n C.1 C.2.1 dL_law_851 rfl (lv_at hl 0 rfl) ?_
                                                    refine lv_iload_n C.1 C.2.1 dL_law_852 rfl (lv_at hl 3 rfl) ?_
                                                    refine lv_iconst (v := 1) C.1 C.2.1 dL_law_853 (by decide) ?_
                                                    refine lv_iadd C.1 C.2.1 dL_law_854 ?_
                                                    obtain ⟨h164, h⟩ := h
                                                    refine va_sld C.1 C.2.1 hX hbl hbA hW.2.2 h164 dL_law_855 ?_
                                                    refine x_Vi (rest := [.int r163]) C hW (c_X5_haunts l g h) km_X5_haunts oModel rfl qm_L_113 ⟨rfl, rfl⟩ (by decide) rfl hl.1 rfl (Nat.le_of_ble_eq_true rfl) hcs dL_law_856 (fun r165 u165 H locs h hW => ?_)
                                                    refine lv_icmp_eq (tgt := 1218) C.1 C.2.1 dL_law_859 (by decide) (fun c166 => ?_) (fun c166 => ?_)
                                                    · have h := h.1 c166
                                                      refine lv_iinc (v := (v3 + 6)) (lv' := [(3, .int (v3 + 6)), (0, .ref b), (1, .ref (gad g 0)), (2, .ref (gad g 39))]) C.1 C.2.1 dL_law_1218 hl (k := 3) rfl rfl (by decide) rfl (fun ls hl => ?_)
                                                      refine lv_goto (tgt := 18) C.1 C.2.1 dL_law_1221 (by decide) ?_
                                                      exact hK18 (v3 + 6) u165 _ _ _ h hW (lv_sub hl [1, 2, 3, 0] rfl)
                                                    · have h := h.2 c166
                                                      refine lv_iconst (v := 0) C.1 C.2.1 dL_law_862 (by decide) ?_
                                                      exact h.elim
                                                  · skip
                                                    by_cases c167 : ((xs (Int32.toNatClampNeg v3)) &&& 63) = 24
                                                    · refine lv_tableIn (off := 831) (tgt := 864) C.1 C.2.1 dL_law_33 (by rw [c167]; decide +kernel) (by rw [c167]; decide +kernel) (by rw [c167]; decide +kernel) (by decide) ?_
                                                      have h := h.2.2.2.2.2.2.2.2.2.2.2.2.2.2.2.2.2.2.2.2.2.2.2.2.1 c167
                                                      refine lv_aload_n C.1 C.2.1 dL_law_864 rfl (lv_at hl 1 rfl) ?_
                                                      refine x_Vi (rest := []) C hW (c_X4_right l g h) km_X4_right oKeys rfl qm_L_114 ⟨rfl, rfl⟩ (by decide) rfl hl.1 rfl (Nat.le_of_ble_eq_true rfl) hcs dL_law_865 (fun r168 u168 H locs h hW => ?_)
                                                      refine lv_aload_n C.1 C.2.1 dL_law_868 rfl (lv_at hl 2 rfl) ?_
                                                      refine x_Vi (rest := [.int r168]) C hW (c_X5_right l g h) km_X5_right oModel rfl qm_L_117 ⟨rfl, rfl⟩ (by decide) rfl hl.1 rfl (Nat.le_of_ble_eq_true rfl) hcs dL_law_869 (fun r169 u169 H locs h hW => ?_)
                                                      refine lv_icmp_eq (tgt := 1218) C.1 C.2.1 dL_law_872 (by decide) (fun c170 => ?_) (fun c170 => ?_)
                                                      · have h := h.1 c170
                                                        refine lv_iinc (v := (v3 + 6)) (lv' := [(3, .int (v3 + 6)), (0, .ref b), (1, .ref (gad g 0)), (2, .ref (gad g 39))]) C.1 C.2.1 dL_law_1218 hl (k := 3) rfl rfl (by decide) rfl (fun ls hl => ?_)
                                                        refine lv_goto (tgt := 18) C.1 C.2.1 dL_law_1221 (by decide) ?_
                                                        exact hK18 (v3 + 6) u169 _ _ _ h hW (lv_sub hl [1, 2, 3, 0] rfl)
                                                      · have h := h.2 c170
                                                        refine lv_iconst (v := 0) C.1 C.2.1 dL_law_875 (by decide) ?_
                                                        exact h.elim
                                                    · skip
                                                      by_cases c171 : ((xs (Int32.toNatClampNeg v3)) &&& 63) = 25
                                                      · refine lv_tableIn (off := 844) (tgt := 877) C.1 C.2.1 dL_law_33 (by rw [c171]; decide +kernel) (by rw [c171]; decide +kernel) (by rw [c171]; decide +kernel) (by decide) ?_
                                                        have h := h.2.2.2.2.2.2.2.2.2.2.2.2.2.2.2.2.2.2.2.2.2.2.2.2.2.1 c171
                                                        refine lv_aload_n C.1 C.2.1 dL_law_877 rfl (lv_at hl 1 rfl) ?_
                                                        refine x_Vi (rest := []) C hW (c_X4_alike l g h) km_X4_alike oKeys rfl qm_L_118 ⟨rfl, rfl⟩ (by decide) rfl hl.1 rfl (Nat.le_of_ble_eq_true rfl) hcs dL_law_878 (fun r172 u172 H locs h hW => ?_)
                                                        refine lv_aload_n C.1 C.2.1 dL_law_881 rfl (lv_at hl 2 rfl) ?_
                                                        refine x_Vi (rest := [.int r172]) C hW (c_X5_alike l g h) km_X5_alike oModel rfl qm_L_121 ⟨rfl, rfl⟩ (by decide) rfl hl.1 rfl (Nat.le_of_ble_eq_true rfl) hcs dL_law_882 (fun r173 u173 H locs h hW => ?_)
                                                        refine lv_icmp_eq (tgt := 1218) C.1 C.2.1 dL_law_885 (by decide) (fun c174 => ?_) (fun c174 => ?_)
                                                        · have h := h.1 c174
                                                          refine lv_iinc (v := (v3 + 6)) (lv' := [(3, .int (v3 + 6)), (0, .ref b), (1, .ref (gad g 0)), (2, .ref (gad g 39))]) C.1 C.2.1 dL_law_1218 hl (k := 3) rfl rfl (by decide) rfl (fun ls hl => ?_)
                                                          refine lv_goto (tgt := 18) C.1 C.2.1 dL_law_1221 (by decide) ?_
                                                          exact hK18 (v3 + 6) u173 _ _ _ h hW (lv_sub hl [1, 2, 3, 0] rfl)
                                                        · have h := h.2 c174
                                                          refine lv_iconst (v := 0) C.1 C.2.1 dL_law_888 (by decide) ?_
                                                          exact h.elim
                                                      · skip
                                                        by_cases c175 : ((xs (Int32.toNatClampNeg v3)) &&& 63) = 26
                                                        · refine lv_tableIn (off := 857) (tgt := 890) C.1 C.2.1 dL_law_33 (by rw [c175]; decide +kernel) (by rw [c175]; decide +kernel) (by rw [c175]; decide +kernel) (by decide) ?_
                                                          have h := h.2.2.2.2.2.2.2.2.2.2.2.2.2.2.2.2.2.2.2.2.2.2.2.2.2.2.1 c175
                                                          refine lv_aload_n C.1 C.2.1 dL_law_890 rfl (lv_at hl 1 rfl) ?_
                                                          refine x_Vi (rest := []) C hW (c_X4_best l g h) km_X4_best oKeys rfl qm_L_122 ⟨rfl, rfl⟩ (by decide) rfl hl.1 rfl (Nat.le_of_ble_eq_true rfl) hcs dL_law_891 (fun r176 u176 H locs h hW => ?_)
                                                          refine lv_aload_n C.1 C.2.1 dL_law_894 rfl (lv_at hl 2 rfl) ?_
                                                          refine x_Vi (rest := [.int r176]) C hW (c_X5_best l g h) km_X5_best oModel rfl qm_L_125 ⟨rfl, rfl⟩ (by decide) rfl hl.1 rfl (Nat.le_of_ble_eq_true rfl) hcs dL_law_895 (fun r177 u177 H locs h hW => ?_)
                                                          refine lv_icmp_eq (tgt := 1218) C.1 C.2.1 dL_law_898 (by decide) (fun c178 => ?_) (fun c178 => ?_)
                                                          · have h := h.1 c178
                                                            refine lv_iinc (v := (v3 + 6)) (lv' := [(3, .int (v3 + 6)), (0, .ref b), (1, .ref (gad g 0)), (2, .ref (gad g 39))]) C.1 C.2.1 dL_law_1218 hl (k := 3) rfl rfl (by decide) rfl (fun ls hl => ?_)
                                                            refine lv_goto (tgt := 18) C.1 C.2.1 dL_law_1221 (by decide) ?_
                                                            exact hK18 (v3 + 6) u177 _ _ _ h hW (lv_sub hl [1, 2, 3, 0] rfl)
                                                          · have h := h.2 c178
                                                            refine lv_iconst (v := 0) C.1 C.2.1 dL_law_901 (by decide) ?_
                                                            exact h.elim
                                                        · skip
                                                          by_cases c179 : ((xs (Int32.toNatClampNeg v3)) &&& 63) = 27
                                                          · refine lv_tableIn (off := 870) (tgt := 903) C.1 C.2.1 dL_law_33 (by rw [c179]; decide +kernel) (by rw [c179]; decide +kernel) (by rw [c179]; decide +kernel) (by decide) ?_
                                                            have h := h.2.2.2.2.2.2.2.2.2.2.2.2.2.2.2.2.2.2.2.2.2.2.2.2.2.2.2.1 c179
                                                            refine lv_aload_n C.1 C.2.1 dL_law_903 rfl (lv_at hl 1 rfl) ?_
                                                            refine lv_aload_n C.1 C.2.1 dL_law_904 rfl (lv_at hl 0 rfl) ?_
                                                            refine lv_iload_n C.1 C.2.1 dL_law_905 rfl (lv_at hl 3 rfl) ?_
                                                            refine lv_iconst (v := 1) C.1 C.2.1 dL_law_906 (by decide) ?_
                                                            refine lv_iadd C.1 C.2.1 dL_law_907 ?_
                                                            obtain ⟨h180, h⟩ := h
                                                            refine va_sld C.1 C.2.1 hX hbl hbA hW.2.2 h180 dL_law_908 ?_
                                                            refine lv_aload_n C.1 C.2.1 dL_law_909 rfl (lv_at hl 0 rfl) ?_
                                                            refine lv_iload_n C.1 C.2.1 dL_law_910 rfl (lv_at hl 3 rfl) ?_
                                                            refine lv_iconst (v := 2) C.1 C.2.1 dL_law_911 (by decide) ?_
                                                            refine lv_iadd C.1 C.2.1 dL_law_912 ?_
                                                            obtain ⟨h181, h⟩ := h
                                                            refine va_sld C.1 C.2.1 hX hbl hbA hW.2.2 h181 dL_law_913 ?_
                                                            refine x_Vi (rest := []) C hW (c_X4_kinds l g h) km_X4_kinds oKeys rfl qm_L_126 ⟨rfl, rfl⟩ (by decide) rfl hl.1 rfl (Nat.le_of_ble_eq_true rfl) hcs dL_law_914 (fun r182 u182 H locs h hW => ?_)
                                                            refine lv_aload_n C.1 C.2.1 dL_law_917 rfl (lv_at hl 2 rfl) ?_
                                                            refine lv_aload_n C.1 C.2.1 dL_law_918 rfl (lv_at hl 0 rfl) ?_
                                                            refine lv_iload_n C.1 C.2.1 dL_law_919 rfl (lv_at hl 3 rfl) ?_
                                                            refine lv_iconst (v := 1) C.1 C.2.1 dL_law_920 (by decide) ?_
                                                            refine lv_iadd C.1 C.2.1 dL_law_921 ?_
                                                            obtain ⟨h183, h⟩ := h
                                                            refine va_sld C.1 C.2.1 hX hbl hbA hW.2.2 h183 dL_law_922 ?_
                                                            refine lv_aload_n C.1 C.2.1 dL_law_923 rfl (lv_at hl 0 rfl) ?_
                                                            refine lv_iload_n C.1 C.2.1 dL_law_924 rfl (lv_at hl 3 rfl) ?_
                                                            refine lv_iconst (v := 2) C.1 C.2.1 dL_law_925 (by decide) ?_
                                                            refine lv_iadd C.1 C.2.1 dL_law_926 ?_
                                                            obtain ⟨h184, h⟩ := h
                                                            refine va_sld C.1 C.2.1 hX hbl hbA hW.2.2 h184 dL_law_927 ?_
                                                            refine x_Vi (rest := [.int r182]) C hW (c_X5_kinds l g h) km_X5_kinds oModel rfl qm_L_129 ⟨rfl, rfl⟩ (by decide) rfl hl.1 rfl (Nat.le_of_ble_eq_true rfl) hcs dL_law_928 (fun r185 u185 H locs h hW => ?_)
                                                            refine lv_icmp_eq (tgt := 1218) C.1 C.2.1 dL_law_931 (by decide) (fun c186 => ?_) (fun c186 => ?_)
                                                            · have h := h.1 c186
                                                              refine lv_iinc (v := (v3 + 6)) (lv' := [(3, .int (v3 + 6)), (0, .ref b), (1, .ref (gad g 0)), (2, .ref (gad g 39))]) C.1 C.2.1 dL_law_1218 hl (k := 3) rfl rfl (by decide) rfl (fun ls hl => ?_)
                                                              refine lv_goto (tgt := 18) C.1 C.2.1 dL_law_1221 (by decide) ?_
                                                              exact hK18 (v3 + 6) u185 _ _ _ h hW (lv_sub hl [1, 2, 3, 0] rfl)
                                                            · have h := h.2 c186
                                                              refine lv_iconst (v := 0) C.1 C.2.1 dL_law_934 (by decide) ?_
                                                              exact h.elim
                                                          · skip
                                                            by_cases c187 : ((xs (Int32.toNatClampNeg v3)) &&& 63) = 28
                                                            · refine lv_tableIn (off := 903) (tgt := 936) C.1 C.2.1 dL_law_33 (by rw [c187]; decide +kernel) (by rw [c187]; decide +kernel) (by rw [c187]; decide +kernel) (by decide) ?_
                                                              have h := h.2.2.2.2.2.2.2.2.2.2.2.2.2.2.2.2.2.2.2.2.2.2.2.2.2.2.2.2.1 c187
                                                              refine lv_aload_n C.1 C.2.1 dL_law_936 rfl (lv_at hl 1 rfl) ?_
                                                              refine lv_aload_n C.1 C.2.1 dL_law_937 rfl (lv_at hl 0 rfl) ?_
                                                              refine lv_iload_n C.1 C.2.1 dL_law_938 rfl (lv_at hl 3 rfl) ?_
                                                              refine lv_iconst (v := 1) C.1 C.2.1 dL_law_939 (by decide) ?_
                                                              refine lv_iadd C.1 C.2.1 dL_law_940 ?_
                                                              obtain ⟨h188, h⟩ := h
                                                              refine va_sld C.1 C.2.1 hX hbl hbA hW.2.2 h188 dL_law_941 ?_
                                                              refine lv_aload_n C.1 C.2.1 dL_law_942 rfl (lv_at hl 0 rfl) ?_
                                                              refine lv_iload_n C.1 C.2.1 dL_law_943 rfl (lv_at hl 3 rfl) ?_
                                                              refine lv_iconst (v := 2) C.1 C.2.1 dL_law_944 (by decide) ?_
                                                              refine lv_iadd C.1 C.2.1 dL_law_945 ?_
                                                              obtain ⟨h189, h⟩ := h
                                                              refine va_sld C.1 C.2.1 hX hbl hbA hW.2.2 h189 dL_law_946 ?_
                                                              refine x_Vi (rest := []) C hW (c_X4_places l g h) km_X4_places oKeys rfl qm_L_130 ⟨rfl, rfl⟩ (by decide) rfl hl.1 rfl (Nat.le_of_ble_eq_true rfl) hcs dL_law_947 (fun r190 u190 H locs h hW => ?_)
                                                              refine lv_aload_n C.1 C.2.1 dL_law_950 rfl (lv_at hl 2 rfl) ?_
                                                              refine lv_aload_n C.1 C.2.1 dL_law_951 rfl (lv_at hl 0 rfl) ?_
                                                              refine lv_iload_n C.1 C.2.1 dL_law_952 rfl (lv_at hl 3 rfl) ?_
                                                              refine lv_iconst (v := 1) C.1 C.2.1 dL_law_953 (by decide) ?_
                                                              refine lv_iadd C.1 C.2.1 dL_law_954 ?_
                                                              obtain ⟨h191, h⟩ := h
                                                              refine va_sld C.1 C.2.1 hX hbl hbA hW.2.2 h191 dL_law_955 ?_
                                                              refine lv_aload_n C.1 C.2.1 dL_law_956 rfl (lv_at hl 0 rfl) ?_
                                                              refine lv_iload_n C.1 C.2.1 dL_law_957 rfl (lv_at hl 3 rfl) ?_
                                                              refine lv_iconst (v := 2) C.1 C.2.1 dL_law_958 (by decide) ?_
                                                              refine lv_iadd C.1 C.2.1 dL_law_959 ?_
                                                              obtain ⟨h192, h⟩ := h
                                                              refine va_sld C.1 C.2.1 hX hbl hbA hW.2.2 h192 dL_law_960 ?_
                                                              refine x_Vi (rest := [.int r190]) C hW (c_X5_places l g h) km_X5_places oModel rfl qm_L_133 ⟨rfl, rfl⟩ (by decide) rfl hl.1 rfl (Nat.le_of_ble_eq_true rfl) hcs dL_law_961 (fun r193 u193 H locs h hW => ?_)
                                                              refine lv_icmp_eq (tgt := 1218) C.1 C.2.1 dL_law_964 (by decide) (fun c194 => ?_) (fun c194 => ?_)
                                                              · have h := h.1 c194
                                                                refine lv_iinc (v := (v3 + 6)) (lv' := [(3, .int (v3 + 6)), (0, .ref b), (1, .ref (gad g 0)), (2, .ref (gad g 39))]) C.1 C.2.1 dL_law_1218 hl (k := 3) rfl rfl (by decide) rfl (fun ls hl => ?_)
                                                                refine lv_goto (tgt := 18) C.1 C.2.1 dL_law_1221 (by decide) ?_
                                                                exact hK18 (v3 + 6) u193 _ _ _ h hW (lv_sub hl [1, 2, 3, 0] rfl)
                                                              · have h := h.2 c194
                                                                refine lv_iconst (v := 0) C.1 C.2.1 dL_law_967 (by decide) ?_
                                                                exact h.elim
                                                            · skip
                                                              by_cases c195 : ((xs (Int32.toNatClampNeg v3)) &&& 63) = 29
                                                              · refine lv_tableIn (off := 936) (tgt := 969) C.1 C.2.1 dL_law_33 (by rw [c195]; decide +kernel) (by rw [c195]; decide +kernel) (by rw [c195]; decide +kernel) (by decide) ?_
                                                                have h := h.2.2.2.2.2.2.2.2.2.2.2.2.2.2.2.2.2.2.2.2.2.2.2.2.2.2.2.2.2.1 c195
                                                                refine lv_aload_n C.1 C.2.1 dL_law_969 rfl (lv_at hl 1 rfl) ?_
                                                                refine lv_aload_n C.1 C.2.1 dL_law_970 rfl (lv_at hl 0 rfl) ?_
                                                                refine lv_iload_n C.1 C.2.1 dL_law_971 rfl (lv_at hl 3 rfl) ?_
                                                                refine lv_iconst (v := 1) C.1 C.2.1 dL_law_972 (by decide) ?_
                                                                refine lv_iadd C.1 C.2.1 dL_law_973 ?_
                                                                obtain ⟨h196, h⟩ := h
                                                                refine va_sld C.1 C.2.1 hX hbl hbA hW.2.2 h196 dL_law_974 ?_
                                                                refine lv_aload_n C.1 C.2.1 dL_law_975 rfl (lv_at hl 0 rfl) ?_
                                                                refine lv_iload_n C.1 C.2.1 dL_law_976 rfl (lv_at hl 3 rfl) ?_
                                                                refine lv_iconst (v := 2) C.1 C.2.1 dL_law_977 (by decide) ?_
                                                                refine lv_iadd C.1 C.2.1 dL_law_978 ?_
                                                                obtain ⟨h197, h⟩ := h
                                                                refine va_sld C.1 C.2.1 hX hbl hbA hW.2.2 h197 dL_law_979 ?_
                                                                refine x_Vi (rest := []) C hW (c_X4_test l g h) km_X4_test oKeys rfl qm_L_134 ⟨rfl, rfl⟩ (by decide) rfl hl.1 rfl (Nat.le_of_ble_eq_true rfl) hcs dL_law_980 (fun r198 u198 H locs h hW => ?_)
                                                                refine lv_aload_n C.1 C.2.1 dL_law_983 rfl (lv_at hl 2 rfl) ?_
                                                                refine lv_aload_n C.1 C.2.1 dL_law_984 rfl (lv_at hl 0 rfl) ?_
                                                                refine lv_iload_n C.1 C.2.1 dL_law_985 rfl (lv_at hl 3 rfl) ?_
                                                                refine lv_iconst (v := 1) C.1 C.2.1 dL_law_986 (by decide) ?_
                                                                refine lv_iadd C.1 C.2.1 dL_law_987 ?_
                                                                obtain ⟨h199, h⟩ := h
                                                                refine va_sld C.1 C.2.1 hX hbl hbA hW.2.2 h199 dL_law_988 ?_
                                                                refine lv_aload_n C.1 C.2.1 dL_law_989 rfl (lv_at hl 0 rfl) ?_
                                                                refine lv_iload_n C.1 C.2.1 dL_law_990 rfl (lv_at hl 3 rfl) ?_
                                                                refine lv_iconst (v := 2) C.1 C.2.1 dL_law_991 (by decide) ?_
                                                                refine lv_iadd C.1 C.2.1 dL_law_992 ?_
                                                                obtain ⟨h200, h⟩ := h
                                                                refine va_sld C.1 C.2.1 hX hbl hbA hW.2.2 h200 dL_law_993 ?_
                                                                refine x_Vi (rest := [.int r198]) C hW (c_X5_test l g h) km_X5_test oModel rfl qm_L_137 ⟨rfl, rfl⟩ (by decide) rfl hl.1 rfl (Nat.le_of_ble_eq_true rfl) hcs dL_law_994 (fun r201 u201 H locs h hW => ?_)
                                                                refine lv_icmp_eq (tgt := 1218) C.1 C.2.1 dL_law_997 (by decide) (fun c202 => ?_) (fun c202 => ?_)
                                                                · have h := h.1 c202
                                                                  refine lv_iinc (v := (v3 + 6)) (lv' := [(3, .int (v3 + 6)), (0, .ref b), (1, .ref (gad g 0)), (2, .ref (gad g 39))]) C.1 C.2.1 dL_law_1218 hl (k := 3) rfl rfl (by decide) rfl (fun ls hl => ?_)
                                                                  refine lv_goto (tgt := 18) C.1 C.2.1 dL_law_1221 (by decide) ?_
                                                                  exact hK18 (v3 + 6) u201 _ _ _ h hW (lv_sub hl [1, 2, 3, 0] rfl)
                                                                · have h := h.2 c202
                                                                  refine lv_iconst (v := 0) C.1 C.2.1 dL_law_1000 (by decide) ?_
                                                                  exact h.elim
                                                              · skip
                                                                by_cases c203 : ((xs (Int32.toNatClampNeg v3)) &&& 63) = 30
                                                                · refine lv_tableIn (off := 969) (tgt := 1002) C.1 C.2.1 dL_law_33 (by rw [c203]; decide +kernel) (by rw [c203]; decide +kernel) (by rw [c203]; decide +kernel) (by decide) ?_
                                                                  have h := h.2.2.2.2.2.2.2.2.2.2.2.2.2.2.2.2.2.2.2.2.2.2.2.2.2.2.2.2.2.2.1 c203
                                                                  refine lv_aload_n C.1 C.2.1 dL_law_1002 rfl (lv_at hl 1 rfl) ?_
                                                                  refine lv_aload_n C.1 C.2.1 dL_law_1003 rfl (lv_at hl 0 rfl) ?_
                                                                  refine lv_iload_n C.1 C.2.1 dL_law_1004 rfl (lv_at hl 3 rfl) ?_
                                                                  refine lv_iconst (v := 1) C.1 C.2.1 dL_law_1005 (by decide) ?_
                                                                  refine lv_iadd C.1 C.2.1 dL_law_1006 ?_
                                                                  obtain ⟨h204, h⟩ := h
                                                                  refine va_sld C.1 C.2.1 hX hbl hbA hW.2.2 h204 dL_law_1007 ?_
                                                                  refine x_Vi (rest := []) C hW (c_X4_duel l g h) km_X4_duel oKeys rfl qm_L_138 ⟨rfl, rfl⟩ (by decide) rfl hl.1 rfl (Nat.le_of_ble_eq_true rfl) hcs dL_law_1008 (fun r205 u205 H locs h hW => ?_)
                                                                  refine lv_aload_n C.1 C.2.1 dL_law_1011 rfl (lv_at hl 2 rfl) ?_
                                                                  refine lv_aload_n C.1 C.2.1 dL_law_1012 rfl (lv_at hl 0 rfl) ?_
                                                                  refine lv_iload_n C.1 C.2.1 dL_law_1013 rfl (lv_at hl 3 rfl) ?_
                                                                  refine lv_iconst (v := 1) C.1 C.2.1 dL_law_1014 (by decide) ?_
                                                                  refine lv_iadd C.1 C.2.1 dL_law_1015 ?_
                                                                  obtain ⟨h206, h⟩ := h
                                                                  refine va_sld C.1 C.2.1 hX hbl hbA hW.2.2 h206 dL_law_1016 ?_
                                                                  refine x_Vi (rest := [.int r205]) C hW (c_X5_duel l g h) km_X5_duel oModel rfl qm_L_141 ⟨rfl, rfl⟩ (by decide) rfl hl.1 rfl (Nat.le_of_ble_eq_true rfl) hcs dL_law_1017 (fun r207 u207 H locs h hW => ?_)
                                                                  refine lv_icmp_eq (tgt := 1218) C.1 C.2.1 dL_law_1020 (by decide) (fun c208 => ?_) (fun c208 => ?_)
                                                                  · have h := h.1 c208
                                                                    refine lv_iinc (v := (v3 + 6)) (lv' := [(3, .int (v3 + 6)), (0, .ref b), (1, .ref (gad g 0)), (2, .ref (gad g 39))]) C.1 C.2.1 dL_law_1218 hl (k := 3) rfl rfl (by decide) rfl (fun ls hl => ?_)
                                                                    refine lv_goto (tgt := 18) C.1 C.2.1 dL_law_1221 (by decide) ?_
                                                                    exact hK18 (v3 + 6) u207 _ _ _ h hW (lv_sub hl [1, 2, 3, 0] rfl)
                                                                  · have h := h.2 c208
                                                                    refine lv_iconst (v := 0) C.1 C.2.1 dL_law_1023 (by decide) ?_
                                                                    exact h.elim
                                                                · skip
                                                                  by_cases c209 : ((xs (Int32.toNatClampNeg v3)) &&& 63) = 31
                                                                  · refine lv_tableIn (off := 992) (tgt := 1025) C.1 C.2.1 dL_law_33 (by rw [c209]; decide +kernel) (by rw [c209]; decide +kernel) (by rw [c209]; decide +kernel) (by decide) ?_
                                                                    have h := h.2.2.2.2.2.2.2.2.2.2.2.2.2.2.2.2.2.2.2.2.2.2.2.2.2.2.2.2.2.2.2.1 c209
                                                                    refine lv_aload_n C.1 C.2.1 dL_law_1025 rfl (lv_at hl 1 rfl) ?_
                                                                    refine lv_aload_n C.1 C.2.1 dL_law_1026 rfl (lv_at hl 0 rfl) ?_
                                                                    refine lv_iload_n C.1 C.2.1 dL_law_1027 rfl (lv_at hl 3 rfl) ?_
                                                                    refine lv_iconst (v := 1) C.1 C.2.1 dL_law_1028 (by decide) ?_
                                                                    refine lv_iadd C.1 C.2.1 dL_law_1029 ?_
                                                                    obtain ⟨h210, h⟩ := h
                                                                    refine va_sld C.1 C.2.1 hX hbl hbA hW.2.2 h210 dL_law_1030 ?_
                                                                    refine x_Vi (rest := []) C hW (c_X4_odds l g h) km_X4_odds oKeys rfl qm_L_142 ⟨rfl, rfl⟩ (by decide) rfl hl.1 rfl (Nat.le_of_ble_eq_true rfl) hcs dL_law_1031 (fun r211 u211 H locs h hW => ?_)
                                                                    refine lv_aload_n C.1 C.2.1 dL_law_1034 rfl (lv_at hl 2 rfl) ?_
                                                                    refine lv_aload_n C.1 C.2.1 dL_law_1035 rfl (lv_at hl 0 rfl) ?_
                                                                    refine lv_iload_n C.1 C.2.1 dL_law_1036 rfl (lv_at hl 3 rfl) ?_
                                                                    refine lv_iconst (v := 1) C.1 C.2.1 dL_law_1037 (by decide) ?_
                                                                    refine lv_iadd C.1 C.2.1 dL_law_1038 ?_
                                                                    obtain ⟨h212, h⟩ := h
                                                                    refine va_sld C.1 C.2.1 hX hbl hbA hW.2.2 h212 dL_law_1039 ?_
                                                                    refine x_Vi (rest := [.int r211]) C hW (c_X5_odds l g h) km_X5_odds oModel rfl qm_L_145 ⟨rfl, rfl⟩ (by decide) rfl hl.1 rfl (Nat.le_of_ble_eq_true rfl) hcs dL_law_1040 (fun r213 u213 H locs h hW => ?_)
                                                                    refine lv_icmp_eq (tgt := 1218) C.1 C.2.1 dL_law_1043 (by decide) (fun c214 => ?_) (fun c214 => ?_)
                                                                    · have h := h.1 c214
                                                                      refine lv_iinc (v := (v3 + 6)) (lv' := [(3, .int (v3 + 6)), (0, .ref b), (1, .ref (gad g 0)), (2, .ref (gad g 39))]) C.1 C.2.1 dL_law_1218 hl (k := 3) rfl rfl (by decide) rfl (fun ls hl => ?_)
                                                                      refine lv_goto (tgt := 18) C.1 C.2.1 dL_law_1221 (by decide) ?_
                                                                      exact hK18 (v3 + 6) u213 _ _ _ h hW (lv_sub hl [1, 2, 3, 0] rfl)
                                                                    · have h := h.2 c214
                                                                      refine lv_iconst (v := 0) C.1 C.2.1 dL_law_1046 (by decide) ?_
                                                                      exact h.elim
                                                                  · skip
                                                                    by_cases c215 : ((xs (Int32.toNatClampNeg v3)) &&& 63) = 32
                                                                    · refine lv_tableIn (off := 1015) (tgt := 1048) C.1 C.2.1 dL_law_33 (by rw [c215]; decide +kernel) (by rw [c215]; decide +kernel) (by rw [c215]; decide +kernel) (by decide) ?_
                                                                      have h := h.2.2.2.2.2.2.2.2.2.2.2.2.2.2.2.2.2.2.2.2.2.2.2.2.2.2.2.2.2.2.2.2.1 c215
                                                                      refine lv_aload_n C.1 C.2.1 dL_law_1048 rfl (lv_at hl 1 rfl) ?_
                                                                      refine lv_aload_n C.1 C.2.1 dL_law_1049 rfl (lv_at hl 0 rfl) ?_
                                                                      refine lv_iload_n C.1 C.2.1 dL_law_1050 rfl (lv_at hl 3 rfl) ?_
                                                                      refine lv_iconst (v := 1) C.1 C.2.1 dL_law_1051 (by decide) ?_
                                                                      refine lv_iadd C.1 C.2.1 dL_law_1052 ?_
                                                                      obtain ⟨h216, h⟩ := h
                                                                      refine va_sld C.1 C.2.1 hX hbl hbA hW.2.2 h216 dL_law_1053 ?_
                                                                      refine x_Vi (rest := []) C hW (c_X4_mid l g h) km_X4_mid oKeys rfl qm_L_146 ⟨rfl, rfl⟩ (by decide) rfl hl.1 rfl (Nat.le_of_ble_eq_true rfl) hcs dL_law_1054 (fun r217 u217 H locs h hW => ?_)
                                                                      refine lv_aload_n C.1 C.2.1 dL_law_1057 rfl (lv_at hl 2 rfl) ?_
                                                                      refine lv_aload_n C.1 C.2.1 dL_law_1058 rfl (lv_at hl 0 rfl) ?_
                                                                      refine lv_iload_n C.1 C.2.1 dL_law_1059 rfl (lv_at hl 3 rfl) ?_
                                                                      refine lv_iconst (v := 1) C.1 C.2.1 dL_law_1060 (by decide) ?_
                                                                      refine lv_iadd C.1 C.2.1 dL_law_1061 ?_
                                                                      obtain ⟨h218, h⟩ := h
                                                                      refine va_sld C.1 C.2.1 hX hbl hbA hW.2.2 h218 dL_law_1062 ?_
                                                                      refine x_Vi (rest := [.int r217]) C hW (c_X5_mid l g h) km_X5_mid oModel rfl qm_L_149 ⟨rfl, rfl⟩ (by decide) rfl hl.1 rfl (Nat.le_of_ble_eq_true rfl) hcs dL_law_1063 (fun r219 u219 H locs h hW => ?_)
                                                                      refine lv_icmp_eq (tgt := 1218) C.1 C.2.1 dL_law_1066 (by decide) (fun c220 => ?_) (fun c220 => ?_)
                                                                      · have h := h.1 c220
                                                                        refine lv_iinc (v := (v3 + 6)) (lv' := [(3, .int (v3 + 6)), (0, .ref b), (1, .ref (gad g 0)), (2, .ref (gad g 39))]) C.1 C.2.1 dL_law_1218 hl (k := 3) rfl rfl (by decide) rfl (fun ls hl => ?_)
                                                                        refine lv_goto (tgt := 18) C.1 C.2.1 dL_law_1221 (by decide) ?_
                                                                        exact hK18 (v3 + 6) u219 _ _ _ h hW (lv_sub hl [1, 2, 3, 0] rfl)
                                                                      · have h := h.2 c220
                                                                        refine lv_iconst (v := 0) C.1 C.2.1 dL_law_1069 (by decide) ?_
                                                                        exact h.elim
                                                                    · skip
                                                                      by_cases c221 : ((xs (Int32.toNatClampNeg v3)) &&& 63) = 33
                                                                      · refine lv_tableIn (off := 1038) (tgt := 1071) C.1 C.2.1 dL_law_33 (by rw [c221]; decide +kernel) (by rw [c221]; decide +kernel) (by rw [c221]; decide +kernel) (by decide) ?_
                                                                        have h := h.2.2.2.2.2.2.2.2.2.2.2.2.2.2.2.2.2.2.2.2.2.2.2.2.2.2.2.2.2.2.2.2.2.1 c221
                                                                        refine lv_aload_n C.1 C.2.1 dL_law_1071 rfl (lv_at hl 1 rfl) ?_
                                                                        refine lv_aload_n C.1 C.2.1 dL_law_1072 rfl (lv_at hl 0 rfl) ?_
                                                                        refine lv_iload_n C.1 C.2.1 dL_law_1073 rfl (lv_at hl 3 rfl) ?_
                                                                        refine lv_iconst (v := 1) C.1 C.2.1 dL_law_1074 (by decide) ?_
                                                                        refine lv_iadd C.1 C.2.1 dL_law_1075 ?_
                                                                        obtain ⟨h222, h⟩ := h
                                                                        refine va_sld C.1 C.2.1 hX hbl hbA hW.2.2 h222 dL_law_1076 ?_
                                                                        refine lv_aload_n C.1 C.2.1 dL_law_1077 rfl (lv_at hl 0 rfl) ?_
                                                                        refine lv_iload_n C.1 C.2.1 dL_law_1078 rfl (lv_at hl 3 rfl) ?_
                                                                        refine lv_iconst (v := 2) C.1 C.2.1 dL_law_1079 (by decide) ?_
                                                                        refine lv_iadd C.1 C.2.1 dL_law_1080 ?_
                                                                        obtain ⟨h223, h⟩ := h
                                                                        refine va_sld C.1 C.2.1 hX hbl hbA hW.2.2 h223 dL_law_1081 ?_
                                                                        refine x_Vi (rest := []) C hW (c_X4_lots l g h) km_X4_lots oKeys rfl qm_L_150 ⟨rfl, rfl⟩ (by decide) rfl hl.1 rfl (Nat.le_of_ble_eq_true rfl) hcs dL_law_1082 (fun r224 u224 H locs h hW => ?_)
                                                                        refine lv_aload_n C.1 C.2.1 dL_law_1085 rfl (lv_at hl 2 rfl) ?_
                                                                        refine lv_aload_n C.1 C.2.1 dL_law_1086 rfl (lv_at hl 0 rfl) ?_
                                                                        refine lv_iload_n C.1 C.2.1 dL_law_1087 rfl (lv_at hl 3 rfl) ?_
                                                                        refine lv_iconst (v := 1) C.1 C.2.1 dL_law_1088 (by decide) ?_
                                                                        refine lv_iadd C.1 C.2.1 dL_law_1089 ?_
                                                                        obtain ⟨h225, h⟩ := h
                                                                        refine va_sld C.1 C.2.1 hX hbl hbA hW.2.2 h225 dL_law_1090 ?_
                                                                        refine lv_aload_n C.1 C.2.1 dL_law_1091 rfl (lv_at hl 0 rfl) ?_
                                                                        refine lv_iload_n C.1 C.2.1 dL_law_1092 rfl (lv_at hl 3 rfl) ?_
                                                                        refine lv_iconst (v := 2) C.1 C.2.1 dL_law_1093 (by decide) ?_
                                                                        refine lv_iadd C.1 C.2.1 dL_law_1094 ?_
                                                                        obtain ⟨h226, h⟩ := h
                                                                        refine va_sld C.1 C.2.1 hX hbl hbA hW.2.2 h226 dL_law_1095 ?_
                                                                        refine x_Vi (rest := [.int r224]) C hW (c_X5_lots l g h) km_X5_lots oModel rfl qm_L_153 ⟨rfl, rfl⟩ (by decide) rfl hl.1 rfl (Nat.le_of_ble_eq_true rfl) hcs dL_law_1096 (fun r227 u227 H locs h hW => ?_)
                                                                        refine lv_icmp_eq (tgt := 1218) C.1 C.2.1 dL_law_1099 (by decide) (fun c228 => ?_) (fun c228 => ?_)
                                                                        · have h := h.1 c228
                                                                          refine lv_iinc (v := (v3 + 6)) (lv' := [(3, .int (v3 + 6)), (0, .ref b), (1, .ref (gad g 0)), (2, .ref (gad g 39))]) C.1 C.2.1 dL_law_1218 hl (k := 3) rfl rfl (by decide) rfl (fun ls hl => ?_)
                                                                          refine lv_goto (tgt := 18) C.1 C.2.1 dL_law_1221 (by decide) ?_
                                                                          exact hK18 (v3 + 6) u227 _ _ _ h hW (lv_sub hl [1, 2, 3, 0] rfl)
                                                                        · have h := h.2 c228
                                                                          refine lv_iconst (v := 0) C.1 C.2.1 dL_law_1102 (by decide) ?_
                                                                          exact h.elim
                                                                      · skip
                                                                        by_cases c229 : ((xs (Int32.toNatClampNeg v3)) &&& 63) = 34
                                                                        · refine lv_tableIn (off := 1071) (tgt := 1104) C.1 C.2.1 dL_law_33 (by rw [c229]; decide +kernel) (by rw [c229]; decide +kernel) (by rw [c229]; decide +kernel) (by decide) ?_
                                                                          have h := h.2.2.2.2.2.2.2.2.2.2.2.2.2.2.2.2.2.2.2.2.2.2.2.2.2.2.2.2.2.2.2.2.2.2.1 c229
                                                                          refine lv_aload_n C.1 C.2.1 dL_law_1104 rfl (lv_at hl 1 rfl) ?_
                                                                          refine x_Vi (rest := []) C hW (c_X4_asked l g h) km_X4_asked oKeys rfl qm_L_154 ⟨rfl, rfl⟩ (by decide) rfl hl.1 rfl (Nat.le_of_ble_eq_true rfl) hcs dL_law_1105 (fun r230 u230 H locs h hW => ?_)
                                                                          refine lv_aload_n C.1 C.2.1 dL_law_1108 rfl (lv_at hl 2 rfl) ?_
                                                                          refine x_Vi (rest := [.int r230]) C hW (c_X5_asked l g h) km_X5_asked oModel rfl qm_L_157 ⟨rfl, rfl⟩ (by decide) rfl hl.1 rfl (Nat.le_of_ble_eq_true rfl) hcs dL_law_1109 (fun r231 u231 H locs h hW => ?_)
                                                                          refine lv_icmp_eq (tgt := 1218) C.1 C.2.1 dL_law_1112 (by decide) (fun c232 => ?_) (fun c232 => ?_)
                                                                          · have h := h.1 c232
                                                                            refine lv_iinc (v := (v3 + 6)) (lv' := [(3, .int (v3 + 6)), (0, .ref b), (1, .ref (gad g 0)), (2, .ref (gad g 39))]) C.1 C.2.1 dL_law_1218 hl (k := 3) rfl rfl (by decide) rfl (fun ls hl => ?_)
                                                                            refine lv_goto (tgt := 18) C.1 C.2.1 dL_law_1221 (by decide) ?_
                                                                            exact hK18 (v3 + 6) u231 _ _ _ h hW (lv_sub hl [1, 2, 3, 0] rfl)
                                                                          · have h := h.2 c232
                                                                            refine lv_iconst (v := 0) C.1 C.2.1 dL_law_1115 (by decide) ?_
                                                                            exact h.elim
                                                                        · skip
                                                                          by_cases c233 : ((xs (Int32.toNatClampNeg v3)) &&& 63) = 35
                                                                          · refine lv_tableIn (off := 1084) (tgt := 1117) C.1 C.2.1 dL_law_33 (by rw [c233]; decide +kernel) (by rw [c233]; decide +kernel) (by rw [c233]; decide +kernel) (by decide) ?_
                                                                            have h := h.2.2.2.2.2.2.2.2.2.2.2.2.2.2.2.2.2.2.2.2.2.2.2.2.2.2.2.2.2.2.2.2.2.2.2.1 c233
                                                                            refine lv_aload_n C.1 C.2.1 dL_law_1117 rfl (lv_at hl 1 rfl) ?_
                                                                            refine x_Vl (rest := []) C hW (c_X4_upper l g h) km_X4_upper oKeys rfl qm_L_158 ⟨rfl, rfl⟩ (by decide) rfl hl.1 rfl (Nat.le_of_ble_eq_true rfl) hcs dL_law_1118 (fun r234 u234 H locs h hW => ?_)
                                                                            refine lv_aload_n C.1 C.2.1 dL_law_1121 rfl (lv_at hl 2 rfl) ?_
                                                                            refine x_Vl (rest := [.long r234]) C hW (c_X5_upper l g h) km_X5_upper oModel rfl qm_L_162 ⟨rfl, rfl⟩ (by decide) rfl hl.1 rfl (Nat.le_of_ble_eq_true rfl) hcs dL_law_1122 (fun r235 u235 H locs h hW => ?_)
                                                                            refine W.lcmp C.1 C.2.1 dL_law_1125 ?_
                                                                            refine lv_if_eq (tgt := 1218) C.1 C.2.1 dL_law_1126 (by decide) (fun c236 => ?_) (fun c236 => ?_)
                                                                            · have h := h.1 c236
                                                                              refine lv_iinc (v := (v3 + 6)) (lv' := [(3, .int (v3 + 6)), (0, .ref b), (1, .ref (gad g 0)), (2, .ref (gad g 39))]) C.1 C.2.1 dL_law_1218 hl (k := 3) rfl rfl (by decide) rfl (fun ls hl => ?_)
                                                                              refine lv_goto (tgt := 18) C.1 C.2.1 dL_law_1221 (by decide) ?_
                                                                              exact hK18 (v3 + 6) u235 _ _ _ h hW (lv_sub hl [1, 2, 3, 0] rfl)
                                                                            · have h := h.2 c236
                                                                              refine lv_iconst (v := 0) C.1 C.2.1 dL_law_1129 (by decide) ?_
                                                                              exact h.elim
                                                                          · skip
                                                                            by_cases c237 : ((xs (Int32.toNatClampNeg v3)) &&& 63) = 36
                                                                            · refine lv_tableIn (off := 1098) (tgt := 1131) C.1 C.2.1 dL_law_33 (by rw [c237]; decide +kernel) (by rw [c237]; decide +kernel) (by rw [c237]; decide +kernel) (by decide) ?_
                                                                              have h := h.2.2.2.2.2.2.2.2.2.2.2.2.2.2.2.2.2.2.2.2.2.2.2.2.2.2.2.2.2.2.2.2.2.2.2.2.1 c237
                                                                              refine lv_aload_n C.1 C.2.1 dL_law_1131 rfl (lv_at hl 1 rfl) ?_
                                                                              refine x_Vl (rest := []) C hW (c_X4_lower l g h) km_X4_lower oKeys rfl qm_L_163 ⟨rfl, rfl⟩ (by decide) rfl hl.1 rfl (Nat.le_of_ble_eq_true rfl) hcs dL_law_1132 (fun r238 u238 H locs h hW => ?_)
                                                                              refine lv_aload_n C.1 C.2.1 dL_law_1135 rfl (lv_at hl 2 rfl) ?_
                                                                              refine x_Vl (rest := [.long r238]) C hW (c_X5_lower l g h) km_X5_lower oModel rfl qm_L_166 ⟨rfl, rfl⟩ (by decide) rfl hl.1 rfl (Nat.le_of_ble_eq_true rfl) hcs dL_law_1136 (fun r239 u239 H locs h hW => ?_)
                                                                              refine W.lcmp C.1 C.2.1 dL_law_1139 ?_
                                                                              refine lv_if_eq (tgt := 1218) C.1 C.2.1 dL_law_1140 (by decide) (fun c240 => ?_) (fun c240 => ?_)
                                                                              · have h := h.1 c240
                                                                                refine lv_iinc (v := (v3 + 6)) (lv' := [(3, .int (v3 + 6)), (0, .ref b), (1, .ref (gad g 0)), (2, .ref (gad g 39))]) C.1 C.2.1 dL_law_1218 hl (k := 3) rfl rfl (by decide) rfl (fun ls hl => ?_)
                                                                                refine lv_goto (tgt := 18) C.1 C.2.1 dL_law_1221 (by decide) ?_
                                                                                exact hK18 (v3 + 6) u239 _ _ _ h hW (lv_sub hl [1, 2, 3, 0] rfl)
                                                                              · have h := h.2 c240
                                                                                refine lv_iconst (v := 0) C.1 C.2.1 dL_law_1143 (by decide) ?_
                                                                                exact h.elim
                                                                            · skip
                                                                              by_cases c241 : ((xs (Int32.toNatClampNeg v3)) &&& 63) = 37
                                                                              · refine lv_tableIn (off := 1112) (tgt := 1145) C.1 C.2.1 dL_law_33 (by rw [c241]; decide +kernel) (by rw [c241]; decide +kernel) (by rw [c241]; decide +kernel) (by decide) ?_
                                                                                have h := h.2.2.2.2.2.2.2.2.2.2.2.2.2.2.2.2.2.2.2.2.2.2.2.2.2.2.2.2.2.2.2.2.2.2.2.2.2.1 c241
                                                                                refine lv_aload_n C.1 C.2.1 dL_law_1145 rfl (lv_at hl 1 rfl) ?_
                                                                                refine lv_aload_n C.1 C.2.1 dL_law_1146 rfl (lv_at hl 0 rfl) ?_
                                                                                refine lv_iload_n C.1 C.2.1 dL_law_1147 rfl (lv_at hl 3 rfl) ?_
                                                                                refine lv_iconst (v := 1) C.1 C.2.1 dL_law_1148 (by decide) ?_
                                                                                refine lv_iadd C.1 C.2.1 dL_law_1149 ?_
                                                                                obtain ⟨h242, h⟩ := h
                                                                                refine va_sld C.1 C.2.1 hX hbl hbA hW.2.2 h242 dL_law_1150 ?_
                                                                                refine x_Vi (rest := []) C hW (c_X4_count l g h) km_X4_count oKeys rfl qm_L_167 ⟨rfl, rfl⟩ (by decide) rfl hl.1 rfl (Nat.le_of_ble_eq_true rfl) hcs dL_law_1151 (fun r243 u243 H locs h hW => ?_)
                                                                                refine lv_aload_n C.1 C.2.1 dL_law_1154 rfl (lv_at hl 2 rfl) ?_
                                                                                refine lv_aload_n C.1 C.2.1 dL_law_1155 rfl (lv_at hl 0 rfl) ?_
                                                                                refine lv_iload_n C.1 C.2.1 dL_law_1156 rfl (lv_at hl 3 rfl) ?_
                                                                                refine lv_iconst (v := 1) C.1 C.2.1 dL_law_1157 (by decide) ?_
                                                                                refine lv_iadd C.1 C.2.1 dL_law_1158 ?_
                                                                                obtain ⟨h244, h⟩ := h
                                                                                refine va_sld C.1 C.2.1 hX hbl hbA hW.2.2 h244 dL_law_1159 ?_
                                                                                refine x_Vi (rest := [.int r243]) C hW (c_X5_count l g h) km_X5_count oModel rfl qm_L_170 ⟨rfl, rfl⟩ (by decide) rfl hl.1 rfl (Nat.le_of_ble_eq_true rfl) hcs dL_law_1160 (fun r245 u245 H locs h hW => ?_)
                                                                                refine lv_icmp_eq (tgt := 1218) C.1 C.2.1 dL_law_1163 (by decide) (fun c246 => ?_) (fun c246 => ?_)
                                                                                · have h := h.1 c246
                                                                                  refine lv_iinc (v := (v3 + 6)) (lv' := [(3, .int (v3 + 6)), (0, .ref b), (1, .ref (gad g 0)), (2, .ref (gad g 39))]) C.1 C.2.1 dL_law_1218 hl (k := 3) rfl rfl (by decide) rfl (fun ls hl => ?_)
                                                                                  refine lv_goto (tgt := 18) C.1 C.2.1 dL_law_1221 (by decide) ?_
                                                                                  exact hK18 (v3 + 6) u245 _ _ _ h hW (lv_sub hl [1, 2, 3, 0] rfl)
                                                                                · have h := h.2 c246
                                                                                  refine lv_iconst (v := 0) C.1 C.2.1 dL_law_1166 (by decide) ?_
                                                                                  exact h.elim
                                                                              · skip
                                                                                by_cases c247 : ((xs (Int32.toNatClampNeg v3)) &&& 63) = 38
                                                                                · refine lv_tableIn (off := 1135) (tgt := 1168) C.1 C.2.1 dL_law_33 (by rw [c247]; decide +kernel) (by rw [c247]; decide +kernel) (by rw [c247]; decide +kernel) (by decide) ?_
                                                                                  have h := h.2.2.2.2.2.2.2.2.2.2.2.2.2.2.2.2.2.2.2.2.2.2.2.2.2.2.2.2.2.2.2.2.2.2.2.2.2.2.1 c247
                                                                                  refine lv_aload_n C.1 C.2.1 dL_law_1168 rfl (lv_at hl 1 rfl) ?_
                                                                                  refine x_Vi (rest := []) C hW (c_X4_finding l g h) km_X4_finding oKeys rfl qm_L_171 ⟨rfl, rfl⟩ (by decide) rfl hl.1 rfl (Nat.le_of_ble_eq_true rfl) hcs dL_law_1169 (fun r248 u248 H locs h hW => ?_)
                                                                                  refine lv_aload_n C.1 C.2.1 dL_law_1172 rfl (lv_at hl 2 rfl) ?_
                                                                                  refine x_Vi (rest := [.int r248]) C hW (c_X5_finding l g h) km_X5_finding oModel rfl qm_L_174 ⟨rfl, rfl⟩ (by decide) rfl hl.1 rfl (Nat.le_of_ble_eq_true rfl) hcs dL_law_1173 (fun r249 u249 H locs h hW => ?_)
                                                                                  refine lv_icmp_eq (tgt := 1218) C.1 C.2.1 dL_law_1176 (by decide) (fun c250 => ?_) (fun c250 => ?_)
                                                                                  · have h := h.1 c250
                                                                                    refine lv_iinc (v := (v3 + 6)) (lv' := [(3, .int (v3 + 6)), (0, .ref b), (1, .ref (gad g 0)), (2, .ref (gad g 39))]) C.1 C.2.1 dL_law_1218 hl (k := 3) rfl rfl (by decide) rfl (fun ls hl => ?_)
                                                                                    refine lv_goto (tgt := 18) C.1 C.2.1 dL_law_1221 (by decide) ?_
                                                                                    exact hK18 (v3 + 6) u249 _ _ _ h hW (lv_sub hl [1, 2, 3, 0] rfl)
                                                                                  · have h := h.2 c250
                                                                                    refine lv_iconst (v := 0) C.1 C.2.1 dL_law_1179 (by decide) ?_
                                                                                    exact h.elim
                                                                                · skip
                                                                                  by_cases c251 : ((xs (Int32.toNatClampNeg v3)) &&& 63) = 39
                                                                                  · refine lv_tableIn (off := 1148) (tgt := 1181) C.1 C.2.1 dL_law_33 (by rw [c251]; decide +kernel) (by rw [c251]; decide +kernel) (by rw [c251]; decide +kernel) (by decide) ?_
                                                                                    have h := h.2.2.2.2.2.2.2.2.2.2.2.2.2.2.2.2.2.2.2.2.2.2.2.2.2.2.2.2.2.2.2.2.2.2.2.2.2.2.2.1 c251
                                                                                    refine lv_aload_n C.1 C.2.1 dL_law_1181 rfl (lv_at hl 1 rfl) ?_
                                                                                    refine lv_aload_n C.1 C.2.1 dL_law_1182 rfl (lv_at hl 0 rfl) ?_
                                                                                    refine lv_iload_n C.1 C.2.1 dL_law_1183 rfl (lv_at hl 3 rfl) ?_
                                                                                    refine lv_iconst (v := 1) C.1 C.2.1 dL_law_1184 (by decide) ?_
                                                                                    refine lv_iadd C.1 C.2.1 dL_law_1185 ?_
                                                                                    obtain ⟨h252, h⟩ := h
                                                                                    refine va_sld C.1 C.2.1 hX hbl hbA hW.2.2 h252 dL_law_1186 ?_
                                                                                    refine x_Vi (rest := []) C hW (c_X4_findings l g h) km_X4_findings oKeys rfl qm_L_175 ⟨rfl, rfl⟩ (by decide) rfl hl.1 rfl (Nat.le_of_ble_eq_true rfl) hcs dL_law_1187 (fun r253 u253 H locs h hW => ?_)
                                                                                    refine lv_aload_n C.1 C.2.1 dL_law_1190 rfl (lv_at hl 2 rfl) ?_
                                                                                    refine lv_aload_n C.1 C.2.1 dL_law_1191 rfl (lv_at hl 0 rfl) ?_
                                                                                    refine lv_iload_n C.1 C.2.1 dL_law_1192 rfl (lv_at hl 3 rfl) ?_
                                                                                    refine lv_iconst (v := 1) C.1 C.2.1 dL_law_1193 (by decide) ?_
                                                                                    refine lv_iadd C.1 C.2.1 dL_law_1194 ?_
                                                                                    obtain ⟨h254, h⟩ := h
                                                                                    refine va_sld C.1 C.2.1 hX hbl hbA hW.2.2 h254 dL_law_1195 ?_
                                                                                    refine x_Vi (rest := [.int r253]) C hW (c_X5_findings l g h) km_X5_findings oModel rfl qm_L_178 ⟨rfl, rfl⟩ (by decide) rfl hl.1 rfl (Nat.le_of_ble_eq_true rfl) hcs dL_law_1196 (fun r255 u255 H locs h hW => ?_)
                                                                                    refine lv_icmp_eq (tgt := 1218) C.1 C.2.1 dL_law_1199 (by decide) (fun c256 => ?_) (fun c256 => ?_)
                                                                                    · have h := h.1 c256
                                                                                      refine lv_iinc (v := (v3 + 6)) (lv' := [(3, .int (v3 + 6)), (0, .ref b), (1, .ref (gad g 0)), (2, .ref (gad g 39))]) C.1 C.2.1 dL_law_1218 hl (k := 3) rfl rfl (by decide) rfl (fun ls hl => ?_)
                                                                                      refine lv_goto (tgt := 18) C.1 C.2.1 dL_law_1221 (by decide) ?_
                                                                                      exact hK18 (v3 + 6) u255 _ _ _ h hW (lv_sub hl [1, 2, 3, 0] rfl)
                                                                                    · have h := h.2 c256
                                                                                      refine lv_iconst (v := 0) C.1 C.2.1 dL_law_1202 (by decide) ?_
                                                                                      exact h.elim
                                                                                  · skip
                                                                                    by_cases c257 : ((xs (Int32.toNatClampNeg v3)) &&& 63) = 40
                                                                                    · refine lv_tableIn (off := 1171) (tgt := 1204) C.1 C.2.1 dL_law_33 (by rw [c257]; decide +kernel) (by rw [c257]; decide +kernel) (by rw [c257]; decide +kernel) (by decide) ?_
                                                                                      have h := h.2.2.2.2.2.2.2.2.2.2.2.2.2.2.2.2.2.2.2.2.2.2.2.2.2.2.2.2.2.2.2.2.2.2.2.2.2.2.2.2.1 c257
                                                                                      refine lv_aload_n C.1 C.2.1 dL_law_1204 rfl (lv_at hl 1 rfl) ?_
                                                                                      refine x_Vl (rest := []) C hW (c_X4_digest l g h) km_X4_digest oKeys rfl qm_L_179 ⟨rfl, rfl⟩ (by decide) rfl hl.1 rfl (Nat.le_of_ble_eq_true rfl) hcs dL_law_1205 (fun r258 u258 H locs h hW => ?_)
                                                                                      refine lv_aload_n C.1 C.2.1 dL_law_1208 rfl (lv_at hl 2 rfl) ?_
                                                                                      refine x_Vl (rest := [.long r258]) C hW (c_X5_digest l g h) km_X5_digest oModel rfl qm_L_182 ⟨rfl, rfl⟩ (by decide) rfl hl.1 rfl (Nat.le_of_ble_eq_true rfl) hcs dL_law_1209 (fun r259 u259 H locs h hW => ?_)
                                                                                      refine W.lcmp C.1 C.2.1 dL_law_1212 ?_
                                                                                      refine lv_if_eq (tgt := 1218) C.1 C.2.1 dL_law_1213 (by decide) (fun c260 => ?_) (fun c260 => ?_)
                                                                                      · have h := h.1 c260
                                                                                        refine lv_iinc (v := (v3 + 6)) (lv' := [(3, .int (v3 + 6)), (0, .ref b), (1, .ref (gad g 0)), (2, .ref (gad g 39))]) C.1 C.2.1 dL_law_1218 hl (k := 3) rfl rfl (by decide) rfl (fun ls hl => ?_)
                                                                                        refine lv_goto (tgt := 18) C.1 C.2.1 dL_law_1221 (by decide) ?_
                                                                                        exact hK18 (v3 + 6) u259 _ _ _ h hW (lv_sub hl [1, 2, 3, 0] rfl)
                                                                                      · have h := h.2 c260
                                                                                        refine lv_iconst (v := 0) C.1 C.2.1 dL_law_1216 (by decide) ?_
                                                                                        exact h.elim
                                                                                    · skip
                                                                                      have c261 : (((xs (Int32.toNatClampNeg v3)) &&& 63)).toInt < 0 ∨ 40 < (((xs (Int32.toNatClampNeg v3)) &&& 63)).toInt := by
                                                                                        have ec3 : (((xs (Int32.toNatClampNeg v3)) &&& 63)).toInt ≠ 0 := fun z => c3 (Int32.toInt_inj.mp (by rw [z]; rfl))
                                                                                        have ec11 : (((xs (Int32.toNatClampNeg v3)) &&& 63)).toInt ≠ 1 := fun z => c11 (Int32.toInt_inj.mp (by rw [z]; rfl))
                                                                                        have ec21 : (((xs (Int32.toNatClampNeg v3)) &&& 63)).toInt ≠ 2 := fun z => c21 (Int32.toInt_inj.mp (by rw [z]; rfl))
                                                                                        have ec29 : (((xs (Int32.toNatClampNeg v3)) &&& 63)).toInt ≠ 3 := fun z => c29 (Int32.toInt_inj.mp (by rw [z]; rfl))
                                                                                        have ec35 : (((xs (Int32.toNatClampNeg v3)) &&& 63)).toInt ≠ 4 := fun z => c35 (Int32.toInt_inj.mp (by rw [z]; rfl))
                                                                                        have ec49 : (((xs (Int32.toNatClampNeg v3)) &&& 63)).toInt ≠ 5 := fun z => c49 (Int32.toInt_inj.mp (by rw [z]; rfl))
                                                                                        have ec55 : (((xs (Int32.toNatClampNeg v3)) &&& 63)).toInt ≠ 6 := fun z => c55 (Int32.toInt_inj.mp (by rw [z]; rfl))
                                                                                        have ec63 : (((xs (Int32.toNatClampNeg v3)) &&& 63)).toInt ≠ 7 := fun z => c63 (Int32.toInt_inj.mp (by rw [z]; rfl))
                                                                                        have ec73 : (((xs (Int32.toNatClampNeg v3)) &&& 63)).toInt ≠ 8 := fun z => c73 (Int32.toInt_inj.mp (by rw [z]; rfl))
                                                                                        have ec79 : (((xs (Int32.toNatClampNeg v3)) &&& 63)).toInt ≠ 9 := fun z => c79 (Int32.toInt_inj.mp (by rw [z]; rfl))
                                                                                        have ec85 : (((xs (Int32.toNatClampNeg v3)) &&& 63)).toInt ≠ 10 := fun z => c85 (Int32.toInt_inj.mp (by rw [z]; rfl))
                                                                                        have ec93 : (((xs (Int32.toNatClampNeg v3)) &&& 63)).toInt ≠ 11 := fun z => c93 (Int32.toInt_inj.mp (by rw [z]; rfl))
                                                                                        have ec101 : (((xs (Int32.toNatClampNeg v3)) &&& 63)).toInt ≠ 12 := fun z => c101 (Int32.toInt_inj.mp (by rw [z]; rfl))
                                                                                        have ec107 : (((xs (Int32.toNatClampNeg v3)) &&& 63)).toInt ≠ 13 := fun z => c107 (Int32.toInt_inj.mp (by rw [z]; rfl))
                                                                                        have ec113 : (((xs (Int32.toNatClampNeg v3)) &&& 63)).toInt ≠ 14 := fun z => c113 (Int32.toInt_inj.mp (by rw [z]; rfl))
                                                                                        have ec117 : (((xs (Int32.toNatClampNeg v3)) &&& 63)).toInt ≠ 15 := fun z => c117 (Int32.toInt_inj.mp (by rw [z]; rfl))
                                                                                        have ec123 : (((xs (Int32.toNatClampNeg v3)) &&& 63)).toInt ≠ 16 := fun z => c123 (Int32.toInt_inj.mp (by rw [z]; rfl))
                                                                                        have ec129 : (((xs (Int32.toNatClampNeg v3)) &&& 63)).toInt ≠ 17 := fun z => c129 (Int32.toInt_inj.mp (by rw [z]; rfl))
                                                                                        have ec135 : (((xs (Int32.toNatClampNeg v3)) &&& 63)).toInt ≠ 18 := fun z => c135 (Int32.toInt_inj.mp (by rw [z]; rfl))
                                                                                        have ec141 : (((xs (Int32.toNatClampNeg v3)) &&& 63)).toInt ≠ 19 := fun z => c141 (Int32.toInt_inj.mp (by rw [z]; rfl))
                                                                                        have ec145 : (((xs (Int32.toNatClampNeg v3)) &&& 63)).toInt ≠ 20 := fun z => c145 (Int32.toInt_inj.mp (by rw [z]; rfl))
                                                                                        have ec149 : (((xs (Int32.toNatClampNeg v3)) &&& 63)).toInt ≠ 21 := fun z => c149 (Int32.toInt_inj.mp (by rw [z]; rfl))
                                                                                        have ec155 : (((xs (Int32.toNatClampNeg v3)) &&& 63)).toInt ≠ 22 := fun z => c155 (Int32.toInt_inj.mp (by rw [z]; rfl))
                                                                                        have ec161 : (((xs (Int32.toNatClampNeg v3)) &&& 63)).toInt ≠ 23 := fun z => c161 (Int32.toInt_inj.mp (by rw [z]; rfl))
                                                                                        have ec167 : (((xs (Int32.toNatClampNeg v3)) &&& 63)).toInt ≠ 24 := fun z => c167 (Int32.toInt_inj.mp (by rw [z]; rfl))
                                                                                        have ec171 : (((xs (Int32.toNatClampNeg v3)) &&& 63)).toInt ≠ 25 := fun z => c171 (Int32.toInt_inj.mp (by rw [z]; rfl))
                                                                                        have ec175 : (((xs (Int32.toNatClampNeg v3)) &&& 63)).toInt ≠ 26 := fun z => c175 (Int32.toInt_inj.mp (by rw [z]; rfl))
                                                                                        have ec179 : (((xs (Int32.toNatClampNeg v3)) &&& 63)).toInt ≠ 27 := fun z => c179 (Int32.toInt_inj.mp (by rw [z]; rfl))
                                                                                        have ec187 : (((xs (Int32.toNatClampNeg v3)) &&& 63)).toInt ≠ 28 := fun z => c187 (Int32.toInt_inj.mp (by rw [z]; rfl))
                                                                                        have ec195 : (((xs (Int32.toNatClampNeg v3)) &&& 63)).toInt ≠ 29 := fun z => c195 (Int32.toInt_inj.mp (by rw [z]; rfl))
                                                                                        have ec203 : (((xs (Int32.toNatClampNeg v3)) &&& 63)).toInt ≠ 30 := fun z => c203 (Int32.toInt_inj.mp (by rw [z]; rfl))
                                                                                        have ec209 : (((xs (Int32.toNatClampNeg v3)) &&& 63)).toInt ≠ 31 := fun z => c209 (Int32.toInt_inj.mp (by rw [z]; rfl))
                                                                                        have ec215 : (((xs (Int32.toNatClampNeg v3)) &&& 63)).toInt ≠ 32 := fun z => c215 (Int32.toInt_inj.mp (by rw [z]; rfl))
                                                                                        have ec221 : (((xs (Int32.toNatClampNeg v3)) &&& 63)).toInt ≠ 33 := fun z => c221 (Int32.toInt_inj.mp (by rw [z]; rfl))
                                                                                        have ec229 : (((xs (Int32.toNatClampNeg v3)) &&& 63)).toInt ≠ 34 := fun z => c229 (Int32.toInt_inj.mp (by rw [z]; rfl))
                                                                                        have ec233 : (((xs (Int32.toNatClampNeg v3)) &&& 63)).toInt ≠ 35 := fun z => c233 (Int32.toInt_inj.mp (by rw [z]; rfl))
                                                                                        have ec237 : (((xs (Int32.toNatClampNeg v3)) &&& 63)).toInt ≠ 36 := fun z => c237 (Int32.toInt_inj.mp (by rw [z]; rfl))
                                                                                        have ec241 : (((xs (Int32.toNatClampNeg v3)) &&& 63)).toInt ≠ 37 := fun z => c241 (Int32.toInt_inj.mp (by rw [z]; rfl))
                                                                                        have ec247 : (((xs (Int32.toNatClampNeg v3)) &&& 63)).toInt ≠ 38 := fun z => c247 (Int32.toInt_inj.mp (by rw [z]; rfl))
                                                                                        have ec251 : (((xs (Int32.toNatClampNeg v3)) &&& 63)).toInt ≠ 39 := fun z => c251 (Int32.toInt_inj.mp (by rw [z]; rfl))
                                                                                        have ec257 : (((xs (Int32.toNatClampNeg v3)) &&& 63)).toInt ≠ 40 := fun z => c257 (Int32.toInt_inj.mp (by rw [z]; rfl))
                                                                                        omega
                                                                                      refine lv_tableOut (tgt := 1218) C.1 C.2.1 dL_law_33 c261 (by decide) ?_
                                                                                      have h := h.2.2.2.2.2.2.2.2.2.2.2.2.2.2.2.2.2.2.2.2.2.2.2.2.2.2.2.2.2.2.2.2.2.2.2.2.2.2.2.2.2 c261
                                                                                      refine lv_iinc (v := (v3 + 6)) (lv' := [(3, .int (v3 + 6)), (0, .ref b), (1, .ref (gad g 0)), (2, .ref (gad g 39))]) C.1 C.2.1 dL_law_1218 hl (k := 3) rfl rfl (by decide) rfl (fun ls hl => ?_)
                                                                                      refine lv_goto (tgt := 18) C.1 C.2.1 dL_law_1221 (by decide) ?_
                                                                                      exact hK18 (v3 + 6) u _ _ _ h hW (lv_sub hl [1, 2, 3, 0] rfl)
theorem k_L_law_L18 {p : Program} {l : Launch} {e : Env} {s : State} {m : MethodId} {below : List Frame} {meth : Method} {c : Code} {g : GG} {A : Nat → Prop} {b : Nat} {L : Nat} {xs : Nat → Int32} {Q : Int32 → St → Prop} {cells slots : Nat} (C : MC p s m #[Value.ref b] meth c cL_law 4 RL ret g A) (hX : va_X b L xs s s.heap) (hbl : b < s.heap.size) (hbA : ¬ A b) (hAs : ∀ q, A q → s.heap.size ≤ q) (hcs : cells ≤ room_1.cells ∧ slots ≤ room_1.slots) : ∀ (n : Nat), ∀ (v3 : Int32) (u : St) (H : Heap) (locs : List Loc) (ls : Array Slot), wp_L_law_L18 L xs Q n v3 u → WD g A s u H locs → lv_has ls 4 [(0, .ref b), (1, .ref (gad g 0)), (2, .ref (gad g 39)), (3, .int v3)] → W p l e room_1 s m #[Value.ref b] below meth c H locs cells slots (lw_Z below #[Value.ref b] s) (F0 m 18 ls []) := by
  intro n
  induction n with
  | zero => intro v3 u H locs ls h; exact False.elim h
  | succ n ih => exact k_L_law_B18 (Q := Q) C hX hbl hbA hAs hcs ih
