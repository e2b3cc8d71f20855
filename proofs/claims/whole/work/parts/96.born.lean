/-! MACHINE: what comes into being: rows for constructors; a world is a list that grows at its end -/
def AY (g : GG) (U : State) : Prop := ∃ (kA kI : Class) (cc : ClassId), U.vm.classes[gcy g 2]? = some kA ∧ kA.kind = .array (gcy g 0) (.array .int) ∧ U.vm.classes[gcy g 0]? = some kI ∧ kI.kind = .array cc .int
theorem AY.moved {g : GG} {u U : State} (hvm : u.vm.Alike U.vm) (h : AY g u) : AY g U := by
  obtain ⟨kA, kI, cc, h1, h2, h3, h4⟩ := h
  obtain ⟨kA', a1, a2⟩ := hvm.2.2 _ _ h1
  obtain ⟨kI', b1, b2⟩ := hvm.2.2 _ _ h3
  exact ⟨kA', kI', cc, a1, by rw [a2]; exact h2, b1, by rw [b2]; exact h4⟩
def NC (p : Program) (s : State) (m : MethodId) (args : Array Value) (meth : Method) (c : Code) (cc : ByteArray) (nL : Nat) (own : String) (g : GG) (A : Nat → Prop) : Prop :=
  p.tables.exec = Jvm.exec ∧ c.code = cc ∧ c.maxLocals = nL ∧ s.vm.findClass own = some m.cls ∧ (∀ w ∈ BIG, w.before args s = true) ∧ KX g s ∧ NX s ∧ AY g s ∧ ∀ q, s.heap.size ≤ q → A q
def ND (g : GG) (A : Nat → Prop) (s : State) (ws : va_W) (H : Heap) (locs : List Loc) : Prop := va_P g.1 vwCl ws H ∧ va_D A ws ∧ va_S A s.heap H locs
def CD (ci : Nat) (Cn : String) (Tt : u_T) (N : Nat) (ty0 : Nat → FieldType) : Prop := vwCl[ci]? = some (Cn, Tt, N) ∧ (∀ w ∈ u_ws Cn Tt N, w ∈ BIG) ∧ (∀ k, k < N → parseFieldDescriptor (Tt k).2.2.1 = some (ty0 k)) ∧ ∀ a, a < N → ∀ b, b < N → a ≠ b → (Tt a).2.1 ≠ (Tt b).2.1
theorem cd0 : CD 0 RX0 TX0 5 tyX0 := ⟨rfl, inB_X0, tyX0_ok, nmX0⟩
theorem cd1 : CD 1 RX1 TX1 4 tyX1 := ⟨rfl, inB_X1, tyX1_ok, nmX1⟩
theorem cd2 : CD 2 RX2 TX2 4 tyX2 := ⟨rfl, inB_X2, tyX2_ok, nmX2⟩
theorem cd3 : CD 3 RX3 TX3 9 tyX3 := ⟨rfl, inB_X3, tyX3_ok, nmX3⟩
theorem cd4 : CD 4 RX4 TX4 15 tyX4 := ⟨rfl, inB_X4, tyX4_ok, nmX4⟩
theorem cd5 : CD 5 RX5 TX5 27 tyX5 := ⟨rfl, inB_X5, tyX5_ok, nmX5⟩
def PN (g : GG) (av : List Value) (ws : va_W) (sz : Nat) : Array Value → State → Prop := va_Pc av (fun U => U.heap.size = sz ∧ va_P g.1 vwCl ws U.heap ∧ KX g U ∧ va_D (fun _ => True) ws ∧ NX U ∧ AY g U)
theorem PN_blind {g : GG} {av : List Value} {ws : va_W} {sz : Nat} : FrameBlind (PN g av ws sz) := fun a U g' mk q => by
  obtain ⟨q0, q1, qP, qK, qD, qN, qA⟩ := q
  exact ⟨q0, q1, qP, va_K.moved (u := U) (U := U.calling g' mk a) (Vm.Alike.refl U.vm) qK, qD, NX.same (s := U) (U := U.calling g' mk a) rfl qN, AY.moved (u := U) (U := U.calling g' mk a) (Vm.Alike.refl U.vm) qA⟩
/-- a constructor, or a void method over a small world: the cells ws become those of which Q speaks -/
def QN (g : GG) (Q : va_W → Prop) (A : Nat → Prop) : Array Value → State → Outcome → State → Prop := va_Qv Q (fun w t => va_P g.1 vwCl w t.heap ∧ va_D A w) A
def CN (l : Launch) (y : MethodName) (cc : ByteArray) (nL : Nat) (rm : Room) (g : GG) (av : List Value) (ws : va_W) (mc ms : Nat) (Q : va_W → Prop) : Prop := ∀ sz, Met l y (.code y cc nL none :: BIG) rm (PN g av ws sz) (QN g Q (va_A ws sz)) mc ms (va_A ws sz)
theorem n_ent {l : Launch} {y : MethodName} {cc : ByteArray} {nL : Nat} {rm : Room} {g : GG} {av : List Value} {ws : va_W} {mc ms : Nat} {Q : va_W → Prop} {own : String} (hy : plainName y.cls = true) (ho : y.cls = own) (hlen : (lg_sl av).length ≤ nL)
    (body : ∀ (p : Program) (e : Env) (s : State) (m : MethodId) (below : List Frame) (meth : Method) (c : Code) (A : Nat → Prop) (ls : Array Slot), NC p s m av.toArray meth c cc nL own g A → meth.sig.returnType = none → meth.locks = false → meth.name = y.name → lv_has ls nL (lv_args 0 av) → ND g A s ws s.heap [] → W p l e rm s m av.toArray below meth c s.heap [] 0 0 (MQ below (QN g Q A) av.toArray s mc ms A) (F0 m 0 ls [])) : CN l y cc nL rm g av ws mc ms Q := by
  intro sz
  refine Met.ofW (cc := cc) (maxL := nL) (ret := none) hy rfl ?_
  intro p e s m args below meth c s₁ B hml hv
  obtain ⟨rfl, hsz, hP, hK, hD, hN, hY⟩ := hv
  subst hsz
  have hts := atoms_spec (ws := Cond.code y cc nL none :: BIG) B.pre
  have hown : s.vm.findClass own = some m.cls := ho ▸ findClass_of_methodNamed B.named
  rw [lg_entry_eq]
  exact body p e s m below meth c (va_A ws s.heap.size) _ ⟨B.exec, B.bytes, hml, hown, fun w h => hts w (List.mem_cons_of_mem _ h), hK, hN, hY, fun q h => Or.inr h⟩ B.returns B.notSynchronized (name_of_methodNamed B.named B.method).1 (lv_entry av hlen) ⟨hP, hD.self, va_S.rf⟩
/-- numbers in a row are apart -/
theorem n_nd (n : Nat) : ∀ i : Nat, va_nd (List.range' i n) = true := by
  induction n with
  | zero => intro i; rfl
  | succ n ih =>
    intro i
    rw [List.range'_succ, va_nd, ih (i + 1)]
    simp
/-- a stretch of a list, by its places -/
theorem n_pick (a b c : va_W) : (List.range' a.length b.length).map (fun i => (a ++ b ++ c)[i]?) = b.map some := by
  refine List.ext_getElem (by simp) (fun k h1 h2 => ?_)
  have hk : k < b.length := by simpa using h2
  simp [List.getElem?_append, hk]
/-- behind a call: the cells of the call have become others, the rest stays -/
theorem n_join {A : Nat → Prop} {D : va_G} {cl : List vw_C} {X wc w1 : va_W} {H H1 : Heap} (hP : va_P D cl (X ++ wc) H) (hD : va_D A (X ++ wc)) (hk : ∀ q : Nat, q < H.size → ¬ va_A wc H.size q → H1[q]? = H[q]?) (hF : ∀ q, va_A wc H.size q → A q) (hP1 : va_P D cl w1 H1) (hD1 : va_D (va_A wc H.size) w1) : va_P D cl (X ++ w1) H1 ∧ va_D A (X ++ w1) := by
  have hC := n_pick X wc []
  rw [List.append_nil] at hC
  refine va_join hP hD (List.range' X.length wc.length) (List.range' 0 X.length) hC (n_pick [] X wc) (n_nd _ _) (fun i hi hj => ?_) hk hF hP1 hD1
  have := List.mem_range'_1.mp hi
  have := List.mem_range'_1.mp hj
  omega
theorem n_free {A : Nat → Prop} {X wc : va_W} {s : State} {H : Heap} {locs : List Loc} (hD : va_D A (X ++ wc)) (hS : va_S A s.heap H locs) (hA : ∀ q, s.heap.size ≤ q → A q) : ∀ q, va_A wc H.size q → A q := fun q h => by
  rcases h with ⟨k, e, h⟩ | h
  · exact hD.2 (X.length + k) (q, e) (by rw [List.getElem?_append_right (by omega), show X.length + k - X.length = k by omega]; exact h)
  · exact hA q (Nat.le_trans hS.1 h)
theorem n_right {D : va_G} {cl : List vw_C} {X wc : va_W} {H : Heap} (hP : va_P D cl (X ++ wc) H) : va_P D cl wc H := fun k q hk => hP (X.length + k) q (by rw [List.getElem?_append_right (by omega), show X.length + k - X.length = k by omega]; exact hk)
theorem n_rightD {A : Nat → Prop} {X wc : va_W} (hD : va_D A (X ++ wc)) : va_D (fun _ => True) wc := ⟨fun i j a b ha hb hab => by
  have := hD.1 (X.length + i) (X.length + j) a b (by rw [List.getElem?_append_right (by omega), show X.length + i - X.length = i by omega]; exact ha) (by rw [List.getElem?_append_right (by omega), show X.length + j - X.length = j by omega]; exact hb) hab
  omega, fun _ _ _ => trivial⟩
section NR
variable {p : Program} {l : Launch} {e : Env} {R : Room} {s : State} {m : MethodId} {args : Array Value} {below : List Frame} {meth : Method} {c : Code} {H : Heap} {locs : List Loc} {cells slots : Nat} {Q : State → Prop}
variable {cc : ByteArray} {nL pc : Nat} {ls : Array Slot} {rest : List Value} {own : String} {g : GG} {A : Nat → Prop} {ws : va_W}
theorem n_newi (C : NC p s m args meth c cc nL own g A) (hW : ND g A s ws H locs) {n : Int32} (N : Nat) (hn : n = nI N) (hN : N ≤ 100000) (hcs : cells + 1 ≤ R.cells ∧ slots + N ≤ R.slots) (hdg : decode cc pc = .ok (.newarray .int, 2))
    (kk : ∀ (q : Nat) (H1 : Heap), ND g A s (ws ++ [(q, .inl (gcy g 0, N, .inl (fun _ => 0)))]) H1 locs → W p l e R s m args below meth c H1 locs (cells + 1) (slots + N) Q (F0 m (pc + 2) ls (.ref q :: rest))) : W p l e R s m args below meth c H locs cells slots Q (F0 m pc ls (.int n :: rest)) := by
  subst hn
  refine va_newa (atype := .int) (ty := .int) (a0 := (N, .inl (fun _ => 0))) C.1 C.2.1 (C.2.2.2.2.1 _ qar_int) rfl C.2.2.2.2.2.1 hW.1 hW.2.1 hW.2.2 C.2.2.2.2.2.2.2.2 (fun cA => rfl) (nI_pos (by omega)) (tNn (by omega)) (by show N * 4 ≤ _; omega) hcs.1 hcs.2 hdg (fun q cA H1 hK hP hD hS => ?_)
  have e : cA = gcy g 0 := Option.some.inj ((show s.vm.findClass ("[" ++ (FieldType.int).toString) = some cA from (hK.2 3 _ rfl).2).symm.trans (C.2.2.2.2.2.1.2 0 _ rfl).2)
  subst e
  exact kk q H1 ⟨hP, hD, hS⟩
theorem n_newb (C : NC p s m args meth c cc nL own g A) (hW : ND g A s ws H locs) {n : Int32} (N : Nat) (hn : n = nI N) (hN : N ≤ 100000) (hcs : cells + 1 ≤ R.cells ∧ slots + N ≤ R.slots) (hdg : decode cc pc = .ok (.newarray .byte, 2))
    (kk : ∀ (q : Nat) (H1 : Heap), ND g A s (ws ++ [(q, .inl (gcy g 1, N, .inl (fun _ => 0)))]) H1 locs → W p l e R s m args below meth c H1 locs (cells + 1) (slots + N) Q (F0 m (pc + 2) ls (.ref q :: rest))) : W p l e R s m args below meth c H locs cells slots Q (F0 m pc ls (.int n :: rest)) := by
  subst hn
  refine va_newa (atype := .byte) (ty := .byte) (a0 := (N, .inl (fun _ => 0))) C.1 C.2.1 (C.2.2.2.2.1 _ qar_byte) rfl C.2.2.2.2.2.1 hW.1 hW.2.1 hW.2.2 C.2.2.2.2.2.2.2.2 (fun cA => rfl) (nI_pos (by omega)) (tNn (by omega)) (by show N * 1 ≤ _; omega) hcs.1 hcs.2 hdg (fun q cA H1 hK hP hD hS => ?_)
  have e : cA = gcy g 1 := Option.some.inj ((show s.vm.findClass ("[" ++ (FieldType.byte).toString) = some cA from (hK.2 3 _ rfl).2).symm.trans (C.2.2.2.2.2.1.2 1 _ rfl).2)
  subst e
  exact kk q H1 ⟨hP, hD, hS⟩
theorem n_putF {h ci N index : Nat} {fs : List Value} {Rw : va_W} {Tt : u_T} {ty0 : Nat → FieldType} (C : NC p s m args meth c cc nL own g A) (hin : meth.name = "<init>") (hW : ND g A s ((h, .inr (ci, fs)) :: Rw) H locs) (k : CD ci own Tt N ty0) (f : Nat) {v : Value} (hf : f < N) (hr : (Tt f).1 = own) (hfin : (Tt f).2.2.2 = true) (hn : narrow (ty0 f) v = v) (hfit : fits (ty0 f) v = true) (hl : f < fs.length) (hlink : Cond.fieldLink own index own (Tt f).2.1 (Tt f).2.2.1 ∈ BIG) (hdg : decode cc pc = .ok (.putfield index, 3))
    (kk : ∀ (H1 : Heap) (locs1 : List Loc), ND g A s ((h, .inr (ci, fs.set f v)) :: Rw) H1 locs1 → W p l e R s m args below meth c H1 locs1 cells slots Q (F0 m (pc + 3) ls rest)) : W p l e R s m args below meth c H locs cells slots Q (F0 m pc ls (v :: .ref h :: rest)) :=
  va_putF (v := v) (ty := ty0 f) (ref := own) C.1 C.2.1 C.2.2.2.2.1 k.2.1 ty0 k.2.2.1 k.2.2.2 C.2.2.2.1 C.2.2.2.2.2.1 hW.1 hW.2.1 hW.2.2 0 rfl k.1 f hf (C.2.2.2.2.1 _ hlink) (fun _ h9 => hr ▸ h9) hfin hin hr (k.2.2.1 f hf) hn hfit hl hdg (fun H1 locs1 hP hD hS => kk H1 locs1 ⟨hP, hD, hS⟩)
theorem n_put {h ci N index : Nat} {fs : List Value} {Rw : va_W} {Tt : u_T} {ty0 : Nat → FieldType} (C : NC p s m args meth c cc nL own g A) (hW : ND g A s ((h, .inr (ci, fs)) :: Rw) H locs) (k : CD ci own Tt N ty0) (f : Nat) {v : Value} (hf : f < N) (hr : (Tt f).1 = own) (hfin : (Tt f).2.2.2 = false) (hn : narrow (ty0 f) v = v) (hfit : fits (ty0 f) v = true) (hl : f < fs.length) (hlink : Cond.fieldLink own index own (Tt f).2.1 (Tt f).2.2.1 ∈ BIG) (hdg : decode cc pc = .ok (.putfield index, 3))
    (kk : ∀ (H1 : Heap) (locs1 : List Loc), ND g A s ((h, .inr (ci, fs.set f v)) :: Rw) H1 locs1 → W p l e R s m args below meth c H1 locs1 cells slots Q (F0 m (pc + 3) ls rest)) : W p l e R s m args below meth c H locs cells slots Q (F0 m pc ls (v :: .ref h :: rest)) :=
  va_put (v := v) (ty := ty0 f) (ref := own) C.1 C.2.1 C.2.2.2.2.1 k.2.1 ty0 k.2.2.1 k.2.2.2 C.2.2.2.1 C.2.2.2.2.2.1 hW.1 hW.2.1 hW.2.2 0 rfl k.1 f hf (C.2.2.2.2.1 _ hlink) (fun _ h9 => hr ▸ h9) hfin (k.2.2.1 f hf) hn hfit hl hdg (fun H1 locs1 hP hD hS => kk H1 locs1 ⟨hP, hD, hS⟩)
theorem n_get {h ci N index : Nat} {fs : List Value} {Rw : va_W} {Tt : u_T} {ty0 : Nat → FieldType} (C : NC p s m args meth c cc nL own g A) (hW : ND g A s ((h, .inr (ci, fs)) :: Rw) H locs) (k : CD ci own Tt N ty0) (f : Nat) {v : Value} (hf : f < N) (hr : (Tt f).1 = own) (hv : fs[f]? = some v) (hlink : Cond.fieldLink own index own (Tt f).2.1 (Tt f).2.2.1 ∈ BIG) (hdg : decode cc pc = .ok (.getfield index, 3))
    (kk : W p l e R s m args below meth c H locs cells slots Q (F0 m (pc + 3) ls (v :: rest))) : W p l e R s m args below meth c H locs cells slots Q (F0 m pc ls (.ref h :: rest)) :=
  va_get (v := v) (ref := own) C.1 C.2.1 C.2.2.2.2.1 k.2.1 C.2.2.2.1 C.2.2.2.2.2.1 hW.1 0 rfl k.1 f hf (C.2.2.2.2.1 _ hlink) (fun _ h9 => hr ▸ h9) hv hdg kk
theorem n_iast (C : NC p s m args meth c cc nL own g A) (hW : ND g A s ws H locs) (q0 : Nat) {a N : Nat} {f : Nat → Int32} (ha : ws[q0]? = some (a, .inl (gcy g 0, N, .inl f))) {i x : Int32} (hin : vp_in i N) (hdg : decode cc pc = .ok (.iastore, 1))
    (kk : ∀ (H1 : Heap) (locs1 : List Loc), ND g A s (ws.set q0 (a, .inl (gcy g 0, N, .inl (upd f i.toNatClampNeg x)))) H1 locs1 → W p l e R s m args below meth c H1 locs1 cells slots Q (F0 m (pc + 1) ls rest)) : W p l e R s m args below meth c H locs cells slots Q (F0 m pc ls (.int x :: .int i :: .ref a :: rest)) :=
  va_iast (f := f) C.1 C.2.1 C.2.2.2.2.2.1 hW.1 hW.2.1 hW.2.2 q0 0 ha rfl hin hdg (fun H1 locs1 hP hD hS => kk H1 locs1 ⟨hP, hD, hS⟩)
theorem n_new {cj N index : Nat} {Cn : String} {Tt : u_T} {ty0 : Nat → FieldType} (C : NC p s m args meth c cc nL own g A) (hW : ND g A s ws H locs) (k : CD cj Cn Tt N ty0) (fs : List Value) (hlink : Cond.classLink own index Cn ∈ BIG) (hinst : Cond.instantiable Cn N ∈ BIG) (hini : Cond.initialized Cn ∈ BIG) (hfs : ∀ j, j < N → defaultValue (ty0 j) = vp_V fs j) (hcs : cells + 1 ≤ R.cells ∧ slots + N ≤ R.slots) (hdg : decode cc pc = .ok (.new index, 3))
    (kk : ∀ (q : Nat) (H1 : Heap), ND g A s (ws ++ [(q, .inr (cj, fs))]) H1 locs → W p l e R s m args below meth c H1 locs (cells + 1) (slots + N) Q (F0 m (pc + 3) ls (.ref q :: rest))) : W p l e R s m args below meth c H locs cells slots Q (F0 m pc ls rest) :=
  va_new (ci := cj) (fs := fs) C.1 C.2.1 C.2.2.2.2.1 k.2.1 ty0 k.2.2.1 C.2.2.2.1 (C.2.2.2.2.1 _ hlink) (C.2.2.2.2.1 _ hinst) (C.2.2.2.2.1 _ hini) C.2.2.2.2.2.1 hW.1 hW.2.1 hW.2.2 C.2.2.2.2.2.2.2.2 k.1 hfs hcs.1 hcs.2 hdg (fun q H1 hP hD hS => kk q H1 ⟨hP, hD, hS⟩)
theorem n_obj {h index : Nat} (C : NC p s m args meth c cc nL own g A) (hls : ls.size = nL) (hlink : Cond.methodLink own index Lib.objectInit ∈ BIG) (hfr : 1 ≤ R.frames ∧ 12 ≤ R.locals) (hdg : decode cc pc = .ok (.invokespecial index, 3)) (kk : W p l e R s m args below meth c H locs cells slots Q (F0 m (pc + 3) ls [])) : W p l e R s m args below meth c H locs cells slots Q (F0 m pc ls [.ref h]) :=
  W.objInit C.1 C.2.1 C.2.2.2.1 (C.2.2.2.2.1 _ hlink) (C.2.2.2.2.1 _ qy_objectInit) (C.2.2.2.2.1 _ qc_objectInit) rfl (hls.trans C.2.2.1.symm) rfl hdg hfr.1 hfr.2 kk
theorem n_ret {Qp : va_W → Prop} (C : NC p s m args meth c cc nL own g A) (hret : meth.sig.returnType = none) (hlk : meth.locks = false) (hW : ND g A s ws H locs) (h : Qp ws) (hdg : decode cc pc = .ok (.return_, 1)) : W p l e R s m args below meth c H locs cells slots (MQ below (QN g Qp A) args s cells slots A) (F0 m pc ls []) :=
  W.vret (hlocks := hlk) C.1 C.2.1 hret (fun t ht hWm => ⟨⟨ws, rfl, h, ⟨by rw [ht]; exact hW.1, hW.2.1⟩⟩, hW.2.2.F ht⟩) hW.2.2.2.2 hdg
end NR
