/-! THE WORLD: one memory of numbered cells (class: 0 .. 38, reference: 39 .. 60); a state is what they hold -/
abbrev St : Type := (Nat → Nat → Int32) × (Nat → Nat → Int64)
def gi (u : St) (k i : Nat) : Int32 := u.1 k i
def gl (u : St) (k i : Nat) : Int64 := u.2 k i
def si (u : St) (k i : Nat) (v : Int32) : St := (fun a => if a = k then upd (u.1 a) i v else u.1 a, u.2)
def sl (u : St) (k i : Nat) (v : Int64) : St := (u.1, fun a => if a = k then vp_updL (u.2 a) i v else u.2 a)
def sc (u : St) (k sp dp n : Nat) : St := (fun a => if a = k then va_cpy (u.1 a) (u.1 a) sp dp n else u.1 a, u.2)
/-- a value is named -/
def nxt {α : Type} (x : α) (K : α → Prop) : Prop := K x
theorem nxt_get {α : Type} {x y : α} {K : α → Prop} (h : nxt x K) (e : y = x) : K y := e ▸ h
abbrev CS : Type := (Nat × Nat × Nat) ⊕ (Nat × List (Option Nat × Nat))
abbrev GG : Type := va_G × (Nat → Nat) × (Nat → ClassId) × (Nat → Nat)
def gad (g : GG) (k : Nat) : Nat := g.2.1 k
def gcy (g : GG) (k : Nat) : ClassId := g.2.2.1 k
def gst (g : GG) (k : Nat) : Nat := g.2.2.2 k
def wv (g : GG) (u : St) (k f : Nat) (s : Option Nat × Nat) : Value := match s with
  | (some j, _) => .ref (gad g j)
  | (none, 0) => .int (gi u k f)
  | (none, _ + 1) => .long (gl u k f)
def wc (g : GG) (u : St) (k : Nat) (s : CS) : va_E := match s with
  | .inl (0, n, _) => .inl (gcy g 0, n, .inl (u.1 k))
  | .inl (1, n, _) => .inl (gcy g 1, n, .inl (u.1 k))
  | .inl (_ + 2, n, b) => .inl (gcy g 2, n, .inr (.inr (.inr (.inr (fun i => if i < n then some (gad g (b + i)) else none)))))
  | .inr (ci, fs) => .inr (ci, fs.mapIdx (fun f s => wv g u k f s))
abbrev fI : Option Nat × Nat := (none, 0)
abbrev fL : Option Nat × Nat := (none, 1)
abbrev fR (j : Nat) : Option Nat × Nat := (some j, 0)
abbrev cA (n : Nat) : CS := .inl (0, n, 0)
abbrev cShelf (b : Nat) : CS := .inr (2, [fI, fI, fR (b + 1), fR (b + 2)])
abbrev cLayout (b : Nat) : CS := .inr (0, [fR (b + 1), fR (b + 2), fR (b + 3), fR (b + 4), fI])
abbrev cMoment (b : Nat) : CS := .inr (1, [fR (b + 1), fI, fI, fI])
abbrev cWires : CS := .inr (3, [fR 25, fR 26, fR 27, fR 28, fR 29, fI, fI, fI, fI])
abbrev cKeys : CS := .inr (4, [fR 1, fR 4, fR 7, fR 10, fR 15, fR 20, fR 22, fR 24, fR 30, fR 31, fR 38, fI, fI, fL, fL])
abbrev cModel : CS := .inr (5, [fI, fR 40, fI, fL, fL, fR 41, fR 42, fR 43, fR 44, fR 45, fI, fR 46, fR 47, fR 48, fR 49, fR 50, fI, fR 51, fR 52, fR 53, fR 54, fR 55, fR 56, fR 57, fR 58, fR 59, fR 60])
def cfg : List CS := [cKeys, cShelf 1, cA 6, cA 240, cShelf 4, cA 4, cA 240, cShelf 7, cA 4, cA 160, cLayout 10, cA 7, cA 7, cA 7, cA 7, cLayout 15, cA 7, cA 7, cA 7, cA 7, cMoment 20, cA 7, cMoment 22, cA 7, cWires, cA 7, cA 7, cA 4, cA 4, cA 4, cA 128, .inl (2, 6, 32), cA 128, cA 128, cA 128, cA 128, cA 128, cA 128, cA 6, cModel, cA 6, cA 6, cA 240, cA 4, .inl (1, 240, 0), cA 40, cA 14, cA 14, cA 14, cA 14, cA 410, cA 1230, cA 3, cA 10, cA 7, cA 7, cA 7, cA 4, cA 21, cA 6, cA 128]
def wsC (g : GG) (u : St) : va_W := cfg.mapIdx (fun k s => (gad g k, wc g u k s))
theorem cfg_len : cfg.length = 61 := rfl
theorem cfg_lt {k : Nat} {s : CS} (h : cfg[k]? = some s) : k < 61 := (List.getElem?_eq_some_iff.mp h).1
theorem cfg_has {k : Nat} (h : k < 61) : ∃ s, cfg[k]? = some s := ⟨cfg[k]'h, List.getElem?_eq_getElem h⟩
theorem wsC_get {g : GG} {u : St} {k : Nat} {s : CS} (h : cfg[k]? = some s) : (wsC g u)[k]? = some (gad g k, wc g u k s) := by
  unfold wsC
  rw [List.getElem?_mapIdx, h]
  rfl
theorem wsC_inv {g : GG} {u : St} {k : Nat} {q : Nat × va_E} (h : (wsC g u)[k]? = some q) : ∃ s, cfg[k]? = some s ∧ q = (gad g k, wc g u k s) := by
  unfold wsC at h
  rw [List.getElem?_mapIdx] at h
  cases hc : cfg[k]? with
  | none => rw [hc] at h; cases h
  | some s => rw [hc] at h; exact ⟨s, rfl, (Option.some.inj h).symm⟩
theorem wc_congr {g : GG} {u u' : St} {j : Nat} (h1 : u.1 j = u'.1 j) (h2 : u.2 j = u'.2 j) (s : CS) : wc g u j s = wc g u' j s := by
  match s with
  | .inl (0, n, _) => simp only [wc, h1]
  | .inl (1, n, _) => simp only [wc, h1]
  | .inl (_ + 2, n, b) => rfl
  | .inr (ci, fs) =>
    have e : (fun f s => wv g u j f s) = (fun f s => wv g u' j f s) := by
      funext f s
      match s with
      | (some j, _) => rfl
      | (none, 0) => simp only [wv, gi, h1]
      | (none, _ + 1) => simp only [wv, gl, h2]
    simp only [wc]
    rw [e]
theorem wsC_ext {g : GG} {u u' : St} {k : Nat} {s : CS} {x : Nat × va_E} (h : cfg[k]? = some s) (hx : x = (gad g k, wc g u' k s)) (h1 : ∀ j, j ≠ k → u.1 j = u'.1 j) (h2 : ∀ j, j ≠ k → u.2 j = u'.2 j) : (wsC g u).set k x = wsC g u' := by
  apply List.ext_getElem?
  intro j
  by_cases e : j = k
  · subst e
    have hl : j < (wsC g u).length := (List.getElem?_eq_some_iff.mp (wsC_get (g := g) (u := u) h)).1
    rw [List.getElem?_set_self hl, wsC_get h, hx]
  · rw [List.getElem?_set_ne (Ne.symm e)]
    cases hj : cfg[j]? with
    | none =>
      unfold wsC
      rw [List.getElem?_mapIdx, List.getElem?_mapIdx, hj]
      rfl
    | some s2 => rw [wsC_get hj, wsC_get hj, wc_congr (h1 j e) (h2 j e)]
theorem si_same {u : St} {k i : Nat} {v : Int32} : (si u k i v).1 k = upd (u.1 k) i v := if_pos rfl
theorem si_ne {u : St} {k i j : Nat} {v : Int32} (h : j ≠ k) : (si u k i v).1 j = u.1 j := if_neg h
theorem sc_same {u : St} {k sp dp n : Nat} : (sc u k sp dp n).1 k = va_cpy (u.1 k) (u.1 k) sp dp n := if_pos rfl
theorem sc_ne {u : St} {k sp dp n j : Nat} (h : j ≠ k) : (sc u k sp dp n).1 j = u.1 j := if_neg h
theorem sl_same {u : St} {k i : Nat} {v : Int64} : (sl u k i v).2 k = vp_updL (u.2 k) i v := if_pos rfl
theorem sl_ne {u : St} {k i j : Nat} {v : Int64} (h : j ≠ k) : (sl u k i v).2 j = u.2 j := if_neg h
theorem set_arr {g : GG} {u : St} {k n b i : Nat} {v : Int32} (h : cfg[k]? = some (.inl (0, n, b))) : (wsC g u).set k (gad g k, .inl (gcy g 0, n, .inl (upd (u.1 k) i v))) = wsC g (si u k i v) :=
  wsC_ext h (by simp only [wc, si_same]) (fun j hj => (si_ne hj).symm) (fun _ _ => rfl)
theorem set_byt {g : GG} {u : St} {k n b i : Nat} {v : Int32} (h : cfg[k]? = some (.inl (1, n, b))) : (wsC g u).set k (gad g k, .inl (gcy g 1, n, .inl (upd (u.1 k) i v))) = wsC g (si u k i v) :=
  wsC_ext h (by simp only [wc, si_same]) (fun j hj => (si_ne hj).symm) (fun _ _ => rfl)
theorem set_cpy {g : GG} {u : St} {k n b sp dp c : Nat} (h : cfg[k]? = some (.inl (0, n, b))) : (wsC g u).set k (gad g k, .inl (gcy g 0, n, .inl (va_cpy (u.1 k) (u.1 k) sp dp c))) = wsC g (sc u k sp dp c) :=
  wsC_ext h (by simp only [wc, sc_same]) (fun j hj => (sc_ne hj).symm) (fun _ _ => rfl)
theorem set_fI {g : GG} {u : St} {k ci f : Nat} {fs : List (Option Nat × Nat)} {v : Int32} (h : cfg[k]? = some (.inr (ci, fs))) (hf : fs[f]? = some (none, 0)) : (wsC g u).set k (gad g k, .inr (ci, (fs.mapIdx (fun f s => wv g u k f s)).set f (.int v))) = wsC g (si u k f v) := by
  refine wsC_ext h ?_ (fun j hj => (si_ne hj).symm) (fun _ _ => rfl)
  simp only [wc]
  congr 3
  apply List.ext_getElem?
  intro j
  by_cases e : j = f
  · subst e
    have hl : j < fs.length := (List.getElem?_eq_some_iff.mp hf).1
    rw [List.getElem?_set_self (by rw [List.length_mapIdx]; exact hl), List.getElem?_mapIdx, hf]
    simp only [Option.map_some, wv, gi, si_same, upd, if_pos]
  · rw [List.getElem?_set_ne (Ne.symm e), List.getElem?_mapIdx, List.getElem?_mapIdx]
    cases fs[j]? with
    | none => rfl
    | some s =>
      match s with
      | (some j, _) => rfl
      | (none, 0) => simp only [Option.map_some, wv, gi, si_same, upd, if_neg e]
      | (none, _ + 1) => rfl
theorem set_fL {g : GG} {u : St} {k ci f : Nat} {fs : List (Option Nat × Nat)} {v : Int64} (h : cfg[k]? = some (.inr (ci, fs))) (hf : fs[f]? = some (none, 1)) : (wsC g u).set k (gad g k, .inr (ci, (fs.mapIdx (fun f s => wv g u k f s)).set f (.long v))) = wsC g (sl u k f v) := by
  refine wsC_ext h ?_ (fun _ _ => rfl) (fun j hj => (sl_ne hj).symm)
  simp only [wc]
  congr 3
  apply List.ext_getElem?
  intro j
  by_cases e : j = f
  · subst e
    have hl : j < fs.length := (List.getElem?_eq_some_iff.mp hf).1
    rw [List.getElem?_set_self (by rw [List.length_mapIdx]; exact hl), List.getElem?_mapIdx, hf]
    simp only [Option.map_some, wv, gl, sl_same, vp_updL, if_pos]
  · rw [List.getElem?_set_ne (Ne.symm e), List.getElem?_mapIdx, List.getElem?_mapIdx]
    cases fs[j]? with
    | none => rfl
    | some s =>
      match s with
      | (some j, _) => rfl
      | (none, 0) => rfl
      | (none, _ + 1) => simp only [Option.map_some, wv, gl, sl_same, vp_updL, if_neg e]
/-! the addresses; what a method finds; contracts -/
def AD (g : GG) : Nat → Prop := fun q => ∃ k, k < 61 ∧ q = gad g k
def AA (g : GG) (sz : Nat) : Nat → Prop := fun q => AD g q ∨ sz ≤ q
theorem DC_move {A : Nat → Prop} {g : GG} {u u' : St} (h : va_D A (wsC g u)) : va_D A (wsC g u') := ⟨fun i j p q hp hq e => by
    obtain ⟨s1, c1, rfl⟩ := wsC_inv hp
    obtain ⟨s2, c2, rfl⟩ := wsC_inv hq
    exact h.1 i j _ _ (wsC_get c1) (wsC_get c2) e, fun k q hq => by
    obtain ⟨s, c, rfl⟩ := wsC_inv hq
    exact h.2 k (gad g k, wc g u k s) (wsC_get c)⟩
theorem DC_AD {A : Nat → Prop} {g : GG} {u : St} (h : va_D A (wsC g u)) : ∀ q, AD g q → A q := fun q hq => by
  obtain ⟨k, hk, rfl⟩ := hq
  obtain ⟨s, hs⟩ := cfg_has hk
  exact h.2 k _ (wsC_get hs)
def letT (j : Nat) : Int32 := match j with
  | 0 => 107
  | 1 => 118
  | 2 => 115
  | 3 => 117
  | 4 => 116
  | _ => 119
def sortT (j : Nat) : Int32 := match j with
  | 0 => -1
  | 1 => 0
  | 2 => 0
  | 3 => 0
  | 4 => 1
  | _ => 2
def ST (g : GG) (A : Nat → Prop) (U : State) (H : Heap) : Prop := va_Z "StrayKeys" "LETTERS" "[I" (.ref (gst g 0)) A U H ∧ va_T .int (gst g 0) 6 (fun j => .int (letT j)) A U H ∧ va_Z "StrayKeys" "SORT_OF" "[I" (.ref (gst g 1)) A U H ∧ va_T .int (gst g 1) 6 (fun j => .int (sortT j)) A U H
theorem ST.moved {g : GG} {A : Nat → Prop} {u U : State} {H : Heap} (hvm : u.vm.Alike U.vm) (h : ST g A u H) : ST g A U H := ⟨h.1.moved hvm, h.2.1.moved hvm, h.2.2.1.moved hvm, h.2.2.2.moved hvm⟩
theorem ST.kept {g : GG} {A : Nat → Prop} {U : State} {H H1 : Heap} (h : ST g A U H) (hq : ∀ a : Nat, a < H.size → ¬ A a → H1[a]? = H[a]?) : ST g A U H1 := ⟨h.1.kept hq, h.2.1.kept hq, h.2.2.1.kept hq, h.2.2.2.kept hq⟩
theorem ST.narrow {g : GG} {A B : Nat → Prop} {U : State} {H : Heap} (h : ST g A U H) (hAB : ∀ q, B q → A q) : ST g B U H := ⟨h.1.narrow hAB, h.2.1.narrow hAB, h.2.2.1.narrow hAB, h.2.2.2.narrow hAB⟩
theorem va_Z.wide {C n d : String} {v : Value} {A B : Nat → Prop} {U : State} {H : Heap} (h : va_Z C n d v A U H) (hAB : ∀ q, q < H.size → B q → A q) : va_Z C n d v B U H := by
  obtain ⟨cf, kf, fi, f, a, cell, h1, h2, h3, h4, h5, h6, h7, h8⟩ := h
  exact ⟨cf, kf, fi, f, a, cell, h1, h2, h3, h4, h5, h6, h7, fun z => h8 (hAB a (Array.getElem?_eq_some_iff.mp h5).1 z)⟩
theorem va_T.wide {ty : FieldType} {t N : Nat} {f : Nat → Value} {A B : Nat → Prop} {U : State} {H : Heap} (h : va_T ty t N f A U H) (hAB : ∀ q, q < H.size → B q → A q) : va_T ty t N f B U H := by
  obtain ⟨cell, h1, h2, h3, h4, h5, h6, h7⟩ := h
  exact ⟨cell, h1, h2, h3, h4, h5, h6, fun z => h7 (hAB t (Array.getElem?_eq_some_iff.mp h1).1 z)⟩
theorem ST.wide {g : GG} {A B : Nat → Prop} {U : State} {H : Heap} (h : ST g A U H) (hAB : ∀ q, q < H.size → B q → A q) : ST g B U H := ⟨h.1.wide hAB, h.2.1.wide hAB, h.2.2.1.wide hAB, h.2.2.2.wide hAB⟩
def KX (g : GG) (U : State) : Prop := va_K g.1 vwCl [(gcy g 0, .int), (gcy g 1, .byte), (gcy g 2, .array .int)] U
def NX (U : State) : Prop := (∀ q ∈ nestF, va_Nw (.fieldLinkNest q.1 q.2.1 q.2.2.1 q.2.2.2.1 q.2.2.2.2.1 q.2.2.2.2.2) U) ∧ ∀ q ∈ nestM, va_Nw (.methodLinkNest q.1 q.2.1 q.2.2.1 q.2.2.2) U
theorem NX.warm {s U : State} (hW : s.WarmedH U.vm) (h : NX s) : NX U := ⟨fun q hq => va_Nw.warmF hW (h.1 q hq), fun q hq => va_Nw.warmM hW (h.2 q hq)⟩
theorem NX.same {s U : State} (e : s.vm = U.vm) (h : NX s) : NX U := ⟨fun q hq => va_Nw.same rfl e (h.1 q hq), fun q hq => va_Nw.same rfl e (h.2 q hq)⟩
def WU (g : GG) (u : St) (U : State) : Prop := va_P g.1 vwCl (wsC g u) U.heap ∧ KX g U ∧ va_D (fun _ => True) (wsC g u) ∧ ST g (AD g) U U.heap ∧ NX U
def WQ (g : GG) (u : St) (t : State) : Prop := va_P g.1 vwCl (wsC g u) t.heap
def PC (g : GG) (av : List Value) (u : St) (sz : Nat) : Array Value → State → Prop := va_Pc av (fun U => U.heap.size = sz ∧ WU g u U)
theorem PC_blind {g : GG} {av : List Value} {u : St} {sz : Nat} : FrameBlind (PC g av u sz) := fun a U g' mk q => by
  obtain ⟨q0, q1, qP, qK, qD, qS, qN⟩ := q
  exact ⟨q0, q1, qP, va_K.moved (u := U) (U := U.calling g' mk a) (Vm.Alike.refl U.vm) qK, qD, ST.moved (u := U) (U := U.calling g' mk a) (Vm.Alike.refl U.vm) qS, NX.same (s := U) (U := U.calling g' mk a) rfl qN⟩
def CI (l : Launch) (y : MethodName) (cc : ByteArray) (nL : Nat) (ret : Option FieldType) (rm : Room) (g : GG) (av : List Value) (u : St) (Q : Int32 → St → Prop) : Prop := ∀ sz, Met l y (.code y cc nL ret :: BIG) rm (PC g av u sz) (va_Qi Q (WQ g) (AA g sz)) 0 0 (AA g sz)
def CL (l : Launch) (y : MethodName) (cc : ByteArray) (nL : Nat) (ret : Option FieldType) (rm : Room) (g : GG) (av : List Value) (u : St) (Q : Int64 → St → Prop) : Prop := ∀ sz, Met l y (.code y cc nL ret :: BIG) rm (PC g av u sz) (va_Ql Q (WQ g) (AA g sz)) 0 0 (AA g sz)
def CV (l : Launch) (y : MethodName) (cc : ByteArray) (nL : Nat) (ret : Option FieldType) (rm : Room) (g : GG) (av : List Value) (u : St) (Q : St → Prop) : Prop := ∀ sz, Met l y (.code y cc nL ret :: BIG) rm (PC g av u sz) (va_Qv Q (WQ g) (AA g sz)) 0 0 (AA g sz)
/-- what stays while a method runs -/
def MC (p : Program) (s : State) (m : MethodId) (args : Array Value) (meth : Method) (c : Code) (cc : ByteArray) (nL : Nat) (own : String) (ret : Option FieldType) (g : GG) (A : Nat → Prop) : Prop :=
  p.tables.exec = Jvm.exec ∧ c.code = cc ∧ c.maxLocals = nL ∧ s.vm.findClass own = some m.cls ∧ (∀ w ∈ BIG, w.before args s = true) ∧ KX g s ∧ meth.sig.returnType = ret ∧ meth.locks = false ∧ ST g A s s.heap ∧ NX s ∧ ∀ q, s.heap.size ≤ q → A q
/-- what moves -/
def WD (g : GG) (A : Nat → Prop) (s : State) (u : St) (H : Heap) (locs : List Loc) : Prop := va_P g.1 vwCl (wsC g u) H ∧ va_D A (wsC g u) ∧ va_S A s.heap H locs
theorem AA_in {g : GG} {A : Nat → Prop} {s : State} {u : St} {H : Heap} {locs : List Loc} (hA : ∀ q, s.heap.size ≤ q → A q) (hW : WD g A s u H locs) : ∀ q, AA g H.size q → A q := fun q hq => hq.elim (DC_AD hW.2.1 q) (fun h => hA q (Nat.le_trans hW.2.2.1 h))
section EN
variable {l : Launch} {y : MethodName} {cc : ByteArray} {nL : Nat} {ret : Option FieldType} {rm : Room} {g : GG} {av : List Value} {u : St} {own : String}
theorem ent {Qc : (Nat → Prop) → Array Value → State → Outcome → State → Prop} (hy : plainName y.cls = true) (ho : y.cls = own) (hlen : (lg_sl av).length ≤ nL)
    (body : ∀ (p : Program) (e : Env) (s : State) (m : MethodId) (below : List Frame) (meth : Method) (c : Code) (A : Nat → Prop) (ls : Array Slot), MC p s m av.toArray meth c cc nL own ret g A → lv_has ls nL (lv_args 0 av) → WD g A s u s.heap [] → W p l e rm s m av.toArray below meth c s.heap [] 0 0 (MQ below (Qc A) av.toArray s 0 0 A) (F0 m 0 ls [])) :
    ∀ sz, Met l y (.code y cc nL ret :: BIG) rm (PC g av u sz) (Qc (AA g sz)) 0 0 (AA g sz) := by
  intro sz
  refine Met.ofW (cc := cc) (maxL := nL) (ret := ret) hy rfl ?_
  intro p e s m args below meth c s₁ B hml hv
  obtain ⟨rfl, hsz, hP, hK, hD, hST, hN⟩ := hv
  subst hsz
  have hts := atoms_spec (ws := Cond.code y cc nL ret :: BIG) B.pre
  have hown : s.vm.findClass own = some m.cls := ho ▸ findClass_of_methodNamed B.named
  rw [lg_entry_eq]
  exact body p e s m below meth c (AA g s.heap.size) _ ⟨B.exec, B.bytes, hml, hown, fun w h => hts w (List.mem_cons_of_mem _ h), hK, B.returns, B.notSynchronized, hST.wide (fun q hq h => h.elim id (fun h => absurd hq (Nat.not_lt.mpr h))), hN, fun q h => Or.inr h⟩ (lv_entry av hlen) ⟨hP, ⟨hD.1, fun k q hk => by
    obtain ⟨s9, c9, rfl⟩ := wsC_inv hk
    exact Or.inl ⟨k, cfg_lt c9, rfl⟩⟩, va_S.rf⟩
end EN
