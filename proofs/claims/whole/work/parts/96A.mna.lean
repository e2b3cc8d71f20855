/-! MACHINE: an array of arrays: a piece of an instruction leads from one state to the next; each array that comes is one cell more of the world -/
/-- a piece of an instruction leads from U to V, with the same frame on top of both, and answers a -/
def ld_to (e : Env) (f : JFrame) {α : Type} (t : Sem α) (U : State) (a : α) (V : State) : Prop := ∀ (Q : α → Pre) (E : CtlPost) (d : Bool) (acts : List Action), (∀ d' acts', Q a d' acts' (V.setTop f)) → wp t Q E e d acts (U.setTop f)
section LD
variable {e : Env} {f : JFrame}
theorem ld_pure {α : Type} (a : α) (U : State) : ld_to e f (Pure.pure a) U a U := fun Q E d acts h => by
  rw [wp_pure']
  exact h d acts
theorem ld_bind {α β : Type} {t : Sem α} {k : α → Sem β} {U V X : State} {a : α} {b : β} (h1 : ld_to e f t U a V) (h2 : ld_to e f (k a) V b X) : ld_to e f (t >>= k) U b X := fun Q E d acts h => by
  rw [wp_bind']
  exact h1 _ E d acts (fun d' acts' => h2 Q E d' acts' h)
/-- rounds of a loop, each from what holds of i to what holds of the next -/
theorem ld_rounds {N : Nat} {B : Nat → PUnit → Sem (ForInStep PUnit)} {I : Nat → State → Prop} (hB : ∀ (i : Nat) (U : State), i < N → I i U → ∃ V, ld_to e f (B i PUnit.unit) U (.yield PUnit.unit) V ∧ I (i + 1) V) (k : Nat) : ∀ (i : Nat) (U : State), i + k = N → I i U → ∃ V, ld_to e f (forIn (List.range' i k) PUnit.unit B) U PUnit.unit V ∧ I N V := by
  induction k with
  | zero =>
    intro i U hi h
    exact ⟨U, ld_pure _ _, (show i = N from hi) ▸ h⟩
  | succ k ih =>
    intro i U hi h
    obtain ⟨V, h1, h2⟩ := hB i U (by omega) h
    obtain ⟨X, h3, h4⟩ := ih (i + 1) V (by omega) h2
    refine ⟨X, ?_, h4⟩
    rw [List.range'_succ, List.forIn_cons]
    exact ld_bind h1 h3
theorem ld_fits {U : State} {c0 comp : ClassId} {k : Class} {ty : FieldType} {n : Nat} (hk : U.vm.classes[c0]? = some k) (hkind : k.kind = .array comp ty) (h1 : n ≤ e.platform.arrayLengthLimit) (h2 : n * componentBytes ty ≤ e.platform.maxHeapBytes) (h4 : n ≤ e.platform.maxSlots) : ld_to e f (arrayFits c0 n) U () U := fun Q E d acts hq => by
  simp [arrayFits, hk, hkind, Nat.not_lt.mpr h1, Nat.not_lt.mpr h2, Nat.not_lt.mpr h4, hq]
theorem ld_new {U : State} {c0 comp : ClassId} {k : Class} {ty : FieldType} {n : Nat} {v : Value} (hk : U.vm.classes[c0]? = some k) (hkind : k.kind = .array comp ty) (h1 : n ≤ e.platform.arrayLengthLimit) (h2 : n * componentBytes ty ≤ e.platform.maxHeapBytes) (h3 : U.heap.size + 1 ≤ e.platform.maxCells) (h4 : U.slotsUsed + n ≤ e.platform.maxSlots) (hv : fits ty v = true) : ld_to e f (newArray c0 n v) U U.heap.size (U.pushCell (arrV c0 n (fun _ => v))) := by
  refine ld_bind (ld_fits hk hkind h1 h2 (by omega)) (fun Q E d acts hq => ?_)
  refine (W.alloc _ _ _).mpr ⟨h3, Nat.le_trans (Nat.le_of_eq (congrArg _ Array.size_replicate)) h4, fun i w hw => ?_, ?_⟩
  · obtain ⟨hi, rfl⟩ := Array.getElem?_eq_some_iff.mp hw
    simp [State.fitsSlot, State.slotType?, hk, hkind, hv]
  · rw [arrV_new]
    exact hq _ _
theorem ld_write {U : State} {a i : Nat} {v : Value} {cell : Cell} (hc : U.heap[a]? = some cell) (hu : cell.vm ≠ .unknown) (hi : i < cell.slots.size) (hv : (U.setTop f).fitsSlot cell.cls cell.vm i v = true) : ld_to e f (writeLoc a i v) U () (U.setCell a (cell.setSlot i v)) := fun Q E d acts hq => (W.writeLoc _ _ _ _).mpr ⟨cell, hc, hu, hi, hv, hq _ _⟩
/-- one array of ints -/
theorem ld_row {U : State} {cI cc : ClassId} {k : Class} {n : Int32} (hk : U.vm.classes[cI]? = some k) (hkind : k.kind = .array cc .int) (hn : ¬ n < 0) (h1 : n.toNatClampNeg ≤ e.platform.arrayLengthLimit) (h2 : n.toNatClampNeg * 4 ≤ e.platform.maxHeapBytes) (h3 : U.heap.size + 1 ≤ e.platform.maxCells) (h4 : U.slotsUsed + n.toNatClampNeg ≤ e.platform.maxSlots) : ld_to e f (multianewarray.make cI [n]) U U.heap.size (U.pushCell (vp_cell cI (n.toNatClampNeg, .inl (fun _ => 0)))) := fun Q E d acts hq => by
  rw [multianewarray.make]
  simp only [wp_bind', W.ite, hn, if_false, wp_pure', W.theClass, State.vm_setTop, hk, Option.some.injEq, exists_eq_left', hkind]
  exact ld_new hk hkind h1 h2 h3 h4 rfl Q E d acts hq
end LD
/-- the world grows by an array -/
theorem n_grow {g : GG} {A : Nat → Prop} {s U : State} {ws : va_W} {locs : List Loc} (hW : ND g A s ws U.heap locs) (hA : ∀ q, s.heap.size ≤ q → A q) (cA : ClassId) (a : vp_A) : ND g A s (ws ++ [(U.heap.size, .inl (cA, a))]) (U.pushCell (vp_cell cA a)).heap locs := by
  have old : ∀ q, q < U.heap.size → (U.pushCell (vp_cell cA a)).heap[q]? = U.heap[q]? := fun q h => State.heap_pushCell_of_lt _ _ h
  refine ⟨(hW.1.kept (fun k q hq => old _ (hW.1 k q hq).lt)).app (fun k q hq => ?_), hW.2.1.push hW.1 rfl (hA _ hW.2.2.1), ?_, fun q h1 h2 => (old q (Nat.lt_of_lt_of_le h1 hW.2.2.1)).trans (hW.2.2.2.1 q h1 h2), hW.2.2.2.2⟩
  · cases List.mem_singleton.mp (List.mem_of_getElem? hq)
    exact State.heap_pushCell_size _ _
  · rw [State.heap_size_pushCell]
    exact Nat.le_succ_of_le hW.2.2.1
/-- a place of an array of the world is set -/
theorem n_lay {g : GG} {A : Nat → Prop} {s U : State} {ws : va_W} {locs : List Loc} (hW : ND g A s ws U.heap locs) {k a : Nat} {cA : ClassId} {z z' : vp_A} (hk : ws[k]? = some (a, .inl (cA, z))) (i : Nat) (v : Value) (hz : (vp_cell cA z).setSlot i v = vp_cell cA z') : ND g A s (ws.set k (a, .inl (cA, z'))) (U.setCell a ((vp_cell cA z).setSlot i v)).heap (locs ++ [⟨a, i⟩]) := by
  have other : ∀ q, q ≠ a → (U.setCell a ((vp_cell cA z).setSlot i v)).heap[q]? = U.heap[q]? := fun q h => State.heap_setCell_other (Ne.symm h)
  refine ⟨hW.1.set hW.2.1 hk ?_ other, hW.2.1.set hk, hW.2.2.put (by simp) other (hW.2.1.2 k _ hk)⟩
  exact (State.heap_setCell_self (hW.1 k _ hk)).trans (congrArg some hz)
/-- the outer array at h, with the first i inner ones behind it -/
def mw_O (N h i : Nat) : vp_A := (N, .inr (.inr (.inr (.inr (fun j => if j < i then some (h + 1 + j) else none)))))
def mw_R (g : GG) (K a : Nat) : Nat × va_E := (a, .inl (gcy g 0, K, .inl (fun _ => 0)))
def mw_W (g : GG) (ws : va_W) (N K h i : Nat) : va_W := (ws ++ [(h, .inl (gcy g 2, mw_O N h i))]) ++ (List.range i).map (fun j => mw_R g K (h + 1 + j))
theorem mw_W_at (g : GG) (ws : va_W) (N K h i : Nat) (tl : va_W) : (mw_W g ws N K h i ++ tl)[ws.length]? = some (h, .inl (gcy g 2, mw_O N h i)) := by
  unfold mw_W
  simp
theorem mw_W_next (g : GG) (ws : va_W) (N K h i : Nat) : (mw_W g ws N K h i ++ [mw_R g K (h + 1 + i)]).set ws.length (h, .inl (gcy g 2, mw_O N h (i + 1))) = mw_W g ws N K h (i + 1) := by
  unfold mw_W
  rw [List.range_succ, List.map_append]
  simp
theorem mw_O_next (c : ClassId) (N h i : Nat) : (vp_cell c (mw_O N h i)).setSlot i (.ref (h + 1 + i)) = vp_cell c (mw_O N h (i + 1)) := by
  unfold mw_O
  rw [vp_cell_q, vp_cell_q, arrV_store]
  refine congrArg (arrV c N) (funext fun j => ?_)
  rcases Nat.lt_trichotomy j i with h1 | h1 | h1
  · simp [updV, Nat.ne_of_lt h1, h1, Nat.lt_succ_of_lt h1]
  · simp [updV, h1, va_rf]
  · simp [updV, Nat.ne_of_gt h1, Nat.not_lt.mpr (Nat.le_of_lt h1), show ¬ j < i + 1 by omega]
section NM
variable {p : Program} {l : Launch} {e : Env} {R : Room} {s : State} {m : MethodId} {args : Array Value} {below : List Frame} {meth : Method} {c : Code} {H : Heap} {locs : List Loc} {cells slots : Nat} {Q : State → Prop}
variable {cc : ByteArray} {nL pc : Nat} {ls : Array Slot} {rest : List Value} {own : String} {g : GG} {A : Nat → Prop} {ws : va_W}
/-- one more inner array: it comes, and the outer one gets it -/
theorem mw_round {U : State} {f : JFrame} {N K h i : Nat} {kA kI : Class} {ci : ClassId} (X : Stand p l e R s m args below meth c U locs (cells + 1 + i) (slots + N + i * K)) (hW : ND g A s (mw_W g ws N K h i) U.heap locs) (hz : U.heap.size = h + 1 + i) (hA : ∀ q, s.heap.size ≤ q → A q) (hkA : U.vm.classes[gcy g 2]? = some kA) (hA2 : kA.kind = .array (gcy g 0) (.array .int)) (hkI : U.vm.classes[gcy g 0]? = some kI) (hI2 : kI.kind = .array ci .int) (hi : i < N) (hK : K ≤ 1000) (hcs : cells + (1 + N) ≤ R.cells ∧ slots + (N + N * K) ≤ R.slots) :
    ∃ V, ld_to e f (multianewarray.make (gcy g 0) [nI K] >>= fun a => writeLoc h i (.ref a) >>= fun _ => Pure.pure (ForInStep.yield PUnit.unit)) U (.yield PUnit.unit) V ∧ V.vm = U.vm ∧ V.heap.size = h + 1 + (i + 1) ∧ ∃ locs1, ND g A s (mw_W g ws N K h (i + 1)) V.heap locs1 ∧ Stand p l e R s m args below meth c V locs1 (cells + 1 + (i + 1)) (slots + N + (i + 1) * K) := by
  have l0 := Launch.admits_arrayLengthLimit X.admits
  have l9 := Launch.admits_maxHeapBytes X.admits
  have hmul : (i + 1) * K ≤ N * K := Nat.mul_le_mul_right K hi
  have hsucc : (i + 1) * K = i * K + K := Nat.succ_mul i K
  obtain ⟨q1, q2⟩ := X.roomAbove (a := 1) (b := K) (by omega) (by omega)
  have eK : (nI K).toNatClampNeg = K := tNn (by omega)
  have s1 := ld_row (e := e) (f := f) (n := nI K) hkI hI2 (nI_pos (by omega)) (by omega) (by omega) q1 (by omega)
  have hW1 := n_grow hW hA (gcy g 0) (K, .inl (fun _ => 0))
  rw [eK, hz] at s1
  rw [hz] at hW1
  have X1 := X.pushed (vp_cell (gcy g 0) (K, .inl (fun _ => 0)))
  rw [show (vp_cell (gcy g 0) (K, .inl (fun _ => 0))).slots.size = K from arrV_size _ _ _] at X1
  have at1 := mw_W_at g ws N K h i [mw_R g K (h + 1 + i)]
  have c1 : (U.pushCell (vp_cell (gcy g 0) (K, .inl (fun _ => 0)))).heap[h]? = some (vp_cell (gcy g 2) (mw_O N h i)) := hW1.1 _ _ at1
  have hW2 := n_lay (ws := mw_W g ws N K h i ++ [mw_R g K (h + 1 + i)]) hW1 at1 i (.ref (h + 1 + i)) (mw_O_next _ _ _ _)
  rw [mw_W_next] at hW2
  refine ⟨_, ld_bind s1 (ld_bind (ld_write c1 ?_ ?_ ?_) (ld_pure _ _)), rfl, ?_, _, hW2, ?_⟩
  · show VmData.none ≠ .unknown
    simp
  · rw [show (vp_cell (gcy g 2) (mw_O N h i)).slots.size = N from arrV_size _ _ _]
    exact hi
  · show State.fitsSlot _ (gcy g 2) .none i _ = true
    simp [State.fitsSlot, State.slotType?, hkA, hA2, fits]
  · simp [hz]
    omega
  · rw [show slots + N + (i + 1) * K = slots + N + i * K + K by omega]
    exact X1.stored c1 i _
/-- the whole of it -/
theorem mw_make {T : State} {f : JFrame} {N K : Nat} {kA kI : Class} {ci : ClassId} (X : Stand p l e R s m args below meth c T locs cells slots) (hW : ND g A s ws T.heap locs) (hA : ∀ q, s.heap.size ≤ q → A q) (hkA : T.vm.classes[gcy g 2]? = some kA) (hA2 : kA.kind = .array (gcy g 0) (.array .int)) (hkI : T.vm.classes[gcy g 0]? = some kI) (hI2 : kI.kind = .array ci .int) (hN : N ≤ 1000) (hK : K ≤ 1000) (hcs : cells + (1 + N) ≤ R.cells ∧ slots + (N + N * K) ≤ R.slots) :
    ∃ (V : State) (locs1 : List Loc), ld_to e f (multianewarray.make (gcy g 2) [nI N, nI K]) T T.heap.size V ∧ ND g A s (mw_W g ws N K T.heap.size N) V.heap locs1 ∧ Stand p l e R s m args below meth c V locs1 (cells + 1 + N) (slots + N + N * K) := by
  have l0 := Launch.admits_arrayLengthLimit X.admits
  have l9 := Launch.admits_maxHeapBytes X.admits
  obtain ⟨r1, r2⟩ := X.roomAbove (a := 1) (b := N) (by omega) (by omega)
  have eN : (nI N).toNatClampNeg = N := tNn (by omega)
  have e0 : vp_cell (gcy g 2) (mw_O N T.heap.size 0) = arrV (gcy g 2) N (fun _ => .null) := by
    unfold mw_O
    rw [vp_cell_q]
    simp [va_rf]
  have s0 := ld_new (e := e) (f := f) (n := N) (v := .null) hkA hA2 (by omega) (by show N * 4 ≤ _; omega) r1 r2 rfl
  rw [← e0] at s0
  have X0 := X.pushed (vp_cell (gcy g 2) (mw_O N T.heap.size 0))
  rw [show (vp_cell (gcy g 2) (mw_O N T.heap.size 0)).slots.size = N from arrV_size _ _ _] at X0
  obtain ⟨V, h1, -, -, locs1, h2, h3⟩ := ld_rounds (e := e) (f := f) (N := N) (B := fun i _ => multianewarray.make (gcy g 0) [nI K] >>= fun a => writeLoc T.heap.size i (.ref a) >>= fun _ => Pure.pure (ForInStep.yield PUnit.unit)) (I := fun i U => U.vm = T.vm ∧ U.heap.size = T.heap.size + 1 + i ∧ ∃ lc, ND g A s (mw_W g ws N K T.heap.size i) U.heap lc ∧ Stand p l e R s m args below meth c U lc (cells + 1 + i) (slots + N + i * K))
    (fun i U hi ⟨hv, hz, lc, hD, XU⟩ => by
      obtain ⟨V, a1, a2, a3, a4⟩ := mw_round (f := f) XU hD hz hA (by rw [hv]; exact hkA) hA2 (by rw [hv]; exact hkI) hI2 hi hK hcs
      exact ⟨V, a1, a2.trans hv, a3, a4⟩) N 0 (T.pushCell (vp_cell (gcy g 2) (mw_O N T.heap.size 0))) (Nat.zero_add N)
    ⟨rfl, by simp, locs, by
      have := n_grow hW hA (gcy g 2) (mw_O N T.heap.size 0)
      unfold mw_W
      rw [List.range_zero, List.map_nil, List.append_nil]
      exact this, by rw [Nat.zero_mul]; exact X0⟩
  refine ⟨V, locs1, fun Q E d acts hq => ?_, h2, h3⟩
  have hKn : ¬ nI K < 0 := nI_pos (by omega)
  rw [multianewarray.make]
  simp only [wp_bind', W.ite, nI_pos (show N < 2147483648 by omega), if_false, wp_pure', W.theClass, State.vm_setTop, hkA, Option.some.injEq, exists_eq_left', hA2, eN]
  refine s0 _ _ _ _ (fun d1 a1 => ?_)
  simp only [List.find?_cons_of_neg (p := fun x => decide (x < 0)) (a := nI K) (l := []) (by simpa using hKn), List.find?_nil, ite_self, wp_pure', wp_bind']
  rw [Std.Legacy.Range.forIn_eq_forIn_range']
  simp only [Std.Legacy.Range.size, Nat.sub_zero, Nat.add_sub_cancel, Nat.div_one]
  exact h1 _ _ _ _ (fun d2 a2 => hq d2 a2)
theorem n_mna {n k : Int32} {N K index : Nat} (C : NC p s m args meth c cc nL own g A) (hW : ND g A s ws H locs) (hlink : Cond.classLink own index "[[I" ∈ BIG) (hn : n = nI N) (hk : k = nI K) (hN : N ≤ 1000) (hK : K ≤ 1000) (hcs : cells + (1 + N) ≤ R.cells ∧ slots + (N + N * K) ≤ R.slots) (hdg : decode cc pc = .ok (.multianewarray index 2, 4))
    (kk : ∀ (q : Nat) (H1 : Heap) (locs1 : List Loc), ND g A s ((ws ++ [(q, .inl (gcy g 2, N, .inr (.inr (.inr (.inr (fun i => if i < N then some (q + 1 + i) else none))))))]) ++ (List.range N).map (fun i => (q + 1 + i, .inl (gcy g 0, K, .inl (fun _ => 0))))) H1 locs1 → W p l e R s m args below meth c H1 locs1 (cells + 1 + N) (slots + N + N * K) Q (F0 m (pc + 4) ls (.ref q :: rest))) : W p l e R s m args below meth c H locs cells slots Q (F0 m pc ls (.int k :: .int n :: rest)) := by
  subst hn
  subst hk
  intro T hT X
  subst hT
  obtain ⟨kA, kI, ci, h1, h2, h3, h4⟩ := C.2.2.2.2.2.2.2.1
  obtain ⟨cA, hfA, hcl⟩ := Cond.classLink_spec C.2.2.2.1 (C.2.2.2.2.1 _ hlink) e.platform (by rw [X.admits.platform])
  have eA : cA = gcy g 2 := Option.some.inj (hfA.symm.trans (show s.vm.findClass "[[I" = some (gcy g 2) from (C.2.2.2.2.2.1.2 2 _ rfl).2))
  subst eA
  obtain ⟨hlk, hwm, -⟩ := State.classEntry (e := e) X.warmed hcl
  obtain ⟨kA', a1, a2⟩ := hwm.alike.2.2 _ _ h1
  obtain ⟨kI', b1, b2⟩ := hwm.alike.2.2 _ _ h3
  obtain ⟨V, locs1, hmk, hV, XV⟩ := mw_make (f := F0 m pc ls rest) (X.noted hwm) hW C.2.2.2.2.2.2.2.2 a1 (by rw [a2]; exact h2) b1 (by rw [b2]; exact h4) hN hK hcs
  obtain ⟨t, t1, t2⟩ := kk T.heap.size V.heap locs1 hV V rfl XV
  refine ⟨t, ?_, t2⟩
  have hdg' : decode c.code (F0 m pc ls (.int (nI K) :: .int (nI N) :: rest)).pc = .ok (.multianewarray index 2, 4) := by
    rw [C.2.1]
    exact hdg
  jvm_step X.here [C.1, hdg']
  simp only [multianewarray.sem, wp_bind', W.resolveClassAt_links (State.method?_setTop (F0 m pc ls (.int (nI K) :: .int (nI N) :: rest)) X.here.top) hlk]
  refine (W.popN 2).mpr ?_
  rw [if_neg (by decide)]
  refine ⟨_, State.topJava?_setTop' (s := T.setVm _) _ X.here.top, [.int (nI N), .int (nI K)], rest, rfl, rfl, ?_⟩
  simp only [List.mapM_cons, List.mapM_nil, wp_bind', wp_pure']
  have back : ∀ vm : Vm, ((T.setTop (F0 m pc ls (.int (nI K) :: .int (nI N) :: rest))).setVm vm).setTop (F0 m pc ls rest) = (T.setVm vm).setTop (F0 m pc ls rest) := fun vm => State.setTop_setTop (s := T.setVm vm) ..
  rw [back]
  refine hmk _ _ _ _ (fun d' acts' => ?_)
  simp only [wp_bind', W.mark, W.pushRef, State.topJava?_setTop' _ XV.here.top, Option.some.injEq, exists_eq_left', State.setTop_setTop]
  intro acts
  simp [jvm, XV.here.top]
  exact t1
end NM
