/-! MACHINE: an array of arrays comes all at once -/
def mn_o (c : ClassId) (N h i : Nat) : Cell := arrV c N (fun j => va_rf (if j < i then some (h + 1 + j) else none))
def mn_i (d : ClassId) (K : Nat) : Cell := arrV d K (fun _ => .int 0)
/-- the state behind the outer array and i inner ones -/
def mn_F (s : State) (c d : ClassId) (N K : Nat) : Nat → State
  | 0 => s.pushCell (mn_o c N s.heap.size 0)
  | i + 1 => ((mn_F s c d N K i).pushCell (mn_i d K)).setCell s.heap.size (mn_o c N s.heap.size (i + 1))
theorem mn_o_set (c : ClassId) (N h i : Nat) : (mn_o c N h i).setSlot i (.ref (h + 1 + i)) = mn_o c N h (i + 1) := by
  unfold mn_o
  rw [arrV_store]
  refine congrArg (arrV c N) (funext fun j => ?_)
  unfold updV
  by_cases e : j = i
  · rw [if_pos e, if_pos (by omega), e]; rfl
  · rw [if_neg e]
    show va_rf (if j < i then some (h + 1 + j) else none) = _
    by_cases h2 : j < i
    · rw [if_pos h2, if_pos (by omega)]
    · rw [if_neg h2, if_neg (by omega)]
theorem mn_o_0 (c : ClassId) (N h : Nat) : ({ cls := c, slots := Array.replicate N .null, vm := .none } : Cell) = mn_o c N h 0 := by
  rw [arrV_new]
  rfl
theorem mn_facts (s : State) (c d : ClassId) (N K : Nat) (i : Nat) : (mn_F s c d N K i).heap.size = s.heap.size + 1 + i ∧ (mn_F s c d N K i).heap[s.heap.size]? = some (mn_o c N s.heap.size i) ∧ (mn_F s c d N K i).vm = s.vm ∧ (mn_F s c d N K i).slotsUsed = s.slotsUsed + N + i * K ∧ (∀ a, a < s.heap.size → (mn_F s c d N K i).heap[a]? = s.heap[a]?) ∧ ∀ j, j < i → (mn_F s c d N K i).heap[s.heap.size + 1 + j]? = some (mn_i d K) := by
  induction i with
  | zero =>
    refine ⟨by simp [mn_F], by simp [mn_F], rfl, ?_, fun a ha => State.heap_pushCell_of_lt _ _ ha, fun j hj => absurd hj (Nat.not_lt_zero _)⟩
    show s.slotsUsed + (mn_o c N s.heap.size 0).slots.size = _
    unfold mn_o
    rw [arrV_size]
    omega
  | succ i ih =>
    obtain ⟨f1, f2, f3, f4, f5, f6⟩ := ih
    have lt0 : s.heap.size < (mn_F s c d N K i).heap.size := by omega
    have hb : ((mn_F s c d N K i).pushCell (mn_i d K)).heap[s.heap.size]? = some (mn_o c N s.heap.size i) := by rw [State.heap_pushCell_of_lt (h := lt0)]; exact f2
    refine ⟨?_, State.heap_setCell_self hb, by simp [mn_F, f3], ?_, fun a ha => ?_, fun j hj => ?_⟩
    · simp [mn_F, State.setCell, f1]; omega
    · show (mn_F s c d N K i).slotsUsed + (mn_i d K).slots.size = _
      unfold mn_i
      rw [arrV_size, f4, Nat.succ_mul]
      omega
    · show (((mn_F s c d N K i).pushCell (mn_i d K)).setCell s.heap.size _).heap[a]? = _
      rw [State.heap_setCell_other (Nat.ne_of_gt ha), State.heap_pushCell_of_lt (h := show a < (mn_F s c d N K i).heap.size by omega)]
      exact f5 a ha
    · show (((mn_F s c d N K i).pushCell (mn_i d K)).setCell s.heap.size _).heap[s.heap.size + 1 + j]? = _
      rw [State.heap_setCell_other (show s.heap.size ≠ s.heap.size + 1 + j by omega)]
      by_cases e : j = i
      · subst e
        rw [← f1]
        exact State.heap_pushCell_size _ _
      · rw [State.heap_pushCell_of_lt (h := show s.heap.size + 1 + j < (mn_F s c d N K i).heap.size by omega)]
        exact f6 j (by omega)
theorem mn_top (s : State) (f : JFrame) (c d : ClassId) (N K : Nat) (i : Nat) : mn_F (s.setTop f) c d N K i = (mn_F s c d N K i).setTop f := by
  induction i with
  | zero => rfl
  | succ i ih => simp only [mn_F, ih, State.heap_setTop, State.pushCell_setTop, State.setCell_setTop]
section MN
variable {E : CtlPost} {e : Env} {d : Bool} {acts : List Action} {s : State}
theorem mn_new {c comp : ClassId} {k : Class} {type : FieldType} {n : Nat} {v : Value} {Q : Addr → Pre} (hk : s.vm.classes[c]? = some k) (hkind : k.kind = .array comp type) (hl : n ≤ 100000) (h0 : e.platform.arrayLengthLimit = 2147483645) (h9 : e.platform.maxHeapBytes = 536870912) (hcb : componentBytes type ≤ 8) (hfit : fits type v = true) (hdef : v.isDefault = true)
    (h1 : s.heap.size < e.platform.maxCells) (h2 : s.slotsUsed + n ≤ e.platform.maxSlots) (hq : Q s.heap.size d acts (s.pushCell { cls := c, slots := Array.replicate n v, vm := .none })) : wp (Jvm.newArray c n v) Q E e d acts s := by
  have a1 : ¬ n > e.platform.arrayLengthLimit := by omega
  have a2 : ¬ n * componentBytes type > e.platform.maxHeapBytes := by
    have := Nat.mul_le_mul hl hcb
    omega
  have a3 : ∀ i w, (Array.replicate n v)[i]? = some w → s.fitsSlot c .none i w = true := by
    intro i w hw
    simp only [Array.getElem?_replicate] at hw
    split at hw
    · cases hw; simp [State.fitsSlot, State.slotType?, hk, hkind, hfit]
    · cases hw
  have a4 : allocActs (Array.replicate n v) s.heap.size acts = acts := by
    unfold allocActs
    rw [if_pos (by rw [Array.all_replicate]; split <;> simp [hdef])]
  simp only [Jvm.newArray, Jvm.arrayFits, wp_bind', W.ask, W.ite, a1, if_false, wp_pure', W.theClass, hk, hkind, a2, W.alloc, W.stop, Option.some.injEq, exists_eq_left', Array.size_replicate, a4]
  rw [if_neg (by omega)]
  exact ⟨h1, h2, a3, hq⟩
theorem mn_make {cA cI cc : ClassId} {kA kI : Class} {n m : Int32} {N K : Nat} {Q : Addr → Pre} (hkA : s.vm.classes[cA]? = some kA) (hA : kA.kind = .array cI (.array .int)) (hkI : s.vm.classes[cI]? = some kI) (hI : kI.kind = .array cc .int) (hn : ¬ n < 0) (hm : ¬ m < 0) (eN : n.toNatClampNeg = N) (eK : m.toNatClampNeg = K) (hN : N ≤ 100000) (hK : K ≤ 100000) (h0 : e.platform.arrayLengthLimit = 2147483645) (h9 : e.platform.maxHeapBytes = 536870912)
    (hc : s.heap.size + 1 + N ≤ e.platform.maxCells) (hs : s.slotsUsed + N + N * K ≤ e.platform.maxSlots) (hq : ∀ d' acts', Q s.heap.size d' acts' (mn_F s cA cI N K N)) : wp (multianewarray.make cA [n, m]) Q E e d acts s := by
  have hfind : ([m].find? (· < 0)) = none := by simp [hm]
  rw [multianewarray.make]
  simp only [wp_bind', W.ite, hn, if_false, wp_pure', W.theClass, hkA, hA, Option.some.injEq, exists_eq_left', eN]
  refine mn_new hkA hA hN h0 h9 (by decide) rfl rfl (by omega) (by have := Nat.zero_le (N * K); omega) ?_
  simp only [hfind]
  rw [ite_self, wp_bind', Std.Legacy.Range.forIn_eq_forIn_range']
  have hsz : ([:N] : Std.Legacy.Range).size = N := by simp [Std.Legacy.Range.size]
  rw [hsz, mn_o_0 cA N s.heap.size]
  show wp (forIn (List.range' 0 N 1) PUnit.unit _) _ E e d acts _
  refine wp_forIn_inv (fun rest s' => ∃ i, i ≤ N ∧ rest = List.range' i (N - i) ∧ s' = mn_F s cA cI N K i) _ _ ⟨0, Nat.zero_le _, rfl, rfl⟩ ?_ ?_
  · rintro x rest s' d' acts' Q' ⟨i, hi, hl, rfl⟩ hnext
    have hlt : i < N := by
      rcases Nat.lt_or_ge i N with h | h
      · exact h
      · rw [show N - i = 0 from by omega] at hl; simp at hl
    rw [show N - i = (N - (i + 1)) + 1 from by omega, List.range'_succ] at hl
    obtain ⟨rfl, hrest⟩ := List.cons.inj hl
    obtain ⟨f1, f2, f3, f4, f5, f6⟩ := mn_facts s cA cI N K x
    have hmul : x * K + K ≤ N * K := by
      have := Nat.mul_le_mul_right K (show x + 1 ≤ N from hlt)
      rw [Nat.succ_mul] at this; exact this
    have hlt0 : s.heap.size < (mn_F s cA cI N K x).heap.size := by omega
    simp only [wp_bind']
    rw [multianewarray.make]
    simp only [wp_bind', W.ite, hm, if_false, wp_pure', W.theClass, f3, hkI, hI, Option.some.injEq, exists_eq_left', eK]
    refine mn_new (s := mn_F s cA cI N K x) (by rw [f3]; exact hkI) hI hK h0 h9 (by decide) rfl rfl (by omega) (by omega) ?_
    rw [show ({ cls := cI, slots := Array.replicate K (defaultValue .int), vm := .none } : Cell) = mn_i cI K from arrV_new _ _ _]
    simp only [wp_bind', W.writeLoc, wp_pure']
    refine ⟨mn_o cA N s.heap.size x, by rw [State.heap_pushCell_of_lt (h := hlt0)]; exact f2, by unfold mn_o arrV; simp, by unfold mn_o; rw [arrV_size]; exact hlt, ?_, hnext _ _ _ ⟨x + 1, hlt, hrest, ?_⟩⟩
    · unfold mn_o arrV
      simp [State.fitsSlot, State.slotType?, f3, hkA, hA, fits]
    · rw [f1, mn_o_set]; rfl
  · rintro s' d' acts' ⟨i, hi, hl, rfl⟩
    have e1 : i = N := by
      rcases Nat.lt_or_ge i N with h | h
      · rw [show N - i = (N - (i + 1)) + 1 from by omega, List.range'_succ] at hl; cases hl
      · omega
    subst e1
    simp only [wp_pure']
    exact hq _ _
end MN
section MN2
variable {p : Program} {l : Launch} {e : Env} {R : Room} {s : State} {m : MethodId} {args : Array Value} {below : List Frame} {meth : Method} {c : Code} {T : State} {locs : List Loc} {cells slots : Nat}
theorem mn_stand (X : Stand p l e R s m args below meth c T locs cells slots) (cA cI : ClassId) (N K : Nat) (i : Nat) : ∃ L : List Loc, (∀ q ∈ L, q.base = T.heap.size) ∧ Stand p l e R s m args below meth c (mn_F T cA cI N K i) (locs ++ L) (cells + 1 + i) (slots + N + i * K) := by
  induction i with
  | zero =>
    refine ⟨[], fun q h => absurd h List.not_mem_nil, ?_⟩
    have h := X.pushed (mn_o cA N T.heap.size 0)
    rw [show (mn_o cA N T.heap.size 0).slots.size = N from arrV_size _ _ _] at h
    rw [List.append_nil, Nat.zero_mul]
    exact h
  | succ i ih =>
    obtain ⟨L, hL, Xi⟩ := ih
    obtain ⟨f1, f2, f3, f4, f5, f6⟩ := mn_facts T cA cI N K i
    have hlt0 : T.heap.size < (mn_F T cA cI N K i).heap.size := by omega
    have hcell : ((mn_F T cA cI N K i).pushCell (mn_i cI K)).heap[T.heap.size]? = some (mn_o cA N T.heap.size i) := by rw [State.heap_pushCell_of_lt (h := hlt0)]; exact f2
    have h := (Xi.pushed (mn_i cI K)).stored hcell i (.ref (T.heap.size + 1 + i))
    rw [show (mn_i cI K).slots.size = K from arrV_size _ _ _, mn_o_set, List.append_assoc] at h
    refine ⟨L ++ [⟨T.heap.size, i⟩], fun q hq => ?_, ?_⟩
    · rcases List.mem_append.mp hq with h1 | h1
      · exact hL q h1
      · rw [List.mem_singleton.mp h1]
    · rw [Nat.succ_mul, show slots + N + (i * K + K) = slots + N + i * K + K by omega]
      exact h
end MN2
