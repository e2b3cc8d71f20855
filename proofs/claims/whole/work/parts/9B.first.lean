/-! THE FIRST STATE: behind the two constructors -/
def sh2 (a b : Int32) (i : Nat) : Int32 := match i with
  | 0 => a
  | 1 => b
  | _ => 0
def u0i (f2 f5 f8 fw ff fk : Nat → Int32) (k : Nat) : Nat → Int32 := match k with
  | 1 => sh2 6 40
  | 2 => f2
  | 4 => sh2 4 60
  | 5 => f5
  | 7 => sh2 4 40
  | 8 => f8
  | 41 => fw
  | 43 => ff
  | 52 => fk
  | _ => fun _ => 0
def u0l (k : Nat) : Nat → Int64 := match k with
  | 0 => fun i => match i with
    | 14 => 1
    | _ => 0
  | 39 => fun i => match i with
    | 4 => 1
    | _ => 0
  | _ => fun _ => 0
def u0 (f2 f5 f8 fw ff fk : Nat → Int32) : St := (u0i f2 f5 f8 fw ff fk, u0l)
theorem inv0 {f2 f5 f8 fw ff fk : Nat → Int32} (h2 : ∀ i, i < 6 → f2 i = -1) (h5 : ∀ i, i < 4 → f5 i = -1) (h8 : ∀ i, i < 3 → f8 i = -1) (h83 : f8 3 = 0) (hw : ∀ i, i < 6 → fw i = -1) (hf : ∀ i, i < 4 → ff i = -1) (hk : ∀ i, i < 3 → fk i = -1) : Inv (u0 f2 f5 f8 fw ff fk) := by
  refine ⟨⟨⟨rfl, rfl, rfl, rfl, rfl, rfl⟩, fun r hr => Or.inl ⟨h2 r hr, hw r hr⟩, fun r hr => Or.inl ⟨h5 r hr, hf r hr⟩, ⟨rfl, fun f _ => rfl⟩, bd0, ⟨⟨by decide, fun i hi => absurd hi (Nat.not_lt_zero _)⟩, fun i j hi => absurd hi (Nat.not_lt_zero _), Or.inl rfl, ⟨rfl, fun i hi => absurd hi (Nat.not_lt_zero _)⟩, ⟨rfl, fun i hi => absurd hi (Nat.not_lt_zero _)⟩⟩, ⟨fun _ => 0, 0, Nat.zero_le _, h83, rfl, fun i hi => absurd hi (Nat.not_lt_zero _), fun d hd j hj => ?_, ⟨rfl, rfl, rfl, fun i hi => rfl⟩⟩, fun k hk' => Or.inl ⟨h8 k hk', hk k hk'⟩⟩, rfl, rfl, rfl⟩
  have e : d = 0 := by omega
  subst e
  rw [show mtR (fun _ => 0) 0 = mt0 from rfl, mtv0]
  rfl
/-- the addresses, by the number of the cell -/
def gN (g : GG) (q r : Nat → Nat) : GG := (g.1, (fun k => if k < 39 then q k else r k), g.2.2.1, g.2.2.2)
theorem we_0 {g : GG} {q r : Nat → Nat} {f2 f5 f8 fw ff fk : Nat → Int32} : (wX4 g q f2 f5 f8)[0]? = some (gad (gN g q r) 0, wc (gN g q r) (u0 f2 f5 f8 fw ff fk) 0 (cKeys)) := by
  simp only [wc, cKeys, List.mapIdx_cons, List.mapIdx_nil, wv]
  rfl
theorem we_1 {g : GG} {q r : Nat → Nat} {f2 f5 f8 fw ff fk : Nat → Int32} : (wX4 g q f2 f5 f8)[1]? = some (gad (gN g q r) 1, wc (gN g q r) (u0 f2 f5 f8 fw ff fk) 1 (cShelf 1)) := rfl
theorem we_2 {g : GG} {q r : Nat → Nat} {f2 f5 f8 fw ff fk : Nat → Int32} : (wX4 g q f2 f5 f8)[2]? = some (gad (gN g q r) 2, wc (gN g q r) (u0 f2 f5 f8 fw ff fk) 2 (cA 6)) := rfl
theorem we_3 {g : GG} {q r : Nat → Nat} {f2 f5 f8 fw ff fk : Nat → Int32} : (wX4 g q f2 f5 f8)[3]? = some (gad (gN g q r) 3, wc (gN g q r) (u0 f2 f5 f8 fw ff fk) 3 (cA 240)) := rfl
theorem we_4 {g : GG} {q r : Nat → Nat} {f2 f5 f8 fw ff fk : Nat → Int32} : (wX4 g q f2 f5 f8)[4]? = some (gad (gN g q r) 4, wc (gN g q r) (u0 f2 f5 f8 fw ff fk) 4 (cShelf 4)) := rfl
theorem we_5 {g : GG} {q r : Nat → Nat} {f2 f5 f8 fw ff fk : Nat → Int32} : (wX4 g q f2 f5 f8)[5]? = some (gad (gN g q r) 5, wc (gN g q r) (u0 f2 f5 f8 fw ff fk) 5 (cA 4)) := rfl
theorem we_6 {g : GG} {q r : Nat → Nat} {f2 f5 f8 fw ff fk : Nat → Int32} : (wX4 g q f2 f5 f8)[6]? = some (gad (gN g q r) 6, wc (gN g q r) (u0 f2 f5 f8 fw ff fk) 6 (cA 240)) := rfl
theorem we_7 {g : GG} {q r : Nat → Nat} {f2 f5 f8 fw ff fk : Nat → Int32} : (wX4 g q f2 f5 f8)[7]? = some (gad (gN g q r) 7, wc (gN g q r) (u0 f2 f5 f8 fw ff fk) 7 (cShelf 7)) := rfl
theorem we_8 {g : GG} {q r : Nat → Nat} {f2 f5 f8 fw ff fk : Nat → Int32} : (wX4 g q f2 f5 f8)[8]? = some (gad (gN g q r) 8, wc (gN g q r) (u0 f2 f5 f8 fw ff fk) 8 (cA 4)) := rfl
theorem we_9 {g : GG} {q r : Nat → Nat} {f2 f5 f8 fw ff fk : Nat → Int32} : (wX4 g q f2 f5 f8)[9]? = some (gad (gN g q r) 9, wc (gN g q r) (u0 f2 f5 f8 fw ff fk) 9 (cA 160)) := rfl
theorem we_10 {g : GG} {q r : Nat → Nat} {f2 f5 f8 fw ff fk : Nat → Int32} : (wX4 g q f2 f5 f8)[10]? = some (gad (gN g q r) 10, wc (gN g q r) (u0 f2 f5 f8 fw ff fk) 10 (cLayout 10)) := rfl
theorem we_11 {g : GG} {q r : Nat → Nat} {f2 f5 f8 fw ff fk : Nat → Int32} : (wX4 g q f2 f5 f8)[11]? = some (gad (gN g q r) 11, wc (gN g q r) (u0 f2 f5 f8 fw ff fk) 11 (cA 7)) := rfl
theorem we_12 {g : GG} {q r : Nat → Nat} {f2 f5 f8 fw ff fk : Nat → Int32} : (wX4 g q f2 f5 f8)[12]? = some (gad (gN g q r) 12, wc (gN g q r) (u0 f2 f5 f8 fw ff fk) 12 (cA 7)) := rfl
theorem we_13 {g : GG} {q r : Nat → Nat} {f2 f5 f8 fw ff fk : Nat → Int32} : (wX4 g q f2 f5 f8)[13]? = some (gad (gN g q r) 13, wc (gN g q r) (u0 f2 f5 f8 fw ff fk) 13 (cA 7)) := rfl
theorem we_14 {g : GG} {q r : Nat → Nat} {f2 f5 f8 fw ff fk : Nat → Int32} : (wX4 g q f2 f5 f8)[14]? = some (gad (gN g q r) 14, wc (gN g q r) (u0 f2 f5 f8 fw ff fk) 14 (cA 7)) := rfl
theorem we_15 {g : GG} {q r : Nat → Nat} {f2 f5 f8 fw ff fk : Nat → Int32} : (wX4 g q f2 f5 f8)[15]? = some (gad (gN g q r) 15, wc (gN g q r) (u0 f2 f5 f8 fw ff fk) 15 (cLayout 15)) := rfl
theorem we_16 {g : GG} {q r : Nat → Nat} {f2 f5 f8 fw ff fk : Nat → Int32} : (wX4 g q f2 f5 f8)[16]? = some (gad (gN g q r) 16, wc (gN g q r) (u0 f2 f5 f8 fw ff fk) 16 (cA 7)) := rfl
theorem we_17 {g : GG} {q r : Nat → Nat} {f2 f5 f8 fw ff fk : Nat → Int32} : (wX4 g q f2 f5 f8)[17]? = some (gad (gN g q r) 17, wc (gN g q r) (u0 f2 f5 f8 fw ff fk) 17 (cA 7)) := rfl
theorem we_18 {g : GG} {q r : Nat → Nat} {f2 f5 f8 fw ff fk : Nat → Int32} : (wX4 g q f2 f5 f8)[18]? = some (gad (gN g q r) 18, wc (gN g q r) (u0 f2 f5 f8 fw ff fk) 18 (cA 7)) := rfl
theorem we_19 {g : GG} {q r : Nat → Nat} {f2 f5 f8 fw ff fk : Nat → Int32} : (wX4 g q f2 f5 f8)[19]? = some (gad (gN g q r) 19, wc (gN g q r) (u0 f2 f5 f8 fw ff fk) 19 (cA 7)) := rfl
theorem we_20 {g : GG} {q r : Nat → Nat} {f2 f5 f8 fw ff fk : Nat → Int32} : (wX4 g q f2 f5 f8)[20]? = some (gad (gN g q r) 20, wc (gN g q r) (u0 f2 f5 f8 fw ff fk) 20 (cMoment 20)) := rfl
theorem we_21 {g : GG} {q r : Nat → Nat} {f2 f5 f8 fw ff fk : Nat → Int32} : (wX4 g q f2 f5 f8)[21]? = some (gad (gN g q r) 21, wc (gN g q r) (u0 f2 f5 f8 fw ff fk) 21 (cA 7)) := rfl
theorem we_22 {g : GG} {q r : Nat → Nat} {f2 f5 f8 fw ff fk : Nat → Int32} : (wX4 g q f2 f5 f8)[22]? = some (gad (gN g q r) 22, wc (gN g q r) (u0 f2 f5 f8 fw ff fk) 22 (cMoment 22)) := rfl
theorem we_23 {g : GG} {q r : Nat → Nat} {f2 f5 f8 fw ff fk : Nat → Int32} : (wX4 g q f2 f5 f8)[23]? = some (gad (gN g q r) 23, wc (gN g q r) (u0 f2 f5 f8 fw ff fk) 23 (cA 7)) := rfl
theorem we_24 {g : GG} {q r : Nat → Nat} {f2 f5 f8 fw ff fk : Nat → Int32} : (wX4 g q f2 f5 f8)[24]? = some (gad (gN g q r) 24, wc (gN g q r) (u0 f2 f5 f8 fw ff fk) 24 (cWires)) := by
  simp only [wc, cWires, List.mapIdx_cons, List.mapIdx_nil, wv]
  rfl
theorem we_25 {g : GG} {q r : Nat → Nat} {f2 f5 f8 fw ff fk : Nat → Int32} : (wX4 g q f2 f5 f8)[25]? = some (gad (gN g q r) 25, wc (gN g q r) (u0 f2 f5 f8 fw ff fk) 25 (cA 7)) := rfl
theorem we_26 {g : GG} {q r : Nat → Nat} {f2 f5 f8 fw ff fk : Nat → Int32} : (wX4 g q f2 f5 f8)[26]? = some (gad (gN g q r) 26, wc (gN g q r) (u0 f2 f5 f8 fw ff fk) 26 (cA 7)) := rfl
theorem we_27 {g : GG} {q r : Nat → Nat} {f2 f5 f8 fw ff fk : Nat → Int32} : (wX4 g q f2 f5 f8)[27]? = some (gad (gN g q r) 27, wc (gN g q r) (u0 f2 f5 f8 fw ff fk) 27 (cA 4)) := rfl
theorem we_28 {g : GG} {q r : Nat → Nat} {f2 f5 f8 fw ff fk : Nat → Int32} : (wX4 g q f2 f5 f8)[28]? = some (gad (gN g q r) 28, wc (gN g q r) (u0 f2 f5 f8 fw ff fk) 28 (cA 4)) := rfl
theorem we_29 {g : GG} {q r : Nat → Nat} {f2 f5 f8 fw ff fk : Nat → Int32} : (wX4 g q f2 f5 f8)[29]? = some (gad (gN g q r) 29, wc (gN g q r) (u0 f2 f5 f8 fw ff fk) 29 (cA 4)) := rfl
theorem we_30 {g : GG} {q r : Nat → Nat} {f2 f5 f8 fw ff fk : Nat → Int32} : (wX4 g q f2 f5 f8)[30]? = some (gad (gN g q r) 30, wc (gN g q r) (u0 f2 f5 f8 fw ff fk) 30 (cA 128)) := rfl
theorem we_31 {g : GG} {q r : Nat → Nat} {f2 f5 f8 fw ff fk : Nat → Int32} : (wX4 g q f2 f5 f8)[31]? = some (gad (gN g q r) 31, wc (gN g q r) (u0 f2 f5 f8 fw ff fk) 31 (.inl (2, 6, 32))) := by
  show some (q 31, Zo g 6 (fun i => q (32 + i))) = _
  rw [Zo_eq (r' := fun i => if 32 + i < 39 then q (32 + i) else r (32 + i)) (fun i hi => (if_pos (by omega)).symm)]
  rfl
theorem we_32 {g : GG} {q r : Nat → Nat} {f2 f5 f8 fw ff fk : Nat → Int32} : (wX4 g q f2 f5 f8)[32]? = some (gad (gN g q r) 32, wc (gN g q r) (u0 f2 f5 f8 fw ff fk) 32 (cA 128)) := rfl
theorem we_33 {g : GG} {q r : Nat → Nat} {f2 f5 f8 fw ff fk : Nat → Int32} : (wX4 g q f2 f5 f8)[33]? = some (gad (gN g q r) 33, wc (gN g q r) (u0 f2 f5 f8 fw ff fk) 33 (cA 128)) := rfl
theorem we_34 {g : GG} {q r : Nat → Nat} {f2 f5 f8 fw ff fk : Nat → Int32} : (wX4 g q f2 f5 f8)[34]? = some (gad (gN g q r) 34, wc (gN g q r) (u0 f2 f5 f8 fw ff fk) 34 (cA 128)) := rfl
theorem we_35 {g : GG} {q r : Nat → Nat} {f2 f5 f8 fw ff fk : Nat → Int32} : (wX4 g q f2 f5 f8)[35]? = some (gad (gN g q r) 35, wc (gN g q r) (u0 f2 f5 f8 fw ff fk) 35 (cA 128)) := rfl
theorem we_36 {g : GG} {q r : Nat → Nat} {f2 f5 f8 fw ff fk : Nat → Int32} : (wX4 g q f2 f5 f8)[36]? = some (gad (gN g q r) 36, wc (gN g q r) (u0 f2 f5 f8 fw ff fk) 36 (cA 128)) := rfl
theorem we_37 {g : GG} {q r : Nat → Nat} {f2 f5 f8 fw ff fk : Nat → Int32} : (wX4 g q f2 f5 f8)[37]? = some (gad (gN g q r) 37, wc (gN g q r) (u0 f2 f5 f8 fw ff fk) 37 (cA 128)) := rfl
theorem we_38 {g : GG} {q r : Nat → Nat} {f2 f5 f8 fw ff fk : Nat → Int32} : (wX4 g q f2 f5 f8)[38]? = some (gad (gN g q r) 38, wc (gN g q r) (u0 f2 f5 f8 fw ff fk) 38 (cA 6)) := rfl
theorem we_39 {g : GG} {q r : Nat → Nat} {f2 f5 f8 fw ff fk : Nat → Int32} : (wX5 g r fw ff fk)[0]? = some (gad (gN g q r) 39, wc (gN g q r) (u0 f2 f5 f8 fw ff fk) 39 (cModel)) := by
  simp only [wc, cModel, List.mapIdx_cons, List.mapIdx_nil, wv]
  rfl
theorem we_40 {g : GG} {q r : Nat → Nat} {f2 f5 f8 fw ff fk : Nat → Int32} : (wX5 g r fw ff fk)[1]? = some (gad (gN g q r) 40, wc (gN g q r) (u0 f2 f5 f8 fw ff fk) 40 (cA 6)) := rfl
theorem we_41 {g : GG} {q r : Nat → Nat} {f2 f5 f8 fw ff fk : Nat → Int32} : (wX5 g r fw ff fk)[2]? = some (gad (gN g q r) 41, wc (gN g q r) (u0 f2 f5 f8 fw ff fk) 41 (cA 6)) := rfl
theorem we_42 {g : GG} {q r : Nat → Nat} {f2 f5 f8 fw ff fk : Nat → Int32} : (wX5 g r fw ff fk)[3]? = some (gad (gN g q r) 42, wc (gN g q r) (u0 f2 f5 f8 fw ff fk) 42 (cA 240)) := rfl
theorem we_43 {g : GG} {q r : Nat → Nat} {f2 f5 f8 fw ff fk : Nat → Int32} : (wX5 g r fw ff fk)[4]? = some (gad (gN g q r) 43, wc (gN g q r) (u0 f2 f5 f8 fw ff fk) 43 (cA 4)) := rfl
theorem we_44 {g : GG} {q r : Nat → Nat} {f2 f5 f8 fw ff fk : Nat → Int32} : (wX5 g r fw ff fk)[5]? = some (gad (gN g q r) 44, wc (gN g q r) (u0 f2 f5 f8 fw ff fk) 44 (.inl (1, 240, 0))) := rfl
theorem we_45 {g : GG} {q r : Nat → Nat} {f2 f5 f8 fw ff fk : Nat → Int32} : (wX5 g r fw ff fk)[6]? = some (gad (gN g q r) 45, wc (gN g q r) (u0 f2 f5 f8 fw ff fk) 45 (cA 40)) := rfl
theorem we_46 {g : GG} {q r : Nat → Nat} {f2 f5 f8 fw ff fk : Nat → Int32} : (wX5 g r fw ff fk)[7]? = some (gad (gN g q r) 46, wc (gN g q r) (u0 f2 f5 f8 fw ff fk) 46 (cA 14)) := rfl
theorem we_47 {g : GG} {q r : Nat → Nat} {f2 f5 f8 fw ff fk : Nat → Int32} : (wX5 g r fw ff fk)[8]? = some (gad (gN g q r) 47, wc (gN g q r) (u0 f2 f5 f8 fw ff fk) 47 (cA 14)) := rfl
theorem we_48 {g : GG} {q r : Nat → Nat} {f2 f5 f8 fw ff fk : Nat → Int32} : (wX5 g r fw ff fk)[9]? = some (gad (gN g q r) 48, wc (gN g q r) (u0 f2 f5 f8 fw ff fk) 48 (cA 14)) := rfl
theorem we_49 {g : GG} {q r : Nat → Nat} {f2 f5 f8 fw ff fk : Nat → Int32} : (wX5 g r fw ff fk)[10]? = some (gad (gN g q r) 49, wc (gN g q r) (u0 f2 f5 f8 fw ff fk) 49 (cA 14)) := rfl
theorem we_50 {g : GG} {q r : Nat → Nat} {f2 f5 f8 fw ff fk : Nat → Int32} : (wX5 g r fw ff fk)[11]? = some (gad (gN g q r) 50, wc (gN g q r) (u0 f2 f5 f8 fw ff fk) 50 (cA 410)) := rfl
theorem we_51 {g : GG} {q r : Nat → Nat} {f2 f5 f8 fw ff fk : Nat → Int32} : (wX5 g r fw ff fk)[12]? = some (gad (gN g q r) 51, wc (gN g q r) (u0 f2 f5 f8 fw ff fk) 51 (cA 1230)) := rfl
theorem we_52 {g : GG} {q r : Nat → Nat} {f2 f5 f8 fw ff fk : Nat → Int32} : (wX5 g r fw ff fk)[13]? = some (gad (gN g q r) 52, wc (gN g q r) (u0 f2 f5 f8 fw ff fk) 52 (cA 3)) := rfl
theorem we_53 {g : GG} {q r : Nat → Nat} {f2 f5 f8 fw ff fk : Nat → Int32} : (wX5 g r fw ff fk)[14]? = some (gad (gN g q r) 53, wc (gN g q r) (u0 f2 f5 f8 fw ff fk) 53 (cA 10)) := rfl
theorem we_54 {g : GG} {q r : Nat → Nat} {f2 f5 f8 fw ff fk : Nat → Int32} : (wX5 g r fw ff fk)[15]? = some (gad (gN g q r) 54, wc (gN g q r) (u0 f2 f5 f8 fw ff fk) 54 (cA 7)) := rfl
theorem we_55 {g : GG} {q r : Nat → Nat} {f2 f5 f8 fw ff fk : Nat → Int32} : (wX5 g r fw ff fk)[16]? = some (gad (gN g q r) 55, wc (gN g q r) (u0 f2 f5 f8 fw ff fk) 55 (cA 7)) := rfl
theorem we_56 {g : GG} {q r : Nat → Nat} {f2 f5 f8 fw ff fk : Nat → Int32} : (wX5 g r fw ff fk)[17]? = some (gad (gN g q r) 56, wc (gN g q r) (u0 f2 f5 f8 fw ff fk) 56 (cA 7)) := rfl
theorem we_57 {g : GG} {q r : Nat → Nat} {f2 f5 f8 fw ff fk : Nat → Int32} : (wX5 g r fw ff fk)[18]? = some (gad (gN g q r) 57, wc (gN g q r) (u0 f2 f5 f8 fw ff fk) 57 (cA 4)) := rfl
theorem we_58 {g : GG} {q r : Nat → Nat} {f2 f5 f8 fw ff fk : Nat → Int32} : (wX5 g r fw ff fk)[19]? = some (gad (gN g q r) 58, wc (gN g q r) (u0 f2 f5 f8 fw ff fk) 58 (cA 21)) := rfl
theorem we_59 {g : GG} {q r : Nat → Nat} {f2 f5 f8 fw ff fk : Nat → Int32} : (wX5 g r fw ff fk)[20]? = some (gad (gN g q r) 59, wc (gN g q r) (u0 f2 f5 f8 fw ff fk) 59 (cA 6)) := rfl
theorem we_60 {g : GG} {q r : Nat → Nat} {f2 f5 f8 fw ff fk : Nat → Int32} : (wX5 g r fw ff fk)[21]? = some (gad (gN g q r) 60, wc (gN g q r) (u0 f2 f5 f8 fw ff fk) 60 (cA 128)) := rfl
theorem w_in {g : GG} {q r : Nat → Nat} {f2 f5 f8 fw ff fk : Nat → Int32} : ∀ (k : Nat) (s : CS), cfg[k]? = some s → (wX4 g q f2 f5 f8 ++ wX5 g r fw ff fk)[k]? = some (gad (gN g q r) k, wc (gN g q r) (u0 f2 f5 f8 fw ff fk) k s) := fun k s h => by
  have e4 : (wX4 g q f2 f5 f8).length = 39 := rfl
  by_cases hk : k < 39
  · rw [List.getElem?_append_left (by rw [e4]; exact hk)]
    match k, hk with
    | 0, _ => have e : s = cKeys := (Option.some.inj (show some (cKeys) = some s from h)).symm; subst e; exact we_0
    | 1, _ => have e : s = cShelf 1 := (Option.some.inj (show some (cShelf 1) = some s from h)).symm; subst e; exact we_1
    | 2, _ => have e : s = cA 6 := (Option.some.inj (show some (cA 6) = some s from h)).symm; subst e; exact we_2
    | 3, _ => have e : s = cA 240 := (Option.some.inj (show some (cA 240) = some s from h)).symm; subst e; exact we_3
    | 4, _ => have e : s = cShelf 4 := (Option.some.inj (show some (cShelf 4) = some s from h)).symm; subst e; exact we_4
    | 5, _ => have e : s = cA 4 := (Option.some.inj (show some (cA 4) = some s from h)).symm; subst e; exact we_5
    | 6, _ => have e : s = cA 240 := (Option.some.inj (show some (cA 240) = some s from h)).symm; subst e; exact we_6
    | 7, _ => have e : s = cShelf 7 := (Option.some.inj (show some (cShelf 7) = some s from h)).symm; subst e; exact we_7
    | 8, _ => have e : s = cA 4 := (Option.some.inj (show some (cA 4) = some s from h)).symm; subst e; exact we_8
    | 9, _ => have e : s = cA 160 := (Option.some.inj (show some (cA 160) = some s from h)).symm; subst e; exact we_9
    | 10, _ => have e : s = cLayout 10 := (Option.some.inj (show some (cLayout 10) = some s from h)).symm; subst e; exact we_10
    | 11, _ => have e : s = cA 7 := (Option.some.inj (show some (cA 7) = some s from h)).symm; subst e; exact we_11
    | 12, _ => have e : s = cA 7 := (Option.some.inj (show some (cA 7) = some s from h)).symm; subst e; exact we_12
    | 13, _ => have e : s = cA 7 := (Option.some.inj (show some (cA 7) = some s from h)).symm; subst e; exact we_13
    | 14, _ => have e : s = cA 7 := (Option.some.inj (show some (cA 7) = some s from h)).symm; subst e; exact we_14
    | 15, _ => have e : s = cLayout 15 := (Option.some.inj (show some (cLayout 15) = some s from h)).symm; subst e; exact we_15
    | 16, _ => have e : s = cA 7 := (Option.some.inj (show some (cA 7) = some s from h)).symm; subst e; exact we_16
    | 17, _ => have e : s = cA 7 := (Option.some.inj (show some (cA 7) = some s from h)).symm; subst e; exact we_17
    | 18, _ => have e : s = cA 7 := (Option.some.inj (show some (cA 7) = some s from h)).symm; subst e; exact we_18
    | 19, _ => have e : s = cA 7 := (Option.some.inj (show some (cA 7) = some s from h)).symm; subst e; exact we_19
    | 20, _ => have e : s = cMoment 20 := (Option.some.inj (show some (cMoment 20) = some s from h)).symm; subst e; exact we_20
    | 21, _ => have e : s = cA 7 := (Option.some.inj (show some (cA 7) = some s from h)).symm; subst e; exact we_21
    | 22, _ => have e : s = cMoment 22 := (Option.some.inj (show some (cMoment 22) = some s from h)).symm; subst e; exact we_22
    | 23, _ => have e : s = cA 7 := (Option.some.inj (show some (cA 7) = some s from h)).symm; subst e; exact we_23
    | 24, _ => have e : s = cWires := (Option.some.inj (show some (cWires) = some s from h)).symm; subst e; exact we_24
    | 25, _ => have e : s = cA 7 := (Option.some.inj (show some (cA 7) = some s from h)).symm; subst e; exact we_25
    | 26, _ => have e : s = cA 7 := (Option.some.inj (show some (cA 7) = some s from h)).symm; subst e; exact we_26
    | 27, _ => have e : s = cA 4 := (Option.some.inj (show some (cA 4) = some s from h)).symm; subst e; exact we_27
    | 28, _ => have e : s = cA 4 := (Option.some.inj (show some (cA 4) = some s from h)).symm; subst e; exact we_28
    | 29, _ => have e : s = cA 4 := (Option.some.inj (show some (cA 4) = some s from h)).symm; subst e; exact we_29
    | 30, _ => have e : s = cA 128 := (Option.some.inj (show some (cA 128) = some s from h)).symm; subst e; exact we_30
    | 31, _ => have e : s = .inl (2, 6, 32) := (Option.some.inj (show some (.inl (2, 6, 32)) = some s from h)).symm; subst e; exact we_31
    | 32, _ => have e : s = cA 128 := (Option.some.inj (show some (cA 128) = some s from h)).symm; subst e; exact we_32
    | 33, _ => have e : s = cA 128 := (Option.some.inj (show some (cA 128) = some s from h)).symm; subst e; exact we_33
    | 34, _ => have e : s = cA 128 := (Option.some.inj (show some (cA 128) = some s from h)).symm; subst e; exact we_34
    | 35, _ => have e : s = cA 128 := (Option.some.inj (show some (cA 128) = some s from h)).symm; subst e; exact we_35
    | 36, _ => have e : s = cA 128 := (Option.some.inj (show some (cA 128) = some s from h)).symm; subst e; exact we_36
    | 37, _ => have e : s = cA 128 := (Option.some.inj (show some (cA 128) = some s from h)).symm; subst e; exact we_37
    | 38, _ => have e : s = cA 6 := (Option.some.inj (show some (cA 6) = some s from h)).symm; subst e; exact we_38
    | k + 39, hk => exact absurd hk (by omega)
  · rw [List.getElem?_append_right (by rw [e4]; omega), e4]
    have h61 := cfg_lt h
    obtain ⟨j, rfl⟩ : ∃ j, k = 39 + j := ⟨k - 39, by omega⟩
    rw [show 39 + j - 39 = j by omega]
    match j, h61 with
    | 0, _ => have e : s = cModel := (Option.some.inj (show some (cModel) = some s from h)).symm; subst e; exact we_39
    | 1, _ => have e : s = cA 6 := (Option.some.inj (show some (cA 6) = some s from h)).symm; subst e; exact we_40
    | 2, _ => have e : s = cA 6 := (Option.some.inj (show some (cA 6) = some s from h)).symm; subst e; exact we_41
    | 3, _ => have e : s = cA 240 := (Option.some.inj (show some (cA 240) = some s from h)).symm; subst e; exact we_42
    | 4, _ => have e : s = cA 4 := (Option.some.inj (show some (cA 4) = some s from h)).symm; subst e; exact we_43
    | 5, _ => have e : s = .inl (1, 240, 0) := (Option.some.inj (show some (.inl (1, 240, 0)) = some s from h)).symm; subst e; exact we_44
    | 6, _ => have e : s = cA 40 := (Option.some.inj (show some (cA 40) = some s from h)).symm; subst e; exact we_45
    | 7, _ => have e : s = cA 14 := (Option.some.inj (show some (cA 14) = some s from h)).symm; subst e; exact we_46
    | 8, _ => have e : s = cA 14 := (Option.some.inj (show some (cA 14) = some s from h)).symm; subst e; exact we_47
    | 9, _ => have e : s = cA 14 := (Option.some.inj (show some (cA 14) = some s from h)).symm; subst e; exact we_48
    | 10, _ => have e : s = cA 14 := (Option.some.inj (show some (cA 14) = some s from h)).symm; subst e; exact we_49
    | 11, _ => have e : s = cA 410 := (Option.some.inj (show some (cA 410) = some s from h)).symm; subst e; exact we_50
    | 12, _ => have e : s = cA 1230 := (Option.some.inj (show some (cA 1230) = some s from h)).symm; subst e; exact we_51
    | 13, _ => have e : s = cA 3 := (Option.some.inj (show some (cA 3) = some s from h)).symm; subst e; exact we_52
    | 14, _ => have e : s = cA 10 := (Option.some.inj (show some (cA 10) = some s from h)).symm; subst e; exact we_53
    | 15, _ => have e : s = cA 7 := (Option.some.inj (show some (cA 7) = some s from h)).symm; subst e; exact we_54
    | 16, _ => have e : s = cA 7 := (Option.some.inj (show some (cA 7) = some s from h)).symm; subst e; exact we_55
    | 17, _ => have e : s = cA 7 := (Option.some.inj (show some (cA 7) = some s from h)).symm; subst e; exact we_56
    | 18, _ => have e : s = cA 4 := (Option.some.inj (show some (cA 4) = some s from h)).symm; subst e; exact we_57
    | 19, _ => have e : s = cA 21 := (Option.some.inj (show some (cA 21) = some s from h)).symm; subst e; exact we_58
    | 20, _ => have e : s = cA 6 := (Option.some.inj (show some (cA 6) = some s from h)).symm; subst e; exact we_59
    | 21, _ => have e : s = cA 128 := (Option.some.inj (show some (cA 128) = some s from h)).symm; subst e; exact we_60
    | j + 22, hj => exact absurd hj (by omega)
theorem ND_WD {g : GG} {A : Nat → Prop} {s : State} {q r : Nat → Nat} {f2 f5 f8 fw ff fk : Nat → Int32} {H : Heap} {locs : List Loc} (hW : ND g A s (wX4 g q f2 f5 f8 ++ wX5 g r fw ff fk) H locs) : WD (gN g q r) A s (u0 f2 f5 f8 fw ff fk) H locs := by
  refine ⟨fun k x hx => ?_, ⟨fun i j a b ha hb e => ?_, fun k x hx => ?_⟩, hW.2.2⟩
  · obtain ⟨z, c, rfl⟩ := wsC_inv hx
    exact hW.1 k _ (w_in k z c)
  · obtain ⟨z, c, rfl⟩ := wsC_inv ha
    obtain ⟨z2, c2, rfl⟩ := wsC_inv hb
    exact hW.2.1.1 i j _ _ (w_in i z c) (w_in j z2 c2) e
  · obtain ⟨z, c, rfl⟩ := wsC_inv hx
    exact hW.2.1.2 k _ (w_in k z c)
