/-! TOLD: the floats, as the class and the reference count them -/
def bo15 : Nat → Int32 → UInt32 → Int32 → Option (Int32 × UInt32)
  | 0, _, _, _ => none
  | n + 1, v1, v2, v3 => if 128 ≤ v3 then some (v1, v2) else if (Op.cmpValue (FP.fcmp v2 FP.fconst2) CmpOp.l) < 0 then some (v1, v2) else if (FP.fmul v2 (1056964608 : UInt32)) &&& 0x7fffffff ≤ 0x7f800000 then bo15 n (v1 + 1) (FP.fmul v2 (1056964608 : UInt32)) (v3 + 1) else none
def bo44 : Nat → Int32 → UInt32 → Int32 → Option (Int32 × UInt32)
  | 0, _, _, _ => none
  | n + 1, v1, v2, v3 => if 126 ≤ v3 then some (v1, v2) else if 0 ≤ (Op.cmpValue (FP.fcmp v2 FP.fconst1) CmpOp.g) then some (v1, v2) else if (FP.fmul v2 FP.fconst2) &&& 0x7fffffff ≤ 0x7f800000 then bo44 n (v1 + (-1)) (FP.fmul v2 FP.fconst2) (v3 + 1) else none
def bo (a : UInt32) : Option Int32 :=
  if 0 < (Op.cmpValue (FP.fcmp a FP.fconst0) CmpOp.l) then
    match bo15 12 127 a 0 with
    | none => none
    | some (e, v) =>
      match bo44 12 e v 0 with
      | none => none
      | some (e, v) => if (FP.fmul v (1258291200 : UInt32)) &&& 0x7fffffff ≤ 0x7f800000 then some ((e <<< (23 &&& 31)) + ((FP.f2i (FP.fmul v (1258291200 : UInt32))) - (8388608 : Int32))) else none
  else some 0
def okf (c : UInt32) : Bool := decide (c &&& 0x7fffffff ≤ 0x7f800000) && decide (bo c = some (UInt32.toInt32 c)) && decide ((Op.cmpValue (FP.fcmp c c) CmpOp.l) = 0)
def crz (p a : Nat) : UInt32 := FP.fdiv (FP.i2f (nI p)) (FP.i2f (nI a))
def paz (c : UInt32) : UInt32 := if 0 ≤ (Op.cmpValue (FP.fcmp (FP.fsub (1068205343 : UInt32) (FP.fmul (1048576000 : UInt32) c)) (1036831949 : UInt32)) CmpOp.g) then FP.fsub (1068205343 : UInt32) (FP.fmul (1048576000 : UInt32) c) else (1036831949 : UInt32)
def okp (p a : Nat) : Bool := okf (crz p a) && decide ((FP.fmul (1048576000 : UInt32) (crz p a)) &&& 0x7fffffff ≤ 0x7f800000) && decide ((FP.fsub (1068205343 : UInt32) (FP.fmul (1048576000 : UInt32) (crz p a))) &&& 0x7fffffff ≤ 0x7f800000) && okf (paz (crz p a))
theorem okp_0 : (List.range 99).all (fun a => okp 0 (a + 1)) = true := by decide +kernel
theorem okp_1 : (List.range 99).all (fun a => okp 1 (a + 1)) = true := by decide +kernel
theorem okp_2 : (List.range 99).all (fun a => okp 2 (a + 1)) = true := by decide +kernel
theorem okp_3 : (List.range 99).all (fun a => okp 3 (a + 1)) = true := by decide +kernel
theorem okp_4 : (List.range 99).all (fun a => okp 4 (a + 1)) = true := by decide +kernel
theorem okp_5 : (List.range 99).all (fun a => okp 5 (a + 1)) = true := by decide +kernel
theorem okp_6 : (List.range 99).all (fun a => okp 6 (a + 1)) = true := by decide +kernel
theorem okp_7 : (List.range 99).all (fun a => okp 7 (a + 1)) = true := by decide +kernel
theorem okp_8 : (List.range 99).all (fun a => okp 8 (a + 1)) = true := by decide +kernel
theorem okp_9 : (List.range 99).all (fun a => okp 9 (a + 1)) = true := by decide +kernel
theorem okp_10 : (List.range 99).all (fun a => okp 10 (a + 1)) = true := by decide +kernel
theorem okp_11 : (List.range 99).all (fun a => okp 11 (a + 1)) = true := by decide +kernel
theorem okp_12 : (List.range 99).all (fun a => okp 12 (a + 1)) = true := by decide +kernel
theorem okp_13 : (List.range 99).all (fun a => okp 13 (a + 1)) = true := by decide +kernel
theorem okp_14 : (List.range 99).all (fun a => okp 14 (a + 1)) = true := by decide +kernel
theorem okp_15 : (List.range 99).all (fun a => okp 15 (a + 1)) = true := by decide +kernel
theorem okp_16 : (List.range 99).all (fun a => okp 16 (a + 1)) = true := by decide +kernel
theorem okp_17 : (List.range 99).all (fun a => okp 17 (a + 1)) = true := by decide +kernel
theorem okp_18 : (List.range 99).all (fun a => okp 18 (a + 1)) = true := by decide +kernel
theorem okp_19 : (List.range 99).all (fun a => okp 19 (a + 1)) = true := by decide +kernel
theorem okp_20 : (List.range 99).all (fun a => okp 20 (a + 1)) = true := by decide +kernel
theorem okp_21 : (List.range 99).all (fun a => okp 21 (a + 1)) = true := by decide +kernel
theorem okp_22 : (List.range 99).all (fun a => okp 22 (a + 1)) = true := by decide +kernel
theorem okp_23 : (List.range 99).all (fun a => okp 23 (a + 1)) = true := by decide +kernel
theorem okp_24 : (List.range 99).all (fun a => okp 24 (a + 1)) = true := by decide +kernel
theorem okp_25 : (List.range 99).all (fun a => okp 25 (a + 1)) = true := by decide +kernel
theorem okp_26 : (List.range 99).all (fun a => okp 26 (a + 1)) = true := by decide +kernel
theorem okp_27 : (List.range 99).all (fun a => okp 27 (a + 1)) = true := by decide +kernel
theorem okp_28 : (List.range 99).all (fun a => okp 28 (a + 1)) = true := by decide +kernel
theorem okp_29 : (List.range 99).all (fun a => okp 29 (a + 1)) = true := by decide +kernel
theorem okp_30 : (List.range 99).all (fun a => okp 30 (a + 1)) = true := by decide +kernel
theorem okp_all {p a : Nat} (hp : p ≤ 30) (ha : 1 ≤ a ∧ a ≤ 99) : okp p a = true := by
  have h : (List.range 99).all (fun a => okp p (a + 1)) = true := by
    rcases (show p = 0 ∨ p = 1 ∨ p = 2 ∨ p = 3 ∨ p = 4 ∨ p = 5 ∨ p = 6 ∨ p = 7 ∨ p = 8 ∨ p = 9 ∨ p = 10 ∨ p = 11 ∨ p = 12 ∨ p = 13 ∨ p = 14 ∨ p = 15 ∨ p = 16 ∨ p = 17 ∨ p = 18 ∨ p = 19 ∨ p = 20 ∨ p = 21 ∨ p = 22 ∨ p = 23 ∨ p = 24 ∨ p = 25 ∨ p = 26 ∨ p = 27 ∨ p = 28 ∨ p = 29 ∨ p = 30 by omega) with rfl | rfl | rfl | rfl | rfl | rfl | rfl | rfl | rfl | rfl | rfl | rfl | rfl | rfl | rfl | rfl | rfl | rfl | rfl | rfl | rfl | rfl | rfl | rfl | rfl | rfl | rfl | rfl | rfl | rfl | rfl
    · exact okp_0
    · exact okp_1
    · exact okp_2
    · exact okp_3
    · exact okp_4
    · exact okp_5
    · exact okp_6
    · exact okp_7
    · exact okp_8
    · exact okp_9
    · exact okp_10
    · exact okp_11
    · exact okp_12
    · exact okp_13
    · exact okp_14
    · exact okp_15
    · exact okp_16
    · exact okp_17
    · exact okp_18
    · exact okp_19
    · exact okp_20
    · exact okp_21
    · exact okp_22
    · exact okp_23
    · exact okp_24
    · exact okp_25
    · exact okp_26
    · exact okp_27
    · exact okp_28
    · exact okp_29
    · exact okp_30
  have h2 := List.all_eq_true.mp h (a - 1) (List.mem_range.mpr (by omega))
  rw [show a - 1 + 1 = a by omega] at h2
  exact h2
