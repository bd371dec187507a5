/-! calls that only ask: trees, acts, the board -/
theorem n10 : ((1 : Nat) = 0) = False := by simp
theorem n20 : ((2 : Nat) = 0) = False := by simp
theorem n30 : ((3 : Nat) = 0) = False := by simp
theorem n40 : ((4 : Nat) = 0) = False := by simp
theorem numB7 {S : HS} {b k w : Nat} {A : AB} {kd : Nat → Int32} (hob : oc b = some 0) (hCB : CB S b kd A) (hk : k < 10) (hw : w < 4) (ht : A.1.testBit k = true) : f_X0_numberOf b (nI k) (nI w) S = some (A.2.2.1 k w) := by
  rw [num7 hob hk hw, hCB.2.2.1 k w ht hw]