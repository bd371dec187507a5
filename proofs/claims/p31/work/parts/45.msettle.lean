/-! the model settles places -/
section
variable {S : HS} {nm nr ns : Nat} {kd : Nat → Int32} {fr to : Nat → Nat} {lb : Nat → Bool}
theorem i32_pn {a b : Int32} : a + -b = a - b := by grind
theorem bI_inj {a b : Bool} : bI a = bI b ↔ a = b := by cases a <;> cases b <;> decide
theorem low_le : ∀ g, g < 1024 → g ≠ 0 → low g 10 0 < 10 ∧ ∀ i, i < 10 → i < low g 10 0 → g.testBit i = false := by decide +kernel
end
