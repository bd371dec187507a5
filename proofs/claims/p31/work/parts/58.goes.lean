/-! the model goes through a text -/
theorem i32_ss {p c : Int32} : p - c - 1 = p - (c + 1) := by grind
theorem i32_pp {p c : Int32} : p - (p - c) = c := by grind
theorem i32_p0 {p : Int32} : p - 0 = p := by grind
section
variable {S0 S : HS} {p : Int32} {L : List Nat}
theorem fx_s {V α : Type} (F : (V → Option α) → V → Option α) (n : Nat) (v : V) : fx F (n + 1) v = F (fx F n) v := rfl
end
section
variable {kd : Nat → Int32} {fr to : Nat → Nat} {ns nr : Nat} {A : AB} {len : Nat → Nat} {trn : Nat → Bool} {txt : Nat → Nat → Nat} {S0 S : HS} {p : Int32} {L : List Nat}
end
