/-! the model tries an act: all deeds -/
section
variable {S : HS} {nm nr ns : Nat} {kd : Nat → Int32} {fr to : Nat → Nat} {lb : Nat → Bool} {A : AB}
def cpy53 (S : HS) (i : Nat) : Nat → Int32 := fun t => if t < i then S.1 53 t else S.1 56 t
theorem cpy53_s (S : HS) (i : Nat) : upd (cpy53 S i) i (S.1 53 i) = cpy53 S (i + 1) := by
  funext t
  unfold upd cpy53
  by_cases e : t = i
  · rw [if_pos e, if_pos (by omega), e]
  · rw [if_neg e]
    by_cases h : t < i
    · rw [if_pos h, if_pos (by omega)]
    · rw [if_neg h, if_neg (by omega)]
end
