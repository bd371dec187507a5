/-! the model takes what it tried; it does all acts anew -/
def tkn (T : HS) (m : Nat) : Nat → Int32 := fun t => if t < m then T.1 56 t else T.1 53 t
theorem tkn_s (T : HS) (m : Nat) : upd (tkn T m) m (T.1 56 m) = tkn T (m + 1) := by
  funext t
  unfold upd tkn
  by_cases e : t = m
  · rw [if_pos e, if_pos (by omega), e]
  · rw [if_neg e]
    by_cases h : t < m
    · rw [if_pos h, if_pos (by omega)]
    · rw [if_neg h, if_neg (by omega)]
theorem sA_s53 (T : HS) (f : Nat → Int32) (m : Nat) (v : Int32) : sI (sA T 53 f) 53 m v = sA T 53 (upd f m v) := by
  unfold sI sA
  refine Prod.ext ?_ rfl
  funext h
  dsimp only
  by_cases e : h = 53
  · simp [e]
  · simp [e]
/-- a shape has other numbers than before -/
def dif (f g : Nat → Int32) (k : Nat) : Bool := !(decide (f (4 * k) = g (4 * k)) && decide (f (4 * k + 1) = g (4 * k + 1)) && decide (f (4 * k + 2) = g (4 * k + 2)) && decide (f (4 * k + 3) = g (4 * k + 3)))
def smj (f g : Nat → Int32) (k : Nat) : Nat → Bool
  | 0 => true
  | j + 1 => smj f g k j && decide (f (4 * k + j) = g (4 * k + j))
theorem CB_aeq {S : HS} {b : Nat} {kd : Nat → Int32} {A B : AB} (h : CB S b kd A) (he : aeq kd A B) : CB S b kd B := by
  obtain ⟨h1, h2, h3, h4⟩ := h
  obtain ⟨e1, e2, e3, e4⟩ := he
  refine ⟨by rw [← e1]; exact h1, by rw [← e2]; exact h2, fun k w hk hw => ?_, fun j w hj h6 hw => ?_⟩
  · rw [← e1] at hk
    rw [h3 k w hk hw, e3 k w hk hw]
  · rw [← e2] at hj
    rw [h4 j w hj h6 hw, e4 j w hj h6 hw]
section
variable {S : HS} {na nm nr ns : Nat} {kd : Nat → Int32} {fr to : Nat → Nat} {lb : Nat → Bool} {dd : Nat → Int32} {sj : Nat → Nat} {qq : Nat → Nat → Int32} {dr ab st : Nat → Nat}
end
