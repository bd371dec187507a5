/-! the model writes an act, tries and makes it -/
def wrS (S : HS) (na : Nat) (w d s a b c e : Int32) : HS := sI (sI (sI (sI (sI (sI (sI S 46 na w) 48 na d) 49 na s) 50 (4 * na) a) 50 (4 * na + 1) b) 50 (4 * na + 2) c) 50 (4 * na + 3) e
theorem nI_p3 {x : Nat} : nI x + (3 : Int32) = nI (x + 3) := by rw [show (3 : Int32) = nI 3 from rfl, nI_add]
theorem nI_x4 {x : Nat} : (4 : Int32) * nI x = nI (4 * x) := by rw [show (4 : Int32) = nI 4 from rfl, pk_mul]
theorem wrS_o {S : HS} {na x : Nat} {w d s a b c e : Int32} (h : x ≠ 46 ∧ x ≠ 48 ∧ x ≠ 49 ∧ x ≠ 50) : (wrS S na w d s a b c e).1 x = S.1 x := by
  obtain ⟨h1, h2, h3, h4⟩ := h
  unfold wrS
  rw [sI_o h4, sI_o h4, sI_o h4, sI_o h4, sI_o h3, sI_o h2, sI_o h1]
theorem wrS_2 {S : HS} {na : Nat} {w d s a b c e : Int32} : (wrS S na w d s a b c e).2 = S.2 := rfl
theorem wrS_46 {S : HS} {na k : Nat} {w d s a b c e : Int32} : (wrS S na w d s a b c e).1 46 k = if k = na then w else S.1 46 k := by
  unfold wrS
  rw [sI_o (by omega), sI_o (by omega), sI_o (by omega), sI_o (by omega), sI_o (by omega), sI_o (by omega)]
  by_cases e : k = na
  · rw [if_pos e, e, sI_at]
  · rw [if_neg e, sI_k e]
section
variable {S : HS} {nm nr ns na : Nat} {kd : Nat → Int32} {fr to : Nat → Nat} {lb : Nat → Bool} {A : AB} {d : Int32} {s : Nat} {q : Nat → Int32}
def mkS (S : HS) (na w : Nat) : HS := sI (sI (sI (sI S 47 na (S.1 52 w)) 51 na 0) 52 w (nI na)) 36 12 (nI (na + 1))
theorem mkS_o {w x : Nat} (h : x ≠ 36 ∧ x ≠ 47 ∧ x ≠ 51 ∧ x ≠ 52) : (mkS S na w).1 x = S.1 x := by
  obtain ⟨h1, h2, h3, h4⟩ := h
  unfold mkS
  rw [sI_o h1, sI_o h4, sI_o h3, sI_o h2]
end
