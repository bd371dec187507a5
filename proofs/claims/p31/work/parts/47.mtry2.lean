/-! the model's tries against the acts of an abstract board -/
def RGt (th : Nat) (tr : Nat → Int32) : Prop := ∀ k, th.testBit k = true → rngB (tr (4 * k)) 0 = true ∧ rngB (tr (4 * k + 1)) 1 = true
section
variable {S : HS} {nm nr ns : Nat} {kd : Nat → Int32} {fr to : Nat → Nat} {lb : Nat → Bool} {A : AB}
theorem Does0 {q : Nat → Int32} {s : Nat} {A' : AB} : Does kd fr to lb 0 s q A A' ↔ A'.1 = A.1 ||| 2 ^ s ∧ A'.2.1 = A.2.1 ∧ (∀ k w, A'.1.testBit k = true → w < 4 → A'.2.2.1 k w = if k = s then q w else A.2.2.1 k w) ∧ TSm kd A.2.1 A.2.2.2 A'.2.2.2 := by
  unfold Does
  rw [if_pos rfl]
theorem Does1 {q : Nat → Int32} {s : Nat} {A' : AB} : Does kd fr to lb 1 s q A A' ↔ A.1.testBit s = true ∧ A'.1 = A.1 ∧ A'.2.1 = A.2.1 ∧ TSm kd A.2.1 A.2.2.2 A'.2.2.2 ∧ (RG A.1 A'.2.2.1 0 ∧ RG A.1 A'.2.2.1 1) ∧ ∀ k w, A.1.testBit k = true → w < 4 → A'.2.2.1 k w = A.2.2.1 k w + (if w < 2 ∧ (clo (lkf A.2.1 kd w) fr to s).testBit k = true then q w - A.2.2.1 s w else 0) := by
  unfold Does
  rw [if_neg (by decide), if_pos rfl]
theorem Does2 {q : Nat → Int32} {s : Nat} {A' : AB} : Does kd fr to lb 2 s q A A' ↔ A.1.testBit s = true ∧ A'.1 = A.1 ∧ A'.2.1 = A.2.1 ∧ TSm kd A.2.1 A.2.2.2 A'.2.2.2 ∧ (RG A.1 A'.2.2.1 0 ∧ RG A.1 A'.2.2.1 1) ∧ ∃ N1, GrA kd fr to lb A.1 A.2.1 A.2.2.2 0 (clo (lkf A.2.1 kd 2) fr to s) s (q 2) A.2.2.1 N1 ∧ GrA kd fr to lb A.1 A.2.1 A.2.2.2 1 (clo (lkf A.2.1 kd 3) fr to s) s (q 3) N1 A'.2.2.1 := by
  unfold Does
  rw [if_neg (by decide), if_neg (by decide), if_pos rfl]
theorem Does4 {q : Nat → Int32} {s : Nat} {A' : AB} : Does kd fr to lb 4 s q A A' ↔ A.2.1.testBit s = true ∧ A'.1 = A.1 ∧ A'.2.1 = clr A.2.1 s ∧ NSm A.1 A.2.2.1 A'.2.2.1 ∧ TSm kd A.2.1 A.2.2.2 A'.2.2.2 := by
  unfold Does
  rw [if_neg (by decide), if_neg (by decide), if_neg (by decide), if_neg (by decide)]
theorem RGt_AI (hA : AI kd fr to lb ns nm A) {tr : Nat → Int32} (hN : rpN A.1 A.2.2.1 tr) : RGt A.1 tr := fun k hk => ⟨by rw [show 4 * k = 4 * k + 0 from rfl, hN k 0 hk (by omega)]; exact hA.2.2.2.1 0 (by omega) k hk, by rw [hN k 1 hk (by omega)]; exact hA.2.2.2.1 1 (by omega) k hk⟩
theorem i32_mg {a g c : Int32} : a + g - c = g - (c - a) := by grind
end
