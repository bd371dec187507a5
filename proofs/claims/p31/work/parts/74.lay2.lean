/-! a rule is laid, by both -/
theorem KK_7 : ∀ m, m < 7 → KK (nI m) := by
  intro m hm
  match m, hm with
  | 0, _ => exact Or.inl (Or.inl rfl)
  | 1, _ => exact Or.inl (Or.inr (Or.inl rfl))
  | 2, _ => exact Or.inl (Or.inr (Or.inr (Or.inl rfl)))
  | 3, _ => exact Or.inl (Or.inr (Or.inr (Or.inr (Or.inl rfl))))
  | 4, _ => exact Or.inl (Or.inr (Or.inr (Or.inr (Or.inr (Or.inl rfl)))))
  | 5, _ => exact Or.inl (Or.inr (Or.inr (Or.inr (Or.inr (Or.inr rfl)))))
  | 6, _ => exact Or.inr rfl
theorem kd7 (p : Int32) : (∃ m, m < 7 ∧ p = nI m ∧ ¬ p < 0 ∧ ¬ (6 : Int32) < p ∧ (!(decide (p < 0)) && !(decide ((6 : Int32) < p))) = true) ∨ ((p < 0 ∨ (6 : Int32) < p) ∧ (!(decide (p < 0)) && !(decide ((6 : Int32) < p))) = false) := by
  by_cases h1 : p < 0
  · exact Or.inr ⟨Or.inl h1, by simp [h1]⟩
  · by_cases h2 : (6 : Int32) < p
    · exact Or.inr ⟨Or.inr h2, by simp [h2]⟩
    · have h3 : p < nI 7 := by
        have : p ≤ 6 := Int32.not_lt.mp h2
        rw [Int32.le_iff_toInt_le, show (6 : Int32).toInt = 6 from by decide] at this
        rw [Int32.lt_iff_toInt_lt, toInt_nI (by omega)]
        omega
      obtain ⟨m, hm, rfl⟩ := nI_ofp (n := 7) (by decide) h1 h3
      exact Or.inl ⟨m, hm, rfl, h1, h2, by simp [h1, h2]⟩