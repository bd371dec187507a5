/-! what the calls test first -/
theorem in_or (p : Int32) (n : Nat) (hn : n < 2 ^ 31) : (∃ k, k < n ∧ p = nI k) ∨ (p < 0 ∨ ¬ p < nI n) := by
  by_cases h1 : p < 0
  · exact Or.inr (Or.inl h1)
  · by_cases h2 : p < nI n
    · exact Or.inl (nI_ofp hn h1 h2)
    · exact Or.inr (Or.inr h2)
theorem i0 : (0 : Int32).toInt = 0 := by decide
theorem i1m {n : Nat} (h : n < 2 ^ 31) : (nI n - 1).toInt = (n : Int) - 1 := by
  rw [Int32.toInt_sub, toInt_nI h, show (1 : Int32).toInt = 1 from by decide]
  simp only [Int.bmod]
  omega
theorem isN_yes {k n : Nat} (h : k < n) (hn : n < 2 ^ 31) : (!(decide (nI k < 0)) && !(decide (nI n - 1 < nI k))) = true := by
  rw [Bool.and_eq_true, Bool.not_eq_true', Bool.not_eq_true', decide_eq_false_iff_not, decide_eq_false_iff_not]
  refine ⟨nI_pos (by omega), ?_⟩
  rw [Int32.lt_iff_toInt_lt, i1m hn, toInt_nI (by omega)]
  omega
theorem isN_no {p : Int32} {n : Nat} (h : p < 0 ∨ ¬ p < nI n) (hn : n < 2 ^ 31) : (!(decide (p < 0)) && !(decide (nI n - 1 < p))) = false := by
  rw [Bool.and_eq_false_iff, Bool.not_eq_false', Bool.not_eq_false', decide_eq_true_eq, decide_eq_true_eq]
  rcases h with h | h
  · exact Or.inl h
  · right
    rw [Int32.lt_iff_toInt_lt, toInt_nI hn] at h
    rw [Int32.lt_iff_toInt_lt, i1m hn]
    omega
section
variable {S : HS} {p : Int32}
theorem rDr_y {d : Nat} (hd : d < 4) : f_X7_requireDrawer (nI d) S = some (S, (0, 0)) := by
  unfold f_X7_requireDrawer
  rw [if_neg (nI_pos (by omega)), if_pos (show nI d < (4 : Int32) from lt_nI (n := 4) hd (by decide))]
theorem rDr_n (h : p < 0 ∨ ¬ p < 4) : f_X7_requireDrawer p S = some (S, (1, 0)) := by
  unfold f_X7_requireDrawer f_X7_requireDrawer_b9
  rcases h with h | h
  · rw [if_pos h]
  · by_cases h1 : p < 0
    · rw [if_pos h1]
    · rw [if_neg h1, if_neg h]
theorem rSh_y {k ns : Nat} (e : S.1 2 0 = nI ns) (hk : k < ns) (hn : ns < 2 ^ 31) : f_X7_requireShape (nI k) S = some (S, (0, 0)) := by
  unfold f_X7_requireShape
  rw [e, if_neg (nI_pos (by omega)), if_pos (lt_nI hk hn)]
theorem rSh_n {ns : Nat} (e : S.1 2 0 = nI ns) (h : p < 0 ∨ ¬ p < nI ns) : f_X7_requireShape p S = some (S, (1, 0)) := by
  unfold f_X7_requireShape f_X7_requireShape_b15
  rw [e]
  rcases h with h | h
  · rw [if_pos h]
  · by_cases h1 : p < 0
    · rw [if_pos h1]
    · rw [if_neg h1, if_neg h]
theorem rRu_y {k nr : Nat} (e : S.1 5 0 = nI nr) (hk : k < nr) (hn : nr < 2 ^ 31) : f_X7_requireRule (nI k) S = some (S, (0, 0)) := by
  unfold f_X7_requireRule
  rw [e, if_neg (nI_pos (by omega)), if_pos (lt_nI hk hn)]
theorem rRu_n {nr : Nat} (e : S.1 5 0 = nI nr) (h : p < 0 ∨ ¬ p < nI nr) : f_X7_requireRule p S = some (S, (1, 0)) := by
  unfold f_X7_requireRule f_X7_requireRule_b15
  rw [e]
  rcases h with h | h
  · rw [if_pos h]
  · by_cases h1 : p < 0
    · rw [if_pos h1]
    · rw [if_neg h1, if_neg h]
theorem rAc_y {k na : Nat} (e : S.1 9 0 = nI na) (hk : k < na) (hn : na < 2 ^ 31) : f_X7_requireAct (nI k) S = some (S, (0, 0)) := by
  unfold f_X7_requireAct
  rw [e, if_neg (nI_pos (by omega)), if_pos (lt_nI hk hn)]
theorem rAc_n {na : Nat} (e : S.1 9 0 = nI na) (h : p < 0 ∨ ¬ p < nI na) : f_X7_requireAct p S = some (S, (1, 0)) := by
  unfold f_X7_requireAct f_X7_requireAct_b15
  rw [e]
  rcases h with h | h
  · rw [if_pos h]
  · by_cases h1 : p < 0
    · rw [if_pos h1]
    · rw [if_neg h1, if_neg h]
theorem rWh_y {w : Nat} (hw : w < 4) : f_X7_requireWhat (nI w) S = some (S, (0, 0)) := by
  unfold f_X7_requireWhat
  rw [if_neg (nI_pos (by omega)), if_pos (show nI w < (4 : Int32) from lt_nI (n := 4) hw (by decide))]
theorem rWh_n (h : p < 0 ∨ ¬ p < 4) : f_X7_requireWhat p S = some (S, (2, 0)) := by
  unfold f_X7_requireWhat f_X7_requireWhat_b9
  rcases h with h | h
  · rw [if_pos h]
  · by_cases h1 : p < 0
    · rw [if_pos h1]
    · rw [if_neg h1, if_neg h]
theorem rPl (x y : Int32) : f_X7_requirePlace x y S = some (S, (if (rngB x 0 && rngB y 1) = true then 0 else 2, 0)) := by
  unfold f_X7_requirePlace f_X7_requirePlace_b16
  rw [show f_X7_isInRange x (0 : Int32) S = f_X7_isInRange x (nI 0) S from rfl, show f_X7_isInRange y (1 : Int32) S = f_X7_isInRange y (nI 1) S from rfl, range7 S x (by omega), range7 S y (by omega), bsm, bsm, ifb, ifb]
  cases rngB x 0 <;> cases rngB y 1 <;> rfl
theorem rSz (x y : Int32) : f_X7_requireSize x y S = some (S, (if (rngB x 2 && rngB y 3) = true then 0 else 2, 0)) := by
  unfold f_X7_requireSize f_X7_requireSize_b16
  rw [show f_X7_isInRange x (2 : Int32) S = f_X7_isInRange x (nI 2) S from rfl, show f_X7_isInRange y (3 : Int32) S = f_X7_isInRange y (nI 3) S from rfl, range7 S x (by omega), range7 S y (by omega), bsm, bsm, ifb, ifb]
  cases rngB x 2 <;> cases rngB y 3 <;> rfl
theorem rOn {b th k : Nat} (e : S.1 b 5 = nI th) (ht : th < 2 ^ 31) (hk : k < 62) : f_X7_requireOn b (nI k) S = some (S, (if th.testBit k = true then 0 else 4, 0)) := by
  unfold f_X7_requireOn
  rw [e, hasI7 S ht hk, bsm, ifb]
  cases th.testBit k <;> rfl
theorem rMa {ne nm : Nat} (e0 : S.1 30 0 = nI ne) (e1 : S.1 30 1 = nI nm) (hn : ne < 2 ^ 31) (hm : nm ≤ ne) (p : Int32) : (∃ k, k < nm ∧ p = nI k ∧ f_X7_requireMade p S = some (S, (0, 0))) ∨ (∃ k, nm ≤ k ∧ k < ne ∧ p = nI k ∧ f_X7_requireMade p S = some (S, (4, 0))) ∨ ((p < 0 ∨ ¬ p < nI ne) ∧ f_X7_requireMade p S = some (S, (1, 0))) := by
  unfold f_X7_requireMade f_X7_requireMade_b15
  rw [e0, e1]
  rcases in_or p ne hn with ⟨k, hk, rfl⟩ | h
  · rw [if_neg (nI_pos (by omega)), if_pos (lt_nI hk hn)]
    by_cases h : k < nm
    · exact Or.inl ⟨k, h, rfl, by rw [if_pos (lt_nI h (by omega))]⟩
    · exact Or.inr (Or.inl ⟨k, by omega, hk, rfl, by rw [if_neg (fun q => h ((nI_ltI (by omega) (by omega)).mp q))]⟩)
  · refine Or.inr (Or.inr ⟨h, ?_⟩)
    by_cases h1 : p < 0
    · rw [if_pos h1]
    · rw [if_neg h1, if_neg (h.resolve_left h1)]
/-! the model's -/
end
theorem dcT : decide ((0 : Int32) = 0) = true := rfl
theorem zb {α : Type} (x y : α) : (if bI false = 0 then x else y) = x := rfl
theorem ob {α : Type} (x y : α) : (if bI true = 0 then x else y) = y := rfl
theorem d10 : decide ((1 : Int32) = 0) = false := by decide
theorem d20 : decide ((2 : Int32) = 0) = false := by decide
theorem d30 : decide ((3 : Int32) = 0) = false := by decide
theorem d00 : decide ((0 : Int32) = 0) = true := by decide