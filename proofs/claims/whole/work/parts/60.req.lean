/-! what the calls test first -/
theorem in_or (p : Int32) (n : Nat) (hn : n < 2 ^ 31) : (∃ k, k < n ∧ p = nI k) ∨ (p < 0 ∨ ¬ p < nI n) := by
  by_cases h1 : p < 0
  · exact Or.inr (Or.inl h1)
  · by_cases h2 : p < nI n
    · exact Or.inl (nI_ofp hn h1 h2)
    · exact Or.inr (Or.inr h2)
theorem i0 : (0 : Int32).toInt = 0 := by decide
theorem i1m {n : Nat} (h : n < 2 ^ 31) : (nI n - 1).toInt = (n : Int) - 1 := by
  rw [Int32.toInt_sub, toInt_nI h, show (1 : Int32).toInt = 1 from by decide]
  simp only [Int.bmod]
  omega
theorem isN_yes {k n : Nat} (h : k < n) (hn : n < 2 ^ 31) : (!(decide (nI k < 0)) && !(decide (nI n - 1 < nI k))) = true := by
  rw [Bool.and_eq_true, Bool.not_eq_true', Bool.not_eq_true', decide_eq_false_iff_not, decide_eq_false_iff_not]
  refine ⟨nI_pos (by omega), ?_⟩
  rw [Int32.lt_iff_toInt_lt, i1m hn, toInt_nI (by omega)]
  omega
theorem isN_no {p : Int32} {n : Nat} (h : p < 0 ∨ ¬ p < nI n) (hn : n < 2 ^ 31) : (!(decide (p < 0)) && !(decide (nI n - 1 < p))) = false := by
  rw [Bool.and_eq_false_iff, Bool.not_eq_false', Bool.not_eq_false', decide_eq_true_eq, decide_eq_true_eq]
  rcases h with h | h
  · exact Or.inl h
  · right
    rw [Int32.lt_iff_toInt_lt, toInt_nI hn] at h
    rw [Int32.lt_iff_toInt_lt, i1m hn]
    omega
section
variable {S : HS} {p : Int32}
theorem rDr_y {d : Nat} (hd : d < 4) : f_X7_requireDrawer (nI d) S = some (S, (0, 0)) := by
  unfold f_X7_requireDrawer
  rw [if_neg (nI_pos (by omega)), if_pos (show nI d < (4 : Int32) from lt_nI (n := 4) hd (by decide))]
theorem rDr_n (h : p < 0 ∨ ¬ p < 4) : f_X7_requireDrawer p S = some (S, (1, 0)) := by
  unfold f_X7_requireDrawer f_X7_requireDrawer_b9
  rcases h with h | h
  · rw [if_pos h]
  · by_cases h1 : p < 0
    · rw [if_pos h1]
    · rw [if_neg h1, if_neg h]
theorem rSh_y {k ns : Nat} (e : S.1 2 0 = nI ns) (hk : k < ns) (hn : ns < 2 ^ 31) : f_X7_requireShape (nI k) S = some (S, (0, 0)) := by
  unfold f_X7_requireShape
  rw [e, if_neg (nI_pos (by omega)), if_pos (lt_nI hk hn)]
theorem rSh_n {ns : Nat} (e : S.1 2 0 = nI ns) (h : p < 0 ∨ ¬ p < nI ns) : f_X7_requireShape p S = some (S, (1, 0)) := by
  unfold f_X7_requireShape f_X7_requireShape_b15
  rw [e]
  rcases h with h | h
  · rw [if_pos h]
  · by_cases h1 : p < 0
    · rw [if_pos h1]
    · rw [if_neg h1, if_neg h]
theorem rRu_y {k nr : Nat} (e : S.1 5 0 = nI nr) (hk : k < nr) (hn : nr < 2 ^ 31) : f_X7_requireRule (nI k) S = some (S, (0, 0)) := by
  unfold f_X7_requireRule
  rw [e, if_neg (nI_pos (by omega)), if_pos (lt_nI hk hn)]
theorem rRu_n {nr : Nat} (e : S.1 5 0 = nI nr) (h : p < 0 ∨ ¬ p < nI nr) : f_X7_requireRule p S = some (S, (1, 0)) := by
  unfold f_X7_requireRule f_X7_requireRule_b15
  rw [e]
  rcases h with h | h
  · rw [if_pos h]
  · by_cases h1 : p < 0
    · rw [if_pos h1]
    · rw [if_neg h1, if_neg h]
theorem rAc_y {k na : Nat} (e : S.1 9 0 = nI na) (hk : k < na) (hn : na < 2 ^ 31) : f_X7_requireAct (nI k) S = some (S, (0, 0)) := by
  unfold f_X7_requireAct
  rw [e, if_neg (nI_pos (by omega)), if_pos (lt_nI hk hn)]
theorem rAc_n {na : Nat} (e : S.1 9 0 = nI na) (h : p < 0 ∨ ¬ p < nI na) : f_X7_requireAct p S = some (S, (1, 0)) := by
  unfold f_X7_requireAct f_X7_requireAct_b15
  rw [e]
  rcases h with h | h
  · rw [if_pos h]
  · by_cases h1 : p < 0
    · rw [if_pos h1]
    · rw [if_neg h1, if_neg h]
theorem rWh_y {w : Nat} (hw : w < 4) : f_X7_requireWhat (nI w) S = some (S, (0, 0)) := by
  unfold f_X7_requireWhat
  rw [if_neg (nI_pos (by omega)), if_pos (show nI w < (4 : Int32) from lt_nI (n := 4) hw (by decide))]
theorem rWh_n (h : p < 0 ∨ ¬ p < 4) : f_X7_requireWhat p S = some (S, (2, 0)) := by
  unfold f_X7_requireWhat f_X7_requireWhat_b9
  rcases h with h | h
  · rw [if_pos h]
  · by_cases h1 : p < 0
    · rw [if_pos h1]
    · rw [if_neg h1, if_neg h]
theorem rPl (x y : Int32) : f_X7_requirePlace x y S = some (S, (if (rngB x 0 && rngB y 1) = true then 0 else 2, 0)) := by
  unfold f_X7_requirePlace f_X7_requirePlace_b16
  rw [show f_X7_isInRange x (0 : Int32) S = f_X7_isInRange x (nI 0) S from rfl, show f_X7_isInRange y (1 : Int32) S = f_X7_isInRange y (nI 1) S from rfl, range7 S x (by omega), range7 S y (by omega), bsm, bsm, ifb, ifb]
  cases rngB x 0 <;> cases rngB y 1 <;> rfl
theorem rSz (x y : Int32) : f_X7_requireSize x y S = some (S, (if (rngB x 2 && rngB y 3) = true then 0 else 2, 0)) := by
  unfold f_X7_requireSize f_X7_requireSize_b16
  rw [show f_X7_isInRange x (2 : Int32) S = f_X7_isInRange x (nI 2) S from rfl, show f_X7_isInRange y (3 : Int32) S = f_X7_isInRange y (nI 3) S from rfl, range7 S x (by omega), range7 S y (by omega), bsm, bsm, ifb, ifb]
  cases rngB x 2 <;> cases rngB y 3 <;> rfl
theorem rOn {b th k : Nat} (e : S.1 b 5 = nI th) (ht : th < 2 ^ 31) (hk : k < 62) : f_X7_requireOn b (nI k) S = some (S, (if th.testBit k = true then 0 else 4, 0)) := by
  unfold f_X7_requireOn
  rw [e, hasI7 S ht hk, bsm, ifb]
  cases th.testBit k <;> rfl
theorem rMa {ne nm : Nat} (e0 : S.1 30 0 = nI ne) (e1 : S.1 30 1 = nI nm) (hn : ne < 2 ^ 31) (hm : nm ≤ ne) (p : Int32) : (∃ k, k < nm ∧ p = nI k ∧ f_X7_requireMade p S = some (S, (0, 0))) ∨ (∃ k, nm ≤ k ∧ k < ne ∧ p = nI k ∧ f_X7_requireMade p S = some (S, (4, 0))) ∨ ((p < 0 ∨ ¬ p < nI ne) ∧ f_X7_requireMade p S = some (S, (1, 0))) := by
  unfold f_X7_requireMade f_X7_requireMade_b15
  rw [e0, e1]
  rcases in_or p ne hn with ⟨k, hk, rfl⟩ | h
  · rw [if_neg (nI_pos (by omega)), if_pos (lt_nI hk hn)]
    by_cases h : k < nm
    · exact Or.inl ⟨k, h, rfl, by rw [if_pos (lt_nI h (by omega))]⟩
    · exact Or.inr (Or.inl ⟨k, by omega, hk, rfl, by rw [if_neg (fun q => h ((nI_ltI (by omega) (by omega)).mp q))]⟩)
  · refine Or.inr (Or.inr ⟨h, ?_⟩)
    by_cases h1 : p < 0
    · rw [if_pos h1]
    · rw [if_neg h1, if_neg (h.resolve_left h1)]
/-! the model's -/
theorem isSh8 {ns : Nat} (e : S.1 36 2 = nI ns) (p : Int32) : f_X8_isShape p S = some (bI (!(decide (p < 0)) && !(decide (nI ns - 1 < p)))) := by
  unfold f_X8_isShape
  rw [e, isIn8, bsm, nz_bI, if_pos rfl]
theorem isRu8 {nr : Nat} (e : S.1 36 7 = nI nr) (p : Int32) : f_X8_isRule p S = some (bI (!(decide (p < 0)) && !(decide (nI nr - 1 < p)))) := by
  unfold f_X8_isRule
  rw [e, isIn8, bsm, nz_bI, if_pos rfl]
theorem isAc8 {na : Nat} (e : S.1 36 12 = nI na) (p : Int32) : f_X8_isAct p S = some (bI (!(decide (p < 0)) && !(decide (nI na - 1 < p)))) := by
  unfold f_X8_isAct
  rw [e, isIn8, bsm, nz_bI, if_pos rfl]
theorem isEx8 {ne : Nat} (e : S.1 36 29 = nI ne) (p : Int32) : f_X8_isExport p S = some (bI (!(decide (p < 0)) && !(decide (nI ne - 1 < p)))) := by
  unfold f_X8_isExport
  rw [e, isIn8, bsm, nz_bI, if_pos rfl]
theorem isPl8 (x y : Int32) : f_X8_isPlace x y S = some (bI (rngB x 0 && rngB y 1)) := by
  unfold f_X8_isPlace f_X8_isPlace_b30 f_X8_isPlace_b31
  rw [isIn8, isIn8, bsm, bsm, ifb, ifb, nz_0, nz_1, if_pos rfl, if_pos rfl]
  have h0 : (!(decide (x < -999)) && !(decide (999 < x))) = rngB x 0 := rfl
  have h1 : (!(decide (y < -999)) && !(decide (999 < y))) = rngB y 1 := rfl
  rw [h0, h1]
  cases rngB x 0 <;> cases rngB y 1 <;> rfl
theorem isSz8 (x y : Int32) : f_X8_isSize x y S = some (bI (rngB x 2 && rngB y 3)) := by
  unfold f_X8_isSize f_X8_isSize_b24 f_X8_isSize_b25
  rw [isIn8, isIn8, bsm, bsm, ifb, ifb, nz_0, nz_1, if_pos rfl, if_pos rfl]
  have h0 : (!(decide (x < 1)) && !(decide (99 < x))) = rngB x 2 := rfl
  have h1 : (!(decide (y < 1)) && !(decide (99 < y))) = rngB y 3 := rfl
  rw [h0, h1]
  cases rngB x 2 <;> cases rngB y 3 <;> rfl
end
theorem th_at {S : HS} {v : Int32} : (sI S 36 36 v).1 36 36 = v := by
  show upd (S.1 36) 36 v 36 = v
  exact upd_at
theorem dcT : decide ((0 : Int32) = 0) = true := rfl
theorem zb {α : Type} (x y : α) : (if bI false = 0 then x else y) = x := rfl
theorem ob {α : Type} (x y : α) : (if bI true = 0 then x else y) = y := rfl
theorem d10 : decide ((1 : Int32) = 0) = false := by decide
theorem d20 : decide ((2 : Int32) = 0) = false := by decide
theorem d30 : decide ((3 : Int32) = 0) = false := by decide
theorem d00 : decide ((0 : Int32) = 0) = true := by decide
theorem wr_addBox (p1 p2 p3 p4 p5 : Int32) (S : HS) : f_L_addBox p1 p2 p3 p4 p5 S = wrp [(1, 1), (2, 2), (3, 3)] (f_X7_addBox p1 p2 p3 p4 p5 S) := by
  unfold f_L_addBox wrp
  simp only [ib01, if_true, cl0, wch]
theorem wr_addLabel (p1 p2 p3 p4 : Int32) (S : HS) : f_L_addLabel p1 p2 p3 p4 S = wrp [(1, 1), (2, 2), (3, 3)] (f_X7_addLabel p1 p2 p3 p4 S) := by
  unfold f_L_addLabel wrp
  simp only [ib01, if_true, cl0, wch]
theorem wr_move (p1 p2 p3 p4 : Int32) (S : HS) : f_L_move p1 p2 p3 p4 S = wrp [(1, 1), (2, 2), (3, 3)] (f_X7_move p1 p2 p3 p4 S) := by
  unfold f_L_move wrp
  simp only [ib01, if_true, cl0, wch]
theorem wr_resize (p1 p2 p3 p4 : Int32) (S : HS) : f_L_resize p1 p2 p3 p4 S = wrp [(1, 1), (2, 2), (3, 3)] (f_X7_resize p1 p2 p3 p4 S) := by
  unfold f_L_resize wrp
  simp only [ib01, if_true, cl0, wch]
theorem wr_lay (p1 p2 p3 p4 : Int32) (S : HS) : f_L_lay p1 p2 p3 p4 S = wrp [(1, 1), (2, 2), (3, 3)] (f_X7_lay p1 p2 p3 p4 S) := by
  unfold f_L_lay wrp
  simp only [ib01, if_true, cl0, wch]
theorem wr_number (p1 p2 : Int32) (S : HS) : f_L_number p1 p2 S = wrp [(1, 1), (2, 2), (4, 3)] (f_X7_number p1 p2 S) := by
  unfold f_L_number wrp
  simp only [ib01, if_true, cl0, wch]
theorem wr_numberAnew (p1 p2 : Int32) (S : HS) : f_L_numberAnew p1 p2 S = wrp [(1, 1), (2, 2), (4, 3)] (f_X7_numberAnew p1 p2 S) := by
  unfold f_L_numberAnew wrp
  simp only [ib01, if_true, cl0, wch]
theorem wr_back (p1 : Int32) (S : HS) : f_L_back p1 S = wrp [(1, 1), (3, 2)] (f_X7_back p1 S) := by
  unfold f_L_back wrp
  simp only [ib01, if_true, cl0, wch]
theorem wr_drop (p1 p2 : Int32) (S : HS) : f_L_drop p1 p2 S = wrp [(1, 1), (3, 2)] (f_X7_drop p1 p2 S) := by
  unfold f_L_drop wrp
  simp only [ib01, if_true, cl0, wch]
theorem wr_spell (p1 : Int32) (S : HS) : f_L_spell p1 S = wrp [(1, 1), (3, 2)] (f_X7_spell p1 S) := by
  unfold f_L_spell wrp
  simp only [ib01, if_true, cl0, wch]
theorem wr_on (p1 p2 : Int32) (S : HS) : f_L_on p1 p2 S = wrp [(1, 1)] (f_X7_on p1 p2 S) := by
  unfold f_L_on wrp
  simp only [ib01, if_true, cl0, wch]
theorem wr_branches (p1 : Int32) (S : HS) : f_L_branches p1 S = wrp [(1, 1)] (f_X7_branches p1 S) := by
  unfold f_L_branches wrp
  simp only [ib01, if_true, cl0, wch]
theorem wr_below (p1 : Int32) (S : HS) : f_L_below p1 S = wrp [(1, 1)] (f_X7_below p1 S) := by
  unfold f_L_below wrp
  simp only [ib01, if_true, cl0, wch]
theorem wr_standsAt (p1 : Int32) (S : HS) : f_L_standsAt p1 S = wrp [(1, 1)] (f_X7_standsAt p1 S) := by
  unfold f_L_standsAt wrp
  simp only [ib01, if_true, cl0, wch]
theorem wr_part (p1 p2 : Int32) (S : HS) : f_L_part p1 p2 S = wrp [(1, 1), (4, 2)] (f_X7_part p1 p2 S) := by
  unfold f_L_part wrp
  simp only [ib01, if_true, cl0, wch]
theorem wr_length (p1 : Int32) (S : HS) : f_L_length p1 S = wrp [(1, 1), (4, 2)] (f_X7_length p1 S) := by
  unfold f_L_length wrp
  simp only [ib01, if_true, cl0, wch]
theorem wr_charAt (p1 p2 : Int32) (S : HS) : f_L_charAt p1 p2 S = wrp [(1, 1), (4, 2)] (f_X7_charAt p1 p2 S) := by
  unfold f_L_charAt wrp
  simp only [ib01, if_true, cl0, wch]
theorem wr_charAnew (p1 p2 : Int32) (S : HS) : f_L_charAnew p1 p2 S = wrp [(1, 1), (4, 2)] (f_X7_charAnew p1 p2 S) := by
  unfold f_L_charAnew wrp
  simp only [ib01, if_true, cl0, wch]
theorem wr_ask (S : HS) : f_L_ask  S = wrp [(3, 1)] (f_X7_ask  S) := by
  unfold f_L_ask wrp
  simp only [ib01, if_true, cl0, wch]
theorem wr_counts (p1 : Int32) (S : HS) : f_L_counts p1 S = wrb [(1, 1)] (f_X7_counts p1 S) := by
  unfold f_L_counts f_L_counts_b15 wrb
  simp only [ib01, if_true, cl0, wch]
theorem wr_isVoid (p1 : Int32) (S : HS) : f_L_isVoid p1 S = wrb [(1, 1)] (f_X7_isVoid p1 S) := by
  unfold f_L_isVoid f_L_isVoid_b15 wrb
  simp only [ib01, if_true, cl0, wch]
theorem wr_isThere (p1 : Int32) (S : HS) : f_L_isThere p1 S = wrb [(1, 1)] (f_X7_isThere p1 S) := by
  unfold f_L_isThere f_L_isThere_b15 wrb
  simp only [ib01, if_true, cl0, wch]
theorem wr_isInForce (p1 : Int32) (S : HS) : f_L_isInForce p1 S = wrb [(1, 1)] (f_X7_isInForce p1 S) := by
  unfold f_L_isInForce f_L_isInForce_b15 wrb
  simp only [ib01, if_true, cl0, wch]
theorem wr_holds (p1 : Int32) (S : HS) : f_L_holds p1 S = wrb [(1, 1), (4, 2)] (f_X7_holds p1 S) := by
  unfold f_L_holds f_L_holds_b15 wrb
  simp only [ib01, if_true, cl0, wch]
