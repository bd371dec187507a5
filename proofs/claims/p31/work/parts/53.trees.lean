/-! the trees' other questions -/
theorem nI_ofp {p : Int32} {n : Nat} (hn : n < 2 ^ 31) (h1 : ¬ p < 0) (h2 : p < nI n) : ∃ k, k < n ∧ p = nI k := by
  obtain ⟨m, hm, rfl⟩ := wb_of32 p
  have h31 : m < 2 ^ 31 := by
    rcases Nat.lt_or_ge m (2 ^ 31) with h | h
    · exact h
    · exfalso
      apply h1
      rw [Int32.lt_iff_toInt_lt]
      show (BitVec.ofNat 32 m).toInt < (BitVec.ofNat 32 0).toInt
      rw [BitVec.toInt_ofNat', BitVec.toInt_ofNat']
      simp only [Int.bmod]
      omega
  refine ⟨m, ?_, rfl⟩
  rcases Nat.lt_or_ge m n with h | h
  · exact h
  · exfalso
    have : nI n ≤ nI m := (nI_leI hn h31).mpr h
    exact absurd h2 (Int32.not_lt.mpr this)
theorem lt_nI {k n : Nat} (h : k < n) (hn : n < 2 ^ 31) : nI k < nI n := by
  have := nlt_le h hn
  exact Int32.not_le.mp this
theorem isDr_yes {d : Nat} (hd : d < 4) : (!(decide (nI d < 0)) && !(decide ((3 : Int32) < nI d))) = true := by
  match d, hd with
  | 0, _ => decide
  | 1, _ => decide
  | 2, _ => decide
  | 3, _ => decide
/-- a drawer, or none -/
theorem dr_or (p : Int32) : (∃ d, d < 4 ∧ p = nI d) ∨ ((p < 0 ∨ ¬ p < 4) ∧ (!(decide (p < 0)) && !(decide ((3 : Int32) < p))) = false) := by
  by_cases h1 : p < 0
  · right
    exact ⟨Or.inl h1, by simp [h1]⟩
  · by_cases h2 : p < 4
    · left
      exact nI_ofp (n := 4) (by decide) h1 h2
    · right
      refine ⟨Or.inr h2, ?_⟩
      have : (3 : Int32) < p := by
        have h4 : (4 : Int32) ≤ p := Int32.not_lt.mp h2
        rw [Int32.le_iff_toInt_le] at h4
        rw [Int32.lt_iff_toInt_lt]
        have e4 : (4 : Int32).toInt = 4 := by decide
        have e3 : (3 : Int32).toInt = 3 := by decide
        omega
      simp [this]
section
variable {S : HS} {na : Nat} {dr ab st : Nat → Nat}
/-- the acts below the node of a drawer -/
def blw (dr ab st : Nat → Nat) (d k : Nat) : Bool := decide (dr k = d) && (decide (st d = 0) || (wy ab (ab k)).testBit (st d - 1))
theorem blw_s (hW : TWF na dr ab st) {d k : Nat} (hd : d < 4) (hk : k < na) : blw dr ab st d k = (brn dr ab st d k || match ab k with | 0 => false | j + 1 => blw dr ab st d j) := by
  obtain ⟨w1, w2, w3⟩ := hW.2.1 k hk
  have hab : ∀ k, k < na → ab k ≤ k := fun k hk => (hW.2.1 k hk).2.1
  unfold brn
  have hbk : blw dr ab st d k = (decide (dr k = d) && (decide (st d = 0) || (wy ab (ab k)).testBit (st d - 1))) := rfl
  cases e : ab k with
  | zero =>
    rw [hbk, e, wy_0, Nat.zero_testBit]
    simp only [Bool.or_false]
    congr 1
    exact decide_eq_decide.mpr ⟨fun h => h.symm, fun h => h.symm⟩
  | succ j =>
    have hdj := w3 j e
    have hbj : blw dr ab st d j = (decide (dr j = d) && (decide (st d = 0) || (wy ab (ab j)).testBit (st d - 1))) := rfl
    dsimp only
    rw [hbk, hbj, e, wy_s hab (show j < na by omega), Nat.testBit_or, Nat.testBit_two_pow, hdj]
    by_cases e1 : dr k = d
    · by_cases e2 : st d = 0
      · simp [e1, e2]
      · have : decide (j = st d - 1) = decide (j + 1 = st d) := decide_eq_decide.mpr (by omega)
        rw [this]
        simp [e1, e2]
    · simp [e1]
def bls (dr ab st : Nat → Nat) (d : Nat) : Nat → Nat
  | 0 => 0
  | n + 1 => bls dr ab st d n ||| (if blw dr ab st d n = true then 2 ^ n else 0)
theorem bls_bit {d k : Nat} : ∀ n, (bls dr ab st d n).testBit k = (decide (k < n) && blw dr ab st d k)
  | 0 => by show (0 : Nat).testBit k = _; rw [Nat.zero_testBit]; simp
  | n + 1 => by
    show (bls dr ab st d n ||| (if blw dr ab st d n = true then 2 ^ n else 0)).testBit k = _
    rw [Nat.testBit_or, bls_bit n]
    by_cases e : k = n
    · subst e
      cases h : blw dr ab st d k <;> simp [Nat.testBit_two_pow]
    · have : (if blw dr ab st d n = true then 2 ^ n else 0).testBit k = false := by
        split
        · rw [Nat.testBit_two_pow, decide_eq_false_iff_not]; omega
        · exact Nat.zero_testBit k
      rw [this, Bool.or_false]
      congr 1
      exact decide_eq_decide.mpr (by omega)
theorem bls_lt {d : Nat} : ∀ n, bls dr ab st d n < 2 ^ n
  | 0 => by show 0 < 2 ^ 0; decide
  | n + 1 => by
    show (bls dr ab st d n ||| (if blw dr ab st d n = true then 2 ^ n else 0)) < 2 ^ (n + 1)
    have := bls_lt (d := d) n
    refine Nat.or_lt_two_pow (Nat.lt_of_lt_of_le this (Nat.pow_le_pow_right (by omega) (by omega))) ?_
    split
    · exact Nat.pow_lt_pow_right (by omega) (by omega)
    · exact Nat.pow_pos (by omega)
theorem ct_ext {p : Nat → Bool} {n m : Nat} (h : ∀ k, n ≤ k → p k = false) (hm : n ≤ m) : fb_ct p m = fb_ct p n := by
  obtain ⟨d, rfl⟩ : ∃ d, m = n + d := ⟨m - n, by omega⟩
  rw [fb_ct_split]
  have : fb_ct (fun k => p (n + k)) d = 0 := fb_ct_zero.mpr (fun k _ => h _ (by omega))
  omega
theorem below7 (hC : CT S na dr ab st) (hW : TWF na dr ab st) {d : Nat} (hd : d < 4) : f_X6_countBelow (nI d) S = some (nI (fb_ct (blw dr ab st d) na)) := by
  have hn := hW.1
  unfold f_X6_countBelow f_X6_countBelow_b5
  refine fx_run na (fun i => (lN (bls dr ab st d i), nI i)) ?_ ?_ (FU_gt (by omega)) rfl
  · intro i rec hi
    have hlt : bls dr ab st d i < 2 ^ 60 := Nat.lt_of_lt_of_le (bls_lt i) (Nat.pow_le_pow_right (by omega) (by omega))
    obtain ⟨w1, w2, -⟩ := hW.2.1 i hi
    unfold F_X6_countBelow_b5 f_X6_countBelow_b37 f_X6_countBelow_b44
    dsimp only
    rw [hC.1, if_neg (nlt_le hi (by omega)), isBranch7 hC hW hi hd, bsm, ifb, above7 S (by omega), bsm, (hC.2.1 i hi).2, shlL (by omega), lN_or (by omega) (Nat.pow_lt_pow_right (by omega) (by omega)), nI_1]
    have hs := blw_s hW hd hi
    have hst : bls dr ab st d (i + 1) = bls dr ab st d i ||| (if blw dr ab st d i = true then 2 ^ i else 0) := rfl
    rw [hst]
    cases hb : brn dr ab st d i with
    | true =>
      rw [hb, Bool.true_or] at hs
      rw [if_pos rfl, hs, if_pos rfl]
    | false =>
      rw [hb, Bool.false_or] at hs
      rw [if_neg (by decide), hs]
      cases e : ab i with
      | zero =>
        rw [show cI 0 = (-1 : Int32) from rfl, has7n S _ (by decide), bsm]
        simp
      | succ j =>
        rw [show cI (j + 1) = nI j from rfl, has7 S (by omega) (by omega), bsm, ifb, bls_bit]
        dsimp only
        have : decide (j < i) = true := decide_eq_true (by omega)
        rw [this, Bool.true_and]
        by_cases hbj : blw dr ab st d j = true
        · simp [hbj]
        · simp [hbj]
  · intro rec
    unfold F_X6_countBelow_b5
    dsimp only
    have hlt : bls dr ab st d na < 2 ^ 60 := Nat.lt_of_lt_of_le (bls_lt na) (Nat.pow_le_pow_right (by omega) (by omega))
    rw [hC.1, if_pos (nle_nI na), bitcL S (by omega), bsm]
    congr 2
    rw [ct_ext (n := na) (fun k hk => by
      show (bls dr ab st d na).testBit k = false
      rw [bls_bit]
      simp [show ¬ k < na by omega]) (by omega)]
    apply fb_ct_cong
    intro k hk
    show (bls dr ab st d na).testBit k = _
    rw [bls_bit]
    simp [hk]
end
