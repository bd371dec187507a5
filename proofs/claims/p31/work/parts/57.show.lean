/-! the class shows a board -/
theorem dgt_len {m : Nat} : (dgt m).length ≤ 3 ∧ (m < 100 → (dgt m).length ≤ 2) ∧ (m < 10 → (dgt m).length ≤ 1) := by
  unfold dgt
  by_cases h1 : 100 ≤ m
  · by_cases h2 : 10 ≤ m
    · simp [h1, h2] <;> try omega
    · omega
  · by_cases h2 : 10 ≤ m
    · simp [h1, h2] <;> try omega
    · simp [h1, h2]
theorem nS_len {n : Int32} : (nS n).length ≤ 4 := by
  have := (dgt_len (m := (iabs n).toNatClampNeg)).1
  unfold nS
  split <;> simp <;> omega
theorem nS_nI {m : Nat} (h : m < 2 ^ 31) : nS (nI m) = dgt m := by
  unfold nS iabs
  have : (0 : Int32) ≤ nI m := Int32.not_lt.mp (nI_pos h)
  rw [if_pos this, if_pos this, nI_cl h]
  rfl
theorem rng2_nI {n : Int32} (h : rngB n 2 = true) : ∃ m, m < 100 ∧ n = nI m := by
  unfold rngB at h
  rw [if_pos (by omega)] at h
  simp only [Bool.and_eq_true, Bool.not_eq_true', decide_eq_false_iff_not] at h
  obtain ⟨h1, h2⟩ := h
  rw [Int32.lt_iff_toInt_lt] at h1 h2
  have e3 : (1 : Int32).toInt = 1 := by decide
  have e4 : (99 : Int32).toInt = 99 := by decide
  have e0 : (0 : Int32).toInt = 0 := by decide
  rw [e3] at h1
  rw [e4] at h2
  refine nI_ofp (n := 100) (by decide) ?_ ?_
  · rw [Int32.lt_iff_toInt_lt, e0]; omega
  · rw [Int32.lt_iff_toInt_lt, toInt_nI (by omega)]; omega
theorem nS_len2 {n : Int32} (h : rngB n 2 = true) : (nS n).length ≤ 2 := by
  obtain ⟨m, hm, rfl⟩ := rng2_nI h
  rw [nS_nI (by omega)]
  exact dgt_len.2.1 hm
theorem ltS_len (f : Nat → Nat) : ∀ n, (ltS f n).length ≤ 2 * n
  | 0 => Nat.le_refl _
  | n + 1 => by
    have := ltS_len f n
    have h2 : (lS (f n)).length ≤ 2 := by unfold lS; split <;> simp
    show (ltS f n ++ lS (f n)).length ≤ _
    rw [List.length_append]
    omega
theorem nmS_4 (N : Nat → Int32) : (nmS N 4).length = 4 + ((nS (N 0)).length + (nS (N 1)).length + (nS (N 2)).length + (nS (N 3)).length) := by
  simp only [nmS, List.length_append, List.length_cons, List.length_nil]
  omega
/-- rows of shapes in the class -/
def HS1 (S : HS) (ns : Nat) (len : Nat → Nat) (trn : Nat → Bool) (txt : Nat → Nat → Nat) : Prop := (∀ k, len k ≤ 5 ∧ (k < ns → S.1 3 k = nI (len k))) ∧ ∃ ts, ts < 2 ^ 10 ∧ S.1 2 1 = nI ts ∧ ∀ k, k < ns → ts.testBit k = trn k ∧ ∀ i, i < len k → S.1 4 (5 * k + i) = nI (txt k i) ∧ txt k i ≤ 26
def lbL (len : Nat → Nat) : Nat → Bool := fun k => decide (0 < len k)
section
variable {kd : Nat → Int32} {fr to : Nat → Nat} {ns nr : Nat} {A : AB} {len : Nat → Nat} {trn : Nat → Bool} {txt : Nat → Nat → Nat}
theorem shS_len (hA : AI kd fr to (lbL len) ns nr A) (hns : ns ≤ 10) {s : Nat} (hs : A.1.testBit s = true) (hl : len s ≤ 5) : (shS A.2.2.1 len trn txt s).length ≤ 29 := by
  have h0 := hA.1 s hs
  have n0 := nS_len (n := A.2.2.1 s 0)
  have n1 := nS_len (n := A.2.2.1 s 1)
  have n2 := nS_len2 (hA.2.2.2.1 2 (by omega) s hs)
  have n3 : (nS (A.2.2.1 s 3)).length ≤ 2 := nS_len2 (hA.2.2.2.1 3 (by omega) s hs)
  have ns1 : (nS (nI s)).length ≤ 1 := by rw [nS_nI (by omega)]; exact dgt_len.2.2 (by omega)
  have nl := ltS_len (fun i => txt s (if trn s = true then len s - 1 - i else i)) (len s)
  unfold shS
  simp only [List.length_append, List.length_cons, List.length_nil, nmS_4]
  by_cases e : 0 < len s
  · have h3 := hA.2.2.2.2.2 s hs (decide_eq_true e)
    have n3' : (nS (A.2.2.1 s 3)).length ≤ 1 := by
      rw [h3, show (2 : Int32) = nI 2 from rfl, nS_nI (by omega)]
      exact dgt_len.2.2 (by omega)
    rw [if_pos e]
    simp only [List.length_cons, List.length_nil]
    omega
  · rw [if_neg e]
    simp only [List.length_nil]
    omega
theorem alS_len (hA : AI kd fr to (lbL len) ns nr A) (hns : ns ≤ 10) (hl : ∀ k, k < 10 → len k ≤ 5) : ∀ i, i ≤ 10 → (alS A.1 A.2.2.1 len trn txt i).length ≤ 29 * i
  | 0, _ => Nat.le_refl _
  | i + 1, hi => by
    have := alS_len hA hns hl i (by omega)
    show (alS A.1 A.2.2.1 len trn txt i ++ (if A.1.testBit i = true then shS A.2.2.1 len trn txt i else [])).length ≤ _
    rw [List.length_append]
    by_cases e : A.1.testBit i = true
    · rw [if_pos e]
      have := shS_len (trn := trn) (txt := txt) hA hns e (hl i (by omega))
      omega
    · rw [if_neg e]
      simp only [List.length_nil]
      omega
theorem ruS_len (fo : Nat) : ∀ i, i ≤ 12 → (ruS fo i).length ≤ 3 * i + (if 10 < i then i - 10 else 0)
  | 0, _ => Nat.le_refl _
  | i + 1, hi => by
    have ih := ruS_len fo i (by omega)
    show (ruS fo i ++ (if fo.testBit i = true then [114] ++ (nS (nI i) ++ [59]) else [])).length ≤ _
    rw [List.length_append]
    by_cases e : fo.testBit i = true
    · rw [if_pos e]
      simp only [List.length_append, List.length_cons, List.length_nil]
      rw [nS_nI (by omega)]
      have d2 := (dgt_len (m := i)).2.1 (by omega)
      have d1 := (dgt_len (m := i)).2.2
      by_cases e10 : i < 10
      · have := d1 e10
        rw [if_neg (by omega)] at ih
        rw [if_neg (by omega)]
        omega
      · by_cases e11 : 10 < i
        · rw [if_pos e11] at ih
          rw [if_pos (by omega)]
          omega
        · rw [if_neg e11] at ih
          rw [if_pos (by omega)]
          omega
    · rw [if_neg e]
      simp only [List.length_nil]
      split at ih <;> split <;> omega
theorem show_let {S0 S : HS} {L : List Nat} {b s : Nat} (hH : HS1 S0 ns len trn txt) (hs : s < ns) (hns : ns ≤ 10) (h : WC S0 S L) (hl : (L ++ (ltS (fun i => txt s (if trn s = true then len s - 1 - i else i)) (len s) ++ [59])).length ≤ 328) : Ok (f_X1_showShape_b81 b (nI s) S (nI (len s))) (fun S' => WC S0 S' (L ++ (ltS (fun i => txt s (if trn s = true then len s - 1 - i else i)) (len s) ++ [59]))) := by
  obtain ⟨h3, ts, t1, t2, t3⟩ := hH
  obtain ⟨h32, h31⟩ := h3 s
  have h31 := h31 hs
  obtain ⟨t4, t5⟩ := t3 s hs
  have hmono : ∀ i, i ≤ len s → (ltS (fun i => txt s (if trn s = true then len s - 1 - i else i)) i).length ≤ (ltS (fun i => txt s (if trn s = true then len s - 1 - i else i)) (len s)).length := by
    have : ∀ d i, (ltS (fun i => txt s (if trn s = true then len s - 1 - i else i)) i).length ≤ (ltS (fun i => txt s (if trn s = true then len s - 1 - i else i)) (i + d)).length := by
      intro d i
      induction d with
      | zero => exact Nat.le_refl _
      | succ d ih =>
        show _ ≤ (ltS _ (i + d) ++ lS _).length
        rw [List.length_append]
        omega
    intro i hi
    have := this (len s - i) i
    rw [show i + (len s - i) = len s by omega] at this
    exact this
  simp only [List.length_append, List.length_cons, List.length_nil] at hl
  unfold f_X1_showShape_b81 f_X1_showShape_b84
  refine ok_fx (len s) (fun i v => ∃ S', v = (S', nI (len s), nI i) ∧ WC S0 S' (L ++ ltS (fun i => txt s (if trn s = true then len s - 1 - i else i)) i)) ?_ ?_ (FU_gt (by omega)) ⟨S, rfl, WC_eq h (by simp [ltS])⟩
  · rintro i v rec hi ⟨S', rfl, hW⟩ hrec
    have hW' := hW
    obtain ⟨f, hf, -⟩ := hW'
    have o : ∀ h, h ≠ 34 → h ≠ 35 → S'.1 h = S0.1 h := fun h h1 h2 => by rw [hf]; exact wT_o h1 h2
    unfold F_X1_showShape_b84
    dsimp only
    rw [if_neg (nlt_le hi (by omega)), if_neg (by rw [show (5 : Int32) = nI 5 from rfl, nI_leI (by omega) (by omega)]; omega)]
    have hj : ∃ j, j < len s ∧ j = (if trn s = true then len s - 1 - i else i) := by
      by_cases e : trn s = true
      · exact ⟨len s - 1 - i, by omega, by rw [if_pos e]⟩
      · exact ⟨i, hi, by rw [if_neg e]⟩
    obtain ⟨j, hj1, hj2⟩ := hj
    have hsl : f_X5_shownLetter (nI s) (nI i) S' = some (nI (txt s j)) := by
      have hread : f_X7_read 4 (nI s * 5 + nI j) S' = some (nI (txt s j)) := by
        rw [show nI s * (5 : Int32) + nI j = nI (5 * s + j) by rw [show (5 : Int32) = nI 5 from rfl, pk_mul, nI_add, Nat.mul_comm], read7 S' 4 (by show 5 * s + j < 50; omega) (by decide), o 4 (by decide) (by decide), (t5 j hj1).1]
      unfold f_X5_shownLetter f_X5_shownLetter_b25
      rw [o 2 (by decide) (by decide), t2, hasI7 S' (by omega) (by omega), bsm, ifb, t4, letters7 (by omega), bsm, o 3 (by decide) (by decide), h31]
      by_cases e : trn s = true
      · rw [if_pos e] at hj2
        rw [if_pos e, show nI (len s) - (1 : Int32) = nI (len s - 1) from pk_sub (a := len s) (b := 1) (by omega), pk_sub (by omega), ← hj2, hread, bsm]
      · rw [if_neg e] at hj2
        rw [if_neg e, ← hj2, hread, bsm]
    rw [hsl, bsm, nI_1]
    have hst : ltS (fun i => txt s (if trn s = true then len s - 1 - i else i)) (i + 1) = ltS (fun i => txt s (if trn s = true then len s - 1 - i else i)) i ++ lS (txt s j) := by
      show _ ++ lS (txt s (if trn s = true then len s - 1 - i else i)) = _
      rw [← hj2]
    have hlen := hmono (i + 1) (by omega)
    rw [hst, List.length_append] at hlen
    refine Ok.bind (letter7 hW (t5 j hj1).2 (by simp only [List.length_append]; omega)) (fun S2 h2 => hrec _ ⟨S2, rfl, WC_eq h2 (by rw [hst, List.append_assoc])⟩)
  · rintro v rec ⟨S', rfl, hW⟩
    unfold F_X1_showShape_b84 f_X1_showShape_b114
    dsimp only
    rw [if_pos (nle_nI _), show (59 : Int32) = nI 59 from rfl]
    refine Ok.bind (write7 hW (by omega) (by simp only [List.length_append]; omega)) (fun S2 h2 => Ok.some (WC_eq h2 (by simp)))
theorem show_shape {S0 S : HS} {L : List Nat} {b s : Nat} (hb : oc b = some 0) (hH : HS1 S0 ns len trn txt) (hns : ns ≤ 10) (hA : AI kd fr to (lbL len) ns nr A) (hN : rpN A.1 A.2.2.1 (S0.1 (b + 1))) (hs : A.1.testBit s = true) (h : WC S0 S L) (hl : (L ++ shS A.2.2.1 len trn txt s).length ≤ 328) : Ok (f_X1_showShape b (nI s) S) (fun S' => WC S0 S' (L ++ shS A.2.2.1 len trn txt s)) := by
  have hsn := hA.1 s hs
  have hb2 : b + 1 ≠ 34 ∧ b + 1 ≠ 35 := by rcases ob_cases hb with rfl | rfl | rfl | rfl <;> decide
  obtain ⟨h32, h31⟩ := hH.1 s
  have h31 := h31 hsn
  have o : ∀ {S' L'}, WC S0 S' L' → ∀ h, h ≠ 34 → h ≠ 35 → S'.1 h = S0.1 h := fun hW h h1 h2 => by
    obtain ⟨f, hf, -⟩ := hW
    rw [hf]; exact wT_o h1 h2
  unfold shS at hl ⊢
  generalize hT1 : ltS (fun i => txt s (if trn s = true then len s - 1 - i else i)) (len s) ++ [59] = T1 at hl ⊢
  simp only [List.length_append, List.length_cons, List.length_nil, nmS_4] at hl
  have hpos : (nI (len s) ≤ 0) ↔ ¬ 0 < len s := by rw [show (0 : Int32) = nI 0 from rfl, nI_leI (by omega) (by omega)]; omega
  unfold f_X1_showShape
  rw [letters7 (by omega), bsm, o h 3 (by decide) (by decide), h31]
  have hmain : ∀ c, c < 65536 → Ok (f_X1_showShape_b20 b (nI s) S (nI (len s)) (nI c)) (fun S' => WC S0 S' (L ++ ([c] ++ (nS (nI s) ++ (nmS (A.2.2.1 s) 4 ++ ((if 0 < len s then [44] else []) ++ T1)))))) := by
    intro c hc
    unfold f_X1_showShape_b20
    refine Ok.bind (write7 h hc (by omega)) (fun S1 w1 => ?_)
    refine Ok.bind (number7 w1 (rngI (by omega)) (by simp only [List.length_append, List.length_cons, List.length_nil]; omega)) (fun S2 w2 => ?_)
    unfold f_X1_showShape_b31
    refine ok_fx 4 (fun i v => ∃ S', v = (S', nI (len s), nI i) ∧ WC S0 S' (L ++ ([c] ++ (nS (nI s) ++ nmS (A.2.2.1 s) i)))) ?_ ?_ (FU_gt (by omega)) ⟨S2, rfl, WC_eq w2 (by simp [nmS])⟩
    · rintro i v rec hi ⟨S', rfl, hW⟩ hrec
      unfold F_X1_showShape_b31
      dsimp only
      rw [if_neg (le4n hi)]
      have hnum : ∀ {S' L'}, WC S0 S' L' → f_X0_numberOf b (nI s) (nI i) S' = some (A.2.2.1 s i) := fun hW => by
        rw [num7 hb (by omega) hi, o hW (b + 1) hb2.1 hb2.2, hN s i hs hi]
      have hlen : (nmS (A.2.2.1 s) (i + 1)).length ≤ (nmS (A.2.2.1 s) 4).length := by
        match i, hi with
        | 0, _ => simp only [nmS, List.length_append, List.length_cons, List.length_nil]; omega
        | 1, _ => simp only [nmS, List.length_append, List.length_cons, List.length_nil]; omega
        | 2, _ => simp only [nmS, List.length_append, List.length_cons, List.length_nil]; omega
        | 3, _ => simp only [nmS, List.length_append, List.length_cons, List.length_nil]; omega
      have hst : nmS (A.2.2.1 s) (i + 1) = nmS (A.2.2.1 s) i ++ ([if i = 0 then 58 else 44] ++ nS (A.2.2.1 s i)) := rfl
      rw [nmS_4, hst] at hlen
      simp only [List.length_append, List.length_cons, List.length_nil] at hlen
      have hgo : ∀ c2, c2 < 65536 → c2 = (if i = 0 then 58 else 44) → Ok (f_X1_showShape_b50 b (nI s) rec S' (nI (len s)) (nI i) (nI c2)) (fun S' => WC S0 S' (L ++ ([c] ++ (nS (nI s) ++ (nmS (A.2.2.1 s) 4 ++ ((if 0 < len s then [44] else []) ++ T1)))))) := by
        intro c2 hc2 he
        unfold f_X1_showShape_b50
        refine Ok.bind (write7 hW hc2 (by simp only [List.length_append, List.length_cons, List.length_nil]; omega)) (fun S3 w3 => ?_)
        rw [hnum w3, bsm, nI_1]
        refine Ok.bind (number7 w3 (rng20 hi (hA.2.2.2.1 i hi s hs)) (by simp only [List.length_append, List.length_cons, List.length_nil]; omega)) (fun S4 w4 => ?_)
        exact hrec _ ⟨S4, rfl, WC_eq w4 (by rw [hst, he]; simp)⟩
      have h0 : nI i = 0 ↔ i = 0 := by rw [show (0 : Int32) = nI 0 from rfl, nI_eq (by omega) (by omega)]
      by_cases e : i = 0
      · rw [if_pos (h0.mpr e)]
        exact hgo 58 (by omega) (by rw [if_pos e])
      · rw [if_neg (fun q => e (h0.mp q))]
        exact hgo 44 (by omega) (by rw [if_neg e])
    · rintro v rec ⟨S', rfl, hW⟩
      unfold F_X1_showShape_b31
      dsimp only
      rw [if_pos (by decide)]
      by_cases e : 0 < len s
      · rw [if_pos e] at hl ⊢
        simp only [List.length_cons, List.length_nil] at hl
        rw [if_neg (fun q => (hpos.mp q) e), show (44 : Int32) = nI 44 from rfl]
        refine Ok.bind (write7 hW (by omega) (by simp only [List.length_append, List.length_cons, List.length_nil, nmS_4]; omega)) (fun S3 w3 => ?_)
        rw [← hT1]
        refine Ok.mono (show_let hH hsn hns w3 (by rw [hT1]; simp only [List.length_append, List.length_cons, List.length_nil, nmS_4]; omega)) (fun S4 w4 => WC_eq w4 (by simp))
      · rw [if_neg e] at hl ⊢
        simp only [List.length_nil] at hl
        rw [if_pos (hpos.mpr e), ← hT1]
        refine Ok.mono (show_let hH hsn hns hW (by rw [hT1]; simp only [List.length_append, List.length_cons, List.length_nil, nmS_4]; omega)) (fun S4 w4 => WC_eq w4 (by simp))
  by_cases e : 0 < len s
  · rw [if_neg (fun q => (hpos.mp q) e), show ([if 0 < len s then 116 else 98] : List Nat) = [116] from by rw [if_pos e]]
    exact hmain 116 (by omega)
  · rw [if_pos (hpos.mpr e), show ([if 0 < len s then 116 else 98] : List Nat) = [98] from by rw [if_neg e]]
    exact hmain 98 (by omega)
theorem show7 {S : HS} {b : Nat} (hb : oc b = some 0) (hH : HS1 S ns len trn txt) (hns : ns ≤ 10) (hnr : nr ≤ 12) (hA : AI kd fr to (lbL len) ns nr A) (hC : CB S b kd A) : Ok (f_X1_show b S) (fun S' => WC S S' (TX A len trn txt)) ∧ (TX A len trn txt).length ≤ 328 := by
  obtain ⟨c1, c2, c3, -⟩ := hC
  have hfo := fok_lt hA.2.1 hnr
  have hth : A.1 < 2 ^ 10 := by
    apply Nat.lt_pow_two_of_testBit
    intro i hi
    cases e : A.1.testBit i with
    | false => rfl
    | true => exact absurd (hA.1 i e) (by omega)
  have hb2 : b ≠ 34 ∧ b ≠ 35 := by rcases ob_cases hb with rfl | rfl | rfl | rfl <;> decide
  have o : ∀ {S' L'}, WC S S' L' → ∀ h, h ≠ 34 → h ≠ 35 → S'.1 h = S.1 h := fun hW h h1 h2 => by
    obtain ⟨f, hf, -⟩ := hW
    rw [hf]; exact wT_o h1 h2
  have hal := alS_len (trn := trn) (txt := txt) hA hns (fun k _ => (hH.1 k).1)
  have hru := ruS_len A.2.1
  have hru12 := hru 12 (by omega)
  rw [if_pos (by omega)] at hru12
  have hal10 := hal 10 (by omega)
  refine ⟨?_, by unfold TX; rw [List.length_append]; omega⟩
  unfold f_X1_show f_X1_show_b7
  refine ok_fx 10 (fun i v => ∃ S', v = (S', nI i) ∧ WC S S' (alS A.1 A.2.2.1 len trn txt i)) ?_ ?_ (FU_gt (by omega)) ⟨_, rfl, S.1 35, ?_, fun i hi => absurd hi (by show ¬ i < 0; omega), fun q => q⟩
  · rintro i v rec hi ⟨S', rfl, hW⟩ hrec
    unfold F_X1_show_b7 f_X1_show_b32
    dsimp only
    rw [if_neg (le10n hi), o hW b hb2.1 hb2.2, c1, hasI7 _ (by omega) (by omega), bsm, ifb, nI_1]
    have hst : alS A.1 A.2.2.1 len trn txt (i + 1) = alS A.1 A.2.2.1 len trn txt i ++ (if A.1.testBit i = true then shS A.2.2.1 len trn txt i else []) := rfl
    by_cases e : A.1.testBit i = true
    · rw [if_pos e]
      rw [if_pos e] at hst
      have := hal (i + 1) (by omega)
      rw [hst] at this
      refine Ok.bind (show_shape hb hH hns hA c3 e hW (by omega)) (fun S2 w2 => hrec _ ⟨S2, rfl, by rw [hst]; exact w2⟩)
    · rw [if_neg e]
      rw [if_neg e, List.append_nil] at hst
      exact hrec _ ⟨S', rfl, by rw [hst]; exact hW⟩
  · rintro v rec ⟨S', rfl, hW⟩
    unfold F_X1_show_b7 f_X1_show_b40
    dsimp only
    rw [if_pos (by decide)]
    refine ok_fx 12 (fun i v => ∃ S', v = (S', nI i) ∧ WC S S' (alS A.1 A.2.2.1 len trn txt 10 ++ ruS A.2.1 i)) ?_ ?_ (FU_gt (by omega)) ⟨S', rfl, WC_eq hW (by simp [ruS])⟩
    · rintro i v rec2 hi ⟨S', rfl, hW⟩ hrec
      unfold F_X1_show_b40 f_X1_show_b75
      dsimp only
      rw [if_neg (le12n hi), o hW b hb2.1 hb2.2, c2, hasI7 _ (by omega) (by omega), bsm, ifb, nI_1]
      have hst : ruS A.2.1 (i + 1) = ruS A.2.1 i ++ (if A.2.1.testBit i = true then [114] ++ (nS (nI i) ++ [59]) else []) := rfl
      by_cases e : A.2.1.testBit i = true
      · rw [if_pos e]
        rw [if_pos e] at hst
        have h1 := hru (i + 1) (by omega)
        rw [hst] at h1
        simp only [List.length_append, List.length_cons, List.length_nil] at h1
        have h2 : (if 10 < i + 1 then i + 1 - 10 else 0) ≤ 2 := by split <;> omega
        rw [show (114 : Int32) = nI 114 from rfl, show (59 : Int32) = nI 59 from rfl]
        refine Ok.bind (write7 hW (by omega) (by simp only [List.length_append]; omega)) (fun S2 w2 => ?_)
        refine Ok.bind (number7 w2 (rngI (by omega)) (by simp only [List.length_append, List.length_cons, List.length_nil]; omega)) (fun S3 w3 => ?_)
        refine Ok.bind (write7 w3 (by omega) (by simp only [List.length_append, List.length_cons, List.length_nil]; omega)) (fun S4 w4 => ?_)
        exact hrec _ ⟨S4, rfl, WC_eq w4 (by rw [hst]; simp)⟩
      · rw [if_neg e]
        rw [if_neg e, List.append_nil] at hst
        exact hrec _ ⟨S', rfl, by rw [hst]; exact hW⟩
    · rintro v rec2 ⟨S', rfl, hW⟩
      unfold F_X1_show_b40
      dsimp only
      rw [if_pos (by decide)]
      exact ⟨_, rfl, hW⟩
  · unfold wT
    show sI S 34 1 0 = sI (sA S 35 (S.1 35)) 34 1 0
    have : sA S 35 (S.1 35) = S := by
      unfold sA
      refine Prod.ext ?_ rfl
      funext h
      dsimp only
      by_cases e : h = 35
      · rw [if_pos e, e]
      · rw [if_neg e]
    rw [this]
end
