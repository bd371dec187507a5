/-! the trees of acts -/
def cI : Nat → Int32
  | 0 => -1
  | n + 1 => nI n
theorem cI_m1 {n : Nat} (h : n < 2 ^ 31) : cI n = -1 ↔ n = 0 := by
  match n with
  | 0 => exact ⟨fun _ => rfl, fun _ => rfl⟩
  | n + 1 =>
    constructor
    · intro q
      have h1 : nI n = -1 := q
      have h2 : ¬ nI n < 0 := nI_pos (by omega)
      rw [h1] at h2
      exact absurd (by decide) h2
    · intro q; omega
theorem cI_inj {a b : Nat} (ha : a < 2 ^ 31) (hb : b < 2 ^ 31) : cI a = cI b ↔ a = b := by
  match a, b with
  | 0, b => exact ⟨fun q => ((cI_m1 hb).mp q.symm).symm, fun q => by rw [q]⟩
  | a + 1, 0 => exact ⟨fun q => (cI_m1 ha).mp q, fun q => by rw [q]⟩
  | a + 1, b + 1 =>
    show nI a = nI b ↔ _
    rw [nI_eq (by omega) (by omega)]
    omega
theorem cI_nI {k b : Nat} (hk : k < 2 ^ 30) (hb : b < 2 ^ 31) : cI b = nI k ↔ b = k + 1 := by
  rw [show nI k = cI (k + 1) from rfl, cI_inj hb (by omega)]
def way (ab : Nat → Nat) : Nat → Nat → Nat
  | 0, _ => 0
  | _ + 1, 0 => 0
  | n + 1, k + 1 => 2 ^ k ||| way ab n (ab k)
def wy (ab : Nat → Nat) (s : Nat) : Nat := way ab s s
def TWF (na : Nat) (dr ab st : Nat → Nat) : Prop := na ≤ 60 ∧ (∀ k, k < na → dr k < 4 ∧ ab k ≤ k ∧ ∀ j, ab k = j + 1 → dr j = dr k) ∧ ∀ d, d < 4 → st d ≤ na ∧ ∀ j, st d = j + 1 → dr j = d
def CT (S : HS) (na : Nat) (dr ab st : Nat → Nat) : Prop := S.1 9 0 = nI na ∧ (∀ k, k < na → S.1 13 k = nI (dr k) ∧ S.1 14 k = cI (ab k)) ∧ ∀ d, d < 4 → S.1 15 d = cI (st d)
section
variable {S : HS} {na : Nat} {dr ab st : Nat → Nat}
theorem way_fuel (h : ∀ k, k < na → ab k ≤ k) : ∀ n m s, s ≤ na → s ≤ n → s ≤ m → way ab n s = way ab m s
  | 0, m, s, _, h1, _ => by
    have : s = 0 := by omega
    subst this
    match m with
    | 0 => rfl
    | m + 1 => rfl
  | n + 1, m, 0, _, _, _ => by
    match m with
    | 0 => rfl
    | m + 1 => rfl
  | n + 1, 0, s + 1, _, _, h2 => by omega
  | n + 1, m + 1, k + 1, h0, h1, h2 => by
    have := h k (by omega)
    show 2 ^ k ||| way ab n (ab k) = 2 ^ k ||| way ab m (ab k)
    rw [way_fuel h n m (ab k) (by omega) (by omega) (by omega)]
theorem wy_s (h : ∀ k, k < na → ab k ≤ k) {k : Nat} (hk : k < na) : wy ab (k + 1) = 2 ^ k ||| wy ab (ab k) := by
  have := h k hk
  show 2 ^ k ||| way ab k (ab k) = _
  rw [way_fuel h k (ab k) (ab k) (by omega) (by omega) (by omega)]
  rfl
theorem wy_0 : wy ab 0 = 0 := rfl
theorem wy_lt (h : ∀ k, k < na → ab k ≤ k) : ∀ n s, s ≤ n → s ≤ na → wy ab s < 2 ^ s
  | _, 0, _, _ => by show 0 < 2 ^ 0; decide
  | 0, s + 1, h1, _ => by omega
  | n + 1, k + 1, h1, h2 => by
    rw [wy_s h (by omega)]
    have h3 := h k (by omega)
    have := wy_lt h n (ab k) (by omega) (by omega)
    exact Nat.or_lt_two_pow (Nat.pow_lt_pow_right (by omega) (by omega)) (Nat.lt_of_lt_of_le this (Nat.pow_le_pow_right (by omega) (by omega)))
theorem wy_b {n s j : Nat} (h : ∀ k, k < na → ab k ≤ k) (hs : s ≤ na) (hj : (wy ab s).testBit j = true) (hn : s ≤ n) : j < s := by
  rcases Nat.lt_or_ge j s with h1 | h1
  · exact h1
  · rw [Nat.testBit_lt_two_pow (Nat.lt_of_lt_of_le (wy_lt h n s hn hs) (Nat.pow_le_pow_right (by omega) h1))] at hj
    exact absurd hj (by decide)
theorem wy_dr (hW : TWF na dr ab st) {d : Nat} : ∀ n s, s ≤ n → s ≤ na → (∀ j, s = j + 1 → dr j = d) → ∀ j, (wy ab s).testBit j = true → dr j = d
  | _, 0, _, _, _, j, hj => absurd hj (by rw [wy_0, Nat.zero_testBit]; decide)
  | 0, s + 1, h1, _, _, _, _ => by omega
  | n + 1, k + 1, h1, h2, h3, j, hj => by
    obtain ⟨w1, w2, w3⟩ := hW
    obtain ⟨q1, q2, q3⟩ := w2 k (by omega)
    rw [wy_s (fun k hk => (w2 k hk).2.1) (by omega), Nat.testBit_or, Nat.testBit_two_pow, Bool.or_eq_true, decide_eq_true_eq] at hj
    rcases hj with rfl | hj
    · exact h3 _ rfl
    · exact wy_dr ⟨w1, w2, w3⟩ n (ab k) (by omega) (by omega) (fun i hi => by rw [q3 i hi]; exact h3 k rfl) j hj
def cs (st ab : Nat → Nat) : Nat → Nat
  | 0 => 0
  | d + 1 => cs st ab d ||| wy ab (st d)
theorem cs_bit {k : Nat} : ∀ n, (cs st ab n).testBit k = true ↔ ∃ d, d < n ∧ (wy ab (st d)).testBit k = true
  | 0 => by
    constructor
    · intro h; exact absurd h (by show ¬ (0 : Nat).testBit k = true; rw [Nat.zero_testBit]; decide)
    · rintro ⟨d, h, -⟩; omega
  | n + 1 => by
    show (cs st ab n ||| wy ab (st n)).testBit k = true ↔ _
    rw [Nat.testBit_or, Bool.or_eq_true, cs_bit n]
    constructor
    · rintro (⟨d, h, q⟩ | h)
      · exact ⟨d, by omega, q⟩
      · exact ⟨n, by omega, h⟩
    · rintro ⟨d, h, q⟩
      rcases Nat.lt_succ_iff_lt_or_eq.mp h with h | rfl
      · exact Or.inl ⟨d, h, q⟩
      · exact Or.inr q
/-- the acts that count -/
def cset (st ab : Nat → Nat) : Nat := cs st ab 4
theorem cset_lt (hW : TWF na dr ab st) {k : Nat} (h : (cset st ab).testBit k = true) : k < na := by
  obtain ⟨d, d1, d2⟩ := (cs_bit 4).mp h
  have := (hW.2.2 d d1).1
  have := wy_b (fun k hk => (hW.2.1 k hk).2.1) this d2 (Nat.le_refl _)
  omega
theorem cset_60 (hW : TWF na dr ab st) : cset st ab < 2 ^ 60 := by
  apply Nat.lt_pow_two_of_testBit
  intro i hi
  cases e : (cset st ab).testBit i with
  | false => rfl
  | true => exact absurd (cset_lt hW e) (by have := hW.1; omega)
theorem cset_bit (hW : TWF na dr ab st) {k : Nat} (hk : k < na) : (cset st ab).testBit k = (wy ab (st (dr k))).testBit k := by
  rw [Bool.eq_iff_iff]
  unfold cset
  rw [cs_bit]
  constructor
  · rintro ⟨d, d1, d2⟩
    have h1 := hW.2.2 d d1
    have := wy_dr hW _ (st d) (Nat.le_refl _) h1.1 h1.2 k d2
    rw [this]; exact d2
  · intro h
    exact ⟨dr k, (hW.2.1 k hk).1, h⟩
theorem above7 (S : HS) {k : Nat} (hk : k < 60) : f_X6_aboveOf (nI k) S = some (S.1 14 k) := by
  unfold f_X6_aboveOf f_X6_aboveOf_b23
  rw [if_neg (nI_pos (by omega)), if_neg (le60n hk), if_pos (ib_nI hk (by omega)), nI_cl (by omega)]
theorem stand7 (S : HS) {d : Nat} (hd : d < 4) : f_X6_standOf (nI d) S = some (S.1 15 d) := by
  unfold f_X6_standOf f_X6_standOf_b23
  rw [if_neg (nI_pos (by omega)), if_neg (le4n hd), if_pos (ib_nI hd (by omega)), nI_cl (by omega)]
theorem shlL {k : Nat} (hk : k < 62) : (1 : Int64) <<< ((nI k).toInt64 &&& 63) = lN (2 ^ k) := by
  rw [show (1 : Int64) = lN 1 from rfl, wb_shl 1 (by omega), Nat.one_mul]
theorem lN_or {a b : Nat} (ha : a < 2 ^ 62) (hb : b < 2 ^ 62) : lN a ||| lN b = lN (a ||| b) := wb_or (by omega) (by omega)
theorem counting7 (hC : CT S na dr ab st) (hW : TWF na dr ab st) : f_X6_counting S = some (lN (cset st ab)) := by
  obtain ⟨c1, c2, c3⟩ := hC
  have hab : ∀ k, k < na → ab k ≤ k := fun k hk => (hW.2.1 k hk).2.1
  have hn := hW.1
  apply ok_eq
  unfold f_X6_counting f_X6_counting_b4
  refine ok_fx 4 (fun d v => v = (lN (cs st ab d), nI d) ∧ cs st ab d < 2 ^ 60) ?_ ?_ (FU_gt (by omega)) ⟨rfl, by show 0 < 2 ^ 60; decide⟩
  · rintro d v rec hd ⟨rfl, hlt⟩ hrec
    unfold F_X6_counting_b4
    dsimp only
    rw [if_neg (le4n hd), stand7 S hd, bsm, c3 d hd]
    unfold f_X6_counting_b19
    have hs0 := (hW.2.2 d hd).1
    have hws := wy_lt hab (st d) (st d) (Nat.le_refl _) hs0
    have hws60 : wy ab (st d) < 2 ^ 60 := Nat.lt_of_lt_of_le hws (Nat.pow_le_pow_right (by omega) (by omega))
    have hgoal : Ok (rec (lN (cs st ab (d + 1)), nI (d + 1))) (fun r => r = lN (cset st ab)) := hrec _ ⟨rfl, Nat.or_lt_two_pow hlt hws60⟩
    refine ok_fx 60 (fun i v => ∃ acc s, v = (lN acc, nI d, cI s, nI i) ∧ s + i ≤ 60 ∧ s ≤ na ∧ acc < 2 ^ 60 ∧ acc ||| wy ab s = cs st ab (d + 1)) ?_ ?_ (FU_gt (by omega)) ⟨cs st ab d, st d, rfl, by omega, hs0, hlt, rfl⟩
    · rintro i v rec2 hi ⟨acc, s, rfl, h1, h2, h3, h4⟩ hrec2
      unfold F_X6_counting_b19 f_X6_counting_b53
      dsimp only
      rw [if_neg (le60n hi)]
      match s, h1, h2, h4 with
      | 0, h1, h2, h4 =>
        rw [if_pos (show cI 0 = -1 from rfl), nI_1]
        rw [wy_0, Nat.or_zero] at h4
        rw [h4]
        exact hgoal
      | k + 1, h1, h2, h4 =>
        rw [if_neg (fun q => absurd ((cI_m1 (by omega)).mp q) (by omega))]
        show Ok ((f_X6_aboveOf (nI k) S).bind _) _
        rw [above7 S (by omega), bsm, (c2 k (by omega)).2]
        rw [show (cI (k + 1)).toInt64 = (nI k).toInt64 from rfl, shlL (by omega), lN_or (by omega) (Nat.pow_lt_pow_right (by omega) (by omega)), nI_1]
        have := hab k (by omega)
        refine hrec2 _ ⟨_, _, rfl, by omega, by omega, Nat.or_lt_two_pow h3 (Nat.pow_lt_pow_right (by omega) (by omega)), ?_⟩
        rw [Nat.or_assoc, ← wy_s hab (by omega)]
        exact h4
    · rintro v rec2 ⟨acc, s, rfl, h1, h2, h3, h4⟩
      have : s = 0 := by omega
      subst this
      unfold F_X6_counting_b19 f_X6_counting_b53
      dsimp only
      rw [if_pos (by decide), nI_1]
      rw [wy_0, Nat.or_zero] at h4
      rw [h4]
      exact hgoal
  · rintro v rec ⟨rfl, hlt⟩
    unfold F_X6_counting_b4
    dsimp only
    rw [if_pos (by decide)]
    exact ⟨_, rfl, rfl⟩
/-! branches -/
def brn (dr ab st : Nat → Nat) (d k : Nat) : Bool := decide (dr k = d) && decide (ab k = st d)
theorem isBranch7 (hC : CT S na dr ab st) (hW : TWF na dr ab st) {k d : Nat} (hk : k < na) (hd : d < 4) : f_X6_isBranch (nI k) (nI d) S = some (bI (brn dr ab st d k)) := by
  obtain ⟨c1, c2, c3⟩ := hC
  have hn := hW.1
  obtain ⟨w1, w2, -⟩ := hW.2.1 k hk
  have hs0 := (hW.2.2 d hd).1
  unfold f_X6_isBranch f_X6_isBranch_b29 f_X6_isBranch_b30
  rw [read7 S 13 (by show k < 60; omega) (by decide), bsm, (c2 k hk).1, above7 S (by omega), stand7 S hd, bsm, bsm, (c2 k hk).2, c3 d hd, nz_0, nz_1]
  have h1 : nI (dr k) = nI d ↔ dr k = d := nI_eq (by omega) (by omega)
  have h2 : cI (ab k) = cI (st d) ↔ ab k = st d := cI_inj (by omega) (by omega)
  unfold brn
  by_cases e1 : dr k = d
  · rw [if_pos (h1.mpr e1)]
    by_cases e2 : ab k = st d
    · rw [if_pos (h2.mpr e2)]; simp [e1, e2, bI]
    · rw [if_neg (fun q => e2 (h2.mp q))]; simp [e1, e2, bI]
  · rw [if_neg (fun q => e1 (h1.mp q))]; simp [e1, bI]
theorem branches7 (hC : CT S na dr ab st) (hW : TWF na dr ab st) {d : Nat} (hd : d < 4) : f_X6_countBranches (nI d) S = some (nI (fb_ct (brn dr ab st d) na)) := by
  have hn := hW.1
  unfold f_X6_countBranches f_X6_countBranches_b4
  refine fx_run na (fun i => (nI (fb_ct (brn dr ab st d) i), nI i)) ?_ ?_ (FU_gt (by omega)) rfl
  · intro i rec hi
    unfold F_X6_countBranches_b4 f_X6_countBranches_b24
    dsimp only
    rw [hC.1, if_neg (nlt_le hi (by omega)), isBranch7 hC hW hi hd, bsm, ifb, nI_1, nI_1, fb_ct_succ]
    cases brn dr ab st d i <;> rfl
  · intro rec
    unfold F_X6_countBranches_b4
    dsimp only
    rw [hC.1, if_pos (nle_nI na)]
/-- the branch with a number: 0, or the act and one -/
def fbr (dr ab st : Nat → Nat) (d : Nat) (p : Int32) : Nat → Nat
  | 0 => 0
  | n + 1 => if brn dr ab st d n = true ∧ p = nI (fb_ct (brn dr ab st d) n) then n + 1 else fbr dr ab st d p n
theorem fbr_le {d : Nat} {p : Int32} : ∀ n, fbr dr ab st d p n ≤ n
  | 0 => Nat.le_refl _
  | n + 1 => by
    have := fbr_le (d := d) (p := p) n
    rw [fbr]
    split <;> omega
theorem fbr_hit {d : Nat} {p : Int32} {i : Nat} (hi : i < 1000) (h1 : brn dr ab st d i = true) (h2 : p = nI (fb_ct (brn dr ab st d) i)) : ∀ m, i + 1 + m < 1000 → fbr dr ab st d p (i + 1 + m) = i + 1
  | 0, _ => by
    show fbr dr ab st d p (i + 1) = i + 1
    rw [fbr, if_pos ⟨h1, h2⟩]
  | m + 1, hm => by
    show fbr dr ab st d p ((i + 1 + m) + 1) = i + 1
    rw [fbr, if_neg, fbr_hit hi h1 h2 m (by omega)]
    rintro ⟨-, q⟩
    rw [h2] at q
    have a1 := fb_ct_le (brn dr ab st d) i
    have a2 := fb_ct_le (brn dr ab st d) (i + 1 + m)
    have a3 := fb_ct_mono (brn dr ab st d) (show i + 1 ≤ i + 1 + m by omega)
    rw [fb_ct_succ, h1] at a3
    simp only [if_true] at a3
    have := (nI_eq (by omega) (by omega)).mp q
    omega
theorem i32_dec {p c : Int32} : p - c + -1 = p - (c + 1) := by grind
theorem i32_eq0 {p c : Int32} : p - c = 0 ↔ p = c := by grind
theorem fbr_nat {d : Nat} {p : Int32} {n : Nat} (hp : p < 0) (hn : n < 1000) : fbr dr ab st d p n = 0 := by
  induction n with
  | zero => rfl
  | succ n ih =>
    rw [fbr, if_neg, ih (by omega)]
    rintro ⟨-, q⟩
    have := fb_ct_le (brn dr ab st d) n
    rw [q] at hp
    exact nI_pos (by omega) hp
theorem branchOf7 (hC : CT S na dr ab st) (hW : TWF na dr ab st) {d : Nat} (hd : d < 4) (p : Int32) : f_X6_branchOf (nI d) p S = some (cI (fbr dr ab st d p na)) := by
  have hn := hW.1
  apply ok_eq
  unfold f_X6_branchOf f_X6_branchOf_b5
  refine ok_fx na (fun i v => v = (p - nI (fb_ct (brn dr ab st d) i), nI i) ∧ fbr dr ab st d p i = 0) ?_ ?_ (FU_gt (by omega)) ⟨by
    show _ = (p - nI 0, _)
    rw [show p - nI 0 = p by show p - 0 = p; grind]; rfl, rfl⟩
  · rintro i v rec hi ⟨rfl, h0⟩ hrec
    unfold F_X6_branchOf_b5 f_X6_branchOf_b34
    dsimp only
    rw [hC.1, if_neg (nlt_le hi (by omega)), isBranch7 hC hW hi hd, bsm, ifb, nI_1, i32_dec, nI_1]
    cases hb : brn dr ab st d i with
    | false =>
      rw [if_neg (by decide)]
      refine hrec _ ⟨by rw [fb_ct_succ, hb]; rfl, ?_⟩
      rw [fbr, if_neg (fun q => by rw [hb] at q; exact absurd q.1 (by decide)), h0]
    | true =>
      rw [if_pos rfl]
      by_cases e : p = nI (fb_ct (brn dr ab st d) i)
      · rw [if_pos (i32_eq0.mpr e)]
        have := fbr_hit (by omega) hb e (na - (i + 1)) (by omega)
        rw [show i + 1 + (na - (i + 1)) = na by omega] at this
        exact ⟨_, rfl, by rw [this]; rfl⟩
      · rw [if_neg (fun q => e (i32_eq0.mp q))]
        refine hrec _ ⟨by rw [fb_ct_succ, hb]; rfl, ?_⟩
        rw [fbr, if_neg (fun q => e q.2), h0]
  · rintro v rec ⟨rfl, h0⟩
    unfold F_X6_branchOf_b5
    dsimp only
    rw [hC.1, if_pos (nle_nI na)]
    exact ⟨_, rfl, by rw [h0]; rfl⟩
end
