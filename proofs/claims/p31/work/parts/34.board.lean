/-! a board of the class: its own rows apart from the rest -/
theorem ob_cases {b : Nat} (h : oc b = some 0) : b = 18 ∨ b = 21 ∨ b = 24 ∨ b = 27 := (by decide +kernel : ∀ b, b < 41 → oc b = some 0 → b = 18 ∨ b = 21 ∨ b = 24 ∨ b = 27) b (oc_lt h) h
def wB (S : HS) (b : Nat) (th fo : Int32) (num tie : Nat → Int32) : HS := (fun h => if h = b then (fun k => if k = 5 then th else if k = 6 then fo else S.1 b k) else if h = b + 1 then num else if h = b + 2 then tie else S.1 h, S.2)
section
variable {S : HS} {b : Nat} {th fo : Int32} {num tie : Nat → Int32}
theorem wB_th : (wB S b th fo num tie).1 b 5 = th := by simp [wB]
theorem wB_fo : (wB S b th fo num tie).1 b 6 = fo := by simp [wB]
theorem wB_num : (wB S b th fo num tie).1 (b + 1) = num := by simp [wB]
theorem wB_tie : (wB S b th fo num tie).1 (b + 2) = tie := by simp [wB]
theorem wB_out {h : Nat} (h0 : h ≠ b) (h1 : h ≠ b + 1) (h2 : h ≠ b + 2) : (wB S b th fo num tie).1 h = S.1 h := by simp [wB, h0, h1, h2]
theorem wB_own {k : Nat} (h5 : k ≠ 5) (h6 : k ≠ 6) : (wB S b th fo num tie).1 b k = S.1 b k := by simp [wB, h5, h6]
theorem wB_2 : (wB S b th fo num tie).2 = S.2 := rfl
theorem wB_self : wB S b (S.1 b 5) (S.1 b 6) (S.1 (b + 1)) (S.1 (b + 2)) = S := by
  unfold wB
  refine Prod.ext ?_ rfl
  funext h
  by_cases h0 : h = b
  · subst h0
    simp only [if_pos]
    funext k
    by_cases h5 : k = 5
    · simp [h5]
    · by_cases h6 : k = 6
      · simp [h6]
      · simp [h5, h6]
  · by_cases h1 : h = b + 1
    · subst h1; simp
    · by_cases h2 : h = b + 2
      · subst h2; simp
      · simp [h0, h1, h2]
theorem wB_wB {th' fo' : Int32} {num' tie' : Nat → Int32} : wB (wB S b th fo num tie) b th' fo' num' tie' = wB S b th' fo' num' tie' := by
  unfold wB
  refine Prod.ext ?_ rfl
  funext h
  dsimp only
  by_cases h0 : h = b
  · subst h0
    rw [if_pos rfl, if_pos rfl]
    funext k
    by_cases h5 : k = 5
    · simp [h5]
    · by_cases h6 : k = 6
      · simp [h6]
      · simp [h5, h6]
  · by_cases h1 : h = b + 1
    · subst h1; simp
    · by_cases h2 : h = b + 2
      · subst h2; simp
      · simp [h0, h1, h2]
theorem wB_sNum {k : Nat} {v : Int32} : sI (wB S b th fo num tie) (b + 1) k v = wB S b th fo (upd num k v) tie := by
  unfold wB sI
  refine Prod.ext ?_ rfl
  funext h
  dsimp only
  by_cases h1 : h = b + 1
  · subst h1; simp
  · rw [if_neg h1]
    by_cases h0 : h = b
    · simp [h0]
    · simp [h0, h1]
theorem wB_sTie {k : Nat} {v : Int32} : sI (wB S b th fo num tie) (b + 2) k v = wB S b th fo num (upd tie k v) := by
  unfold wB sI
  refine Prod.ext ?_ rfl
  funext h
  dsimp only
  by_cases h1 : h = b + 2
  · subst h1; simp
  · rw [if_neg h1]
    by_cases h0 : h = b
    · simp [h0]
    · simp [h0, h1]
theorem wB_sTh {v : Int32} : sI (wB S b th fo num tie) b 5 v = wB S b v fo num tie := by
  unfold wB sI
  refine Prod.ext ?_ rfl
  funext h
  dsimp only
  by_cases h0 : h = b
  · subst h0
    simp only [if_pos]
    funext k
    unfold upd
    by_cases h5 : k = 5
    · simp [h5]
    · simp [h5]
  · simp [h0]
theorem wB_sFo {v : Int32} : sI (wB S b th fo num tie) b 6 v = wB S b th v num tie := by
  unfold wB sI
  refine Prod.ext ?_ rfl
  funext h
  dsimp only
  by_cases h0 : h = b
  · subst h0
    simp only [if_pos]
    funext k
    unfold upd
    by_cases h6 : k = 6
    · simp [h6]
    · by_cases h5 : k = 5
      · simp [h5]
      · simp [h5, h6]
  · simp [h0]
theorem wB_aNum {f : Nat → Int32} : sA (wB S b th fo num tie) (b + 1) f = wB S b th fo f tie := by
  unfold wB sA
  refine Prod.ext ?_ rfl
  funext h
  dsimp only
  by_cases h1 : h = b + 1
  · subst h1; simp
  · rw [if_neg h1]
    by_cases h0 : h = b
    · simp [h0]
    · simp [h0, h1]
theorem wB_aTie {f : Nat → Int32} : sA (wB S b th fo num tie) (b + 2) f = wB S b th fo num f := by
  unfold wB sA
  refine Prod.ext ?_ rfl
  funext h
  dsimp only
  by_cases h1 : h = b + 2
  · subst h1; simp
  · rw [if_neg h1]
    by_cases h0 : h = b
    · simp [h0]
    · simp [h0, h1]
end
theorem wB_RC {S : HS} {b : Nat} {th fo : Int32} {num tie : Nat → Int32} {nr : Nat} {kd : Nat → Int32} {fr to : Nat → Nat} (hb : oc b = some 0) (h : RC S nr kd fr to) : RC (wB S b th fo num tie) nr kd fr to := by
  refine ⟨h.1, fun k hk => ?_⟩
  rcases ob_cases hb with rfl | rfl | rfl | rfl <;> exact h.2 k hk
theorem alen_num {b : Nat} (hb : oc b = some 0) : alen (b + 1) = 40 := by rcases ob_cases hb with rfl | rfl | rfl | rfl <;> rfl
theorem alen_tie {b : Nat} (hb : oc b = some 0) : alen (b + 2) = 24 := by rcases ob_cases hb with rfl | rfl | rfl | rfl <;> rfl
theorem nI_4 (s w : Nat) : nI s * 4 + nI w = nI (4 * s + w) := by
  rw [show (4 : Int32) = nI 4 from rfl, pk_mul, nI_add, Nat.mul_comm]
theorem nI_2 (s w : Nat) : nI s * 2 + nI w = nI (2 * s + w) := by
  rw [show (2 : Int32) = nI 2 from rfl, pk_mul, nI_add, Nat.mul_comm]
theorem num7 {S : HS} {b s w : Nat} (hb : oc b = some 0) (hs : s < 10) (hw : w < 4) : f_X0_numberOf b (nI s) (nI w) S = some (S.1 (b + 1) (4 * s + w)) := by
  unfold f_X0_numberOf
  rw [nI_4, read7 S (b + 1) (by rw [alen_num hb]; omega) (by rw [alen_num hb]; omega)]
  rfl
theorem set7 {S : HS} {b s w : Nat} {v : Int32} (hb : oc b = some 0) (hs : s < 10) (hw : w < 4) : f_X0_set b (nI s) (nI w) v S = some (sI S (b + 1) (4 * s + w) v) := by
  unfold f_X0_set
  rw [nI_4, put7 S (b + 1) v (by rw [alen_num hb]; omega) (by rw [alen_num hb]; omega)]
  rfl
theorem letters7 {S : HS} {s : Nat} (hs : s < 10) : f_X5_lettersOf (nI s) S = some (S.1 3 s) := by
  unfold f_X5_lettersOf
  rw [read7 S 3 (by show s < 10; exact hs) (by decide)]
  rfl
/-- by how much the second shape of rule k is above the first one -/
def gapC (num tie : Nat → Int32) (kd : Nat → Int32) (fr : Nat → Nat) (k w : Nat) : Int32 := if kd k = 2 ∨ kd k = 4 then num (4 * fr k + w + 2) else if kd k = 6 then tie (2 * k + w) else 0
theorem gap7 {S : HS} {b nr k w : Nat} {kd : Nat → Int32} {fr to : Nat → Nat} (hb : oc b = some 0) (hR : RC S nr kd fr to) (hk : k < nr) (hw : w < 2 ∨ (kd k ≠ 2 ∧ kd k ≠ 4 ∧ kd k ≠ 6)) : f_X0_gapOf b (nI k) (nI w) S = some (gapC (S.1 (b + 1)) (S.1 (b + 2)) kd fr k w) := by
  have hn := hR.1
  obtain ⟨h1, h2, h3, h4, h5⟩ := hR.2 k hk
  have hT : kd k = 2 ∨ kd k = 4 → f_X0_gapOf_b44 b (nI k) (nI w) S = some (S.1 (b + 1) (4 * fr k + w + 2)) := by
    intro h
    have hw2 : w < 2 := by
      rcases hw with hw | ⟨q1, q2, -⟩
      · exact hw
      · rcases h with h | h
        · exact absurd h q1
        · exact absurd h q2
    unfold f_X0_gapOf_b44
    rw [read7 S 7 (by show k < 12; omega) (by decide), h2]
    dsimp only [Option.bind]
    rw [nI_4, show (2 : Int32) = nI 2 from rfl, nI_add, read7 S (b + 1) (by rw [alen_num hb]; omega) (by rw [alen_num hb]; omega)]
  unfold f_X0_gapOf
  rw [read7 S 6 (by show k < 12; omega) (by decide), h1]
  dsimp only [Option.bind]
  unfold gapC f_X0_gapOf_b82
  by_cases e2 : kd k = 2
  · rw [if_pos e2, if_pos (Or.inl e2)]; exact hT (Or.inl e2)
  · rw [if_neg e2]
    by_cases e3 : kd k = 3
    · rw [if_pos e3, if_neg (by rw [e3]; decide), if_neg (by rw [e3]; decide)]
    · rw [if_neg e3]
      by_cases e4 : kd k = 4
      · rw [if_pos e4, if_pos (Or.inr e4)]; exact hT (Or.inr e4)
      · have e24 : ¬ (kd k = 2 ∨ kd k = 4) := fun q => Or.elim q e2 e4
        rw [if_neg e4, if_neg e24]
        by_cases e5 : kd k = 5
        · rw [if_pos e5, if_neg (by rw [e5]; decide)]
        · rw [if_neg e5]
          by_cases e6 : kd k = 6
          · have hw2 : w < 2 := by
              rcases hw with hw | ⟨-, -, q3⟩
              · exact hw
              · exact absurd e6 q3
            rw [if_pos e6, if_pos e6, nI_2, read7 S (b + 2) (by rw [alen_tie hb]; omega) (by rw [alen_tie hb]; omega)]
          · rw [if_neg e6, if_neg e6]
