/-! a rule is laid -/
def rlS (T : HS) (nr na : Nat) (k a c : Int32) : HS := sI (sI (sI (sI T 42 nr k) 43 nr a) 44 nr c) 45 nr (nI na)
section
variable {S T R F : HS} {sp ns nr na ne nm V : Nat} {lt len fr to sj dr ab st lby se : Nat → Nat} {trn : Nat → Bool} {txt : Nat → Nat → Nat} {kd dd : Nat → Int32} {qq : Nat → Nat → Int32} {w a c : Nat} {k : Int32} {A B : AB}
theorem rlS_o {x : Nat} {a c : Int32} (h : x ≠ 42 ∧ x ≠ 43 ∧ x ≠ 44 ∧ x ≠ 45) : (rlS T nr na k a c).1 x = T.1 x := by
  obtain ⟨h1, h2, h3, h4⟩ := h
  unfold rlS
  rw [sI_o h4, sI_o h3, sI_o h2, sI_o h1]
theorem rlS_r {j : Nat} {a c : Int32} : (rlS T nr na k a c).1 42 j = (if j = nr then k else T.1 42 j) ∧ (rlS T nr na k a c).1 43 j = (if j = nr then a else T.1 43 j) ∧ (rlS T nr na k a c).1 44 j = (if j = nr then c else T.1 44 j) ∧ (rlS T nr na k a c).1 45 j = (if j = nr then nI na else T.1 45 j) := by
  unfold rlS
  by_cases e : j = nr
  · subst e
    refine ⟨?_, ?_, ?_, ?_⟩
    · rw [sI_o (by omega), sI_o (by omega), sI_o (by omega), sI_at, if_pos rfl]
    · rw [sI_o (by omega), sI_o (by omega), sI_at, if_pos rfl]
    · rw [sI_o (by omega), sI_at, if_pos rfl]
    · rw [sI_at, if_pos rfl]
  · refine ⟨?_, ?_, ?_, ?_⟩
    · rw [sI_o (by omega), sI_o (by omega), sI_o (by omega), sI_k e, if_neg e]
    · rw [sI_o (by omega), sI_o (by omega), sI_k e, sI_o (by omega), if_neg e]
    · rw [sI_o (by omega), sI_k e, sI_o (by omega), sI_o (by omega), if_neg e]
    · rw [sI_k e, sI_o (by omega), sI_o (by omega), sI_o (by omega), if_neg e]
/-! the class's draft of a rule -/
theorem draft4 (h5 : S.1 5 0 = nI nr) (hnr : nr < 12) (a c : Int32) : f_X4_draft k a c S = some (sI (sI (sI S 6 nr k) 7 nr a) 8 nr c) := by
  have e1 : (sI S 6 nr k).1 5 0 = nI nr := by rw [sI_o (by omega)]; exact h5
  have e2 : (sI (sI S 6 nr k) 7 nr a).1 5 0 = nI nr := by rw [sI_o (by omega)]; exact e1
  unfold f_X4_draft
  rw [h5, put7 S 6 k (show nr < 12 from hnr) (by decide), bsm, e1, put7 _ 7 a (show nr < 12 from hnr) (by decide), bsm, e2, put7 _ 8 c (show nr < 12 from hnr) (by decide), bsm]
theorem RC_ru (h : RC S nr kd fr to) (hnr : nr < 12) (ha : a < 10) (hc : c < 10) : RC (sI (sI (sI S 6 nr k) 7 nr (nI a)) 8 nr (nI c)) (nr + 1) (exF kd nr k) (exF fr nr a) (exF to nr c) ∧ RC (sI (sI (sI S 6 nr k) 7 nr (nI a)) 8 nr (nI c)) nr kd fr to := by
  have r : ∀ j, (sI (sI (sI S 6 nr k) 7 nr (nI a)) 8 nr (nI c)).1 6 j = (if j = nr then k else S.1 6 j) ∧ (sI (sI (sI S 6 nr k) 7 nr (nI a)) 8 nr (nI c)).1 7 j = (if j = nr then nI a else S.1 7 j) ∧ (sI (sI (sI S 6 nr k) 7 nr (nI a)) 8 nr (nI c)).1 8 j = (if j = nr then nI c else S.1 8 j) := by
    intro j
    by_cases e : j = nr
    · subst e
      refine ⟨?_, ?_, ?_⟩
      · rw [sI_o (by omega), sI_o (by omega), sI_at, if_pos rfl]
      · rw [sI_o (by omega), sI_at, if_pos rfl]
      · rw [sI_at, if_pos rfl]
    · refine ⟨?_, ?_, ?_⟩
      · rw [sI_o (by omega), sI_o (by omega), sI_k e, if_neg e]
      · rw [sI_o (by omega), sI_k e, sI_o (by omega), if_neg e]
      · rw [sI_k e, sI_o (by omega), sI_o (by omega), if_neg e]
  obtain ⟨h1, h2⟩ := h
  refine ⟨⟨by omega, fun j hj => ?_⟩, ⟨by omega, fun j hj => ?_⟩⟩
  · obtain ⟨r1, r2, r3⟩ := r j
    rw [r1, r2, r3]
    by_cases e : j = nr
    · subst e
      rw [if_pos rfl, if_pos rfl, if_pos rfl, exF_at, exF_at, exF_at]
      exact ⟨rfl, rfl, rfl, ha, hc⟩
    · rw [if_neg e, if_neg e, if_neg e, exF_ne e, exF_ne e, exF_ne e]
      exact h2 j (by omega)
  · obtain ⟨r1, r2, r3⟩ := r j
    rw [r1, r2, r3, if_neg (by omega), if_neg (by omega), if_neg (by omega)]
    exact h2 j hj
/-! the model's way through a laying -/
end
