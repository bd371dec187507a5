/-! rules are dropped and laid -/
section
variable {S T R F : HS} {sp ns nr na ne nm V : Nat} {lt len fr to sj dr ab st lby se : Nat → Nat} {trn : Nat → Bool} {txt : Nat → Nat → Nat} {kd dd : Nat → Int32} {qq : Nat → Nat → Int32} {w s : Nat} {d : Int32} {q : Nat → Int32} {A B : AB} {X : Nat → List Nat}
theorem n1z : ¬ (1 : Int32) = 0 := by decide
theorem OC_DF {D : HS} (hDF : DF S D na) (h : OC S ns nr na len trn txt kd fr to dd sj qq dr ab st) : OC D ns nr na len trn txt kd fr to dd sj qq dr ab st := by
  obtain ⟨k1, k2, k3, k4, k5, k6⟩ := h
  have o : ∀ x, x ≠ 10 → x ≠ 11 → x ≠ 12 → D.1 x = S.1 x := hDF.1
  refine ⟨by rw [o 2 (by omega) (by omega) (by omega)]; exact k1, by rw [o 5 (by omega) (by omega) (by omega)]; exact k2, ?_, ?_, fun a ha => DF_TA hDF ha (k5 a ha), ?_⟩
  · unfold HS1 at k3 ⊢
    rw [o 2 (by omega) (by omega) (by omega), o 3 (by omega) (by omega) (by omega), o 4 (by omega) (by omega) (by omega)]; exact k3
  · unfold RC at k4 ⊢
    rw [o 6 (by omega) (by omega) (by omega), o 7 (by omega) (by omega) (by omega), o 8 (by omega) (by omega) (by omega)]; exact k4
  · unfold CT at k6 ⊢
    rw [o 9 (by omega) (by omega) (by omega), o 13 (by omega) (by omega) (by omega), o 14 (by omega) (by omega) (by omega), o 15 (by omega) (by omega) (by omega)]; exact k6
theorem sL_all {U : HS} {v : Int64} : (sL U 60 0 v).1 = U.1 ∧ (sL U 60 0 v).2.2 = U.2.2 ∧ (∀ x, x ≠ 60 → (sL U 60 0 v).2.1 x = U.2.1 x) ∧ (sL U 60 0 v).2.1 60 0 = v := by
  refine ⟨rfl, rfl, fun x hx => ?_, sL_60⟩
  unfold sL
  simp [hx]
end