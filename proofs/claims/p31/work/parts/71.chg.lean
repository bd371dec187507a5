/-! shapes are moved, or get a size -/
section
variable {S T R F : HS} {sp ns nr na ne nm V : Nat} {lt len fr to sj dr ab st lby se : Nat → Nat} {trn : Nat → Bool} {txt : Nat → Nat → Nat} {kd dd : Nat → Int32} {qq : Nat → Nat → Int32} {w s : Nat} {d : Int32} {q : Nat → Int32} {A B : AB} {X : Nat → List Nat}
theorem cls_mv (f : ∀ x, x < 36 → F.1 x = R.1 x) (f1 : ∀ x, x ≠ 60 → F.2.1 x = R.2.1 x) (f2 : F.2.2 = R.2.2) : (SC R sp lt → SC F sp lt) ∧ (OC R ns nr na len trn txt kd fr to dd sj qq dr ab st → OC F ns nr na len trn txt kd fr to dd sj qq dr ab st) ∧ (BC R kd A V → BC F kd A V) ∧ (BN R → BN F) ∧ (EC R ne nm se X → EC F ne nm se X) := by
  refine ⟨fun h => SC_fr (fun x p => f x (by omega)) h, fun h => OC_fr (fun x _ p => f x (by omega)) h, fun h => BC_fr (fun x _ p => f x (by omega)) (f1 16 (by omega)) (by rw [f2]) h, fun h => BN_fr (by rw [f2]) h, fun h => EC_fr (fun x p => f x (by omega)) ?_ (f1 31 (by omega)) h⟩
  rw [f 35 (by omega)]
  exact h.2.2.2.2
/-! the model's way through a change -/
end