/-! an act in the class, an act in the model, over the invariant -/
section
variable {S D : HS} {sp ns nr na ne nm : Nat} {lt len fr to sj dr ab st lby se : Nat → Nat} {trn : Nat → Bool} {txt : Nat → Nat → Nat} {kd dd : Nat → Int32} {qq : Nat → Nat → Int32} {ns' nr' w s : Nat} {len' fr' to' lby' : Nat → Nat} {trn' : Nat → Bool} {txt' : Nat → Nat → Nat} {kd' : Nat → Int32} {d : Int32} {q : Nat → Int32} {A B : AB}
theorem CB_env {b : Nat} (hf : fok A.2.1 nr) (hk : ∀ k, k < nr → kd' k = kd k) (h : CB S b kd A) : CB S b kd' A := by
  obtain ⟨h1, h2, h3, h4⟩ := h
  exact ⟨h1, h2, h3, fun j v hj h6 hv => h4 j v hj (by rw [← hk j (hf j hj)]; exact h6) hv⟩
theorem AI_ext (hX : XE ns nr ns' nr' len len' trn trn' txt txt' kd kd' fr fr' to to') (h : AI kd fr to (lbL len) ns nr A) : AI kd' fr' to' (lbL len') ns' nr A ∧ AI kd' fr' to' (lbL len') ns' nr' A := by
  have h1 := AI_env (XE_EQ hX) h
  have h2 : AI kd' fr' to' (lbL len') ns' nr A := ⟨fun k hk => by have := h1.1 k hk; have := hX.1; omega, h1.2⟩
  exact ⟨h2, AI_mono h2 hX.2.1⟩
end
