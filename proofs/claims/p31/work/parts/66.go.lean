/-! a drawer goes back, or on -/
section
variable {S : HS} {sp ns nr na ne nm : Nat} {lt len fr to sj dr ab st lby se : Nat → Nat} {trn : Nat → Bool} {txt : Nat → Nat → Nat} {kd dd : Nat → Int32} {qq : Nat → Nat → Int32}
def stA (st : Nat → Nat) (d s : Nat) : Nat → Nat := fun x => if x = d then s else st x
theorem stA_TWF (hT : TWF na dr ab st) {d s : Nat} (hs : s ≤ na) (hd : ∀ j, s = j + 1 → dr j = d) : TWF na dr ab (stA st d s) := by
  refine ⟨hT.1, hT.2.1, fun x hx => ?_⟩
  unfold stA
  by_cases e : x = d
  · rw [if_pos e, e]; exact ⟨hs, hd⟩
  · rw [if_neg e]; exact hT.2.2 x hx
theorem fbr_brn {d : Nat} {p : Int32} {j : Nat} : ∀ n, fbr dr ab st d p n = j + 1 → j < n ∧ brn dr ab st d j = true
  | 0, h => absurd h (by show ¬ 0 = j + 1; omega)
  | n + 1, h => by
    rw [fbr] at h
    split at h
    · next q =>
      have : j = n := by omega
      subst this
      exact ⟨by omega, q.1⟩
    · have := fbr_brn n h
      exact ⟨by omega, this.2⟩
end