/-! addBox and addLabel -/
theorem nI_ne2 {n m : Nat} (hn : n < 2 ^ 31) (hm : m < 2 ^ 31) (h : n ≠ m) : ¬ nI n = nI m := fun q => h ((nI_eq hn hm).mp q)
theorem rng_sp : ∀ s, s < 6 → s ≠ 0 → rngB (nI (2 * s)) 2 = true := by decide +kernel
theorem nz_bo {p : Int32} (h : nz p = true) : vp_nar .boolean p = p ∧ p = bI (decide (p ≠ 0)) := by
  unfold nz at h
  rw [Bool.or_eq_true, decide_eq_true_eq, decide_eq_true_eq] at h
  rcases h with h | h <;> rw [h] <;> decide
def qL (a b c d : Int32) : Nat → Int32 := fun v => if v = 0 then a else if v = 1 then b else if v = 2 then c else d
theorem nbn {α β : Type} (f : α → Option β) : (none : Option α).bind f = none := rfl
theorem qL_0 (a b c d : Int32) : qL a b c d 0 = a := rfl
theorem qL_1 (a b c d : Int32) : qL a b c d 1 = b := rfl
theorem qL_2 (a b c d : Int32) : qL a b c d 2 = c := rfl
theorem qL_3 (a b c d : Int32) : qL a b c d 3 = d := rfl