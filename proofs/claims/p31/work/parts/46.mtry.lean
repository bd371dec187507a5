/-! the model tries an act -/
section
variable {S : HS} {nm nr ns : Nat} {kd : Nat → Int32} {fr to : Nat → Nat} {lb : Nat → Bool} {A : AB}
theorem AI_mono {n1 n2 : Nat} (h : AI kd fr to lb ns n1 A) (hn : n1 ≤ n2) : AI kd fr to lb ns n2 A := ⟨h.1, fun k hk => by have := h.2.1 k hk; omega, h.2.2⟩
theorem szN_col {g w u k n : Nat} {v : Int32} {num : Nat → Int32} (hk : k < n) (hw : w < 4) (hu : u < 4) : szN g w v num n (4 * k + u) = if u = w ∧ g.testBit k = true then v else num (4 * k + u) := by
  unfold szN
  rw [show (4 * k + u) % 4 = u by omega, show (4 * k + u) / 4 = k by omega]
  by_cases e : u = w ∧ g.testBit k = true
  · rw [if_pos ⟨e.1, hk, e.2⟩, if_pos e]
  · rw [if_neg (fun q => e ⟨q.1, q.2.2⟩), if_neg e]
theorem shN_coln {g w u k n : Nat} {x : Int32} {num : Nat → Int32} (hk : k < n) (hw : w < 4) (hu : u < 4) : shN g w x num n (4 * k + u) = num (4 * k + u) + (if u = w ∧ g.testBit k = true then x else 0) := by
  unfold shN
  rw [show (4 * k + u) % 4 = u by omega, show (4 * k + u) / 4 = k by omega]
  by_cases e : u = w ∧ g.testBit k = true
  · rw [if_pos ⟨e.1, hk, e.2⟩, if_pos e]
  · rw [if_neg (fun q => e ⟨q.1, q.2.2⟩), if_neg e]
    exact i32_00.symm
theorem shN_out {g w u k n : Nat} {x : Int32} {num : Nat → Int32} (hu : u < 4) (hg : g.testBit k = false) : shN g w x num n (4 * k + u) = num (4 * k + u) := by
  unfold shN
  rw [show (4 * k + u) % 4 = u by omega, show (4 * k + u) / 4 = k by omega, if_neg (fun q => by rw [hg] at q; exact absurd q.2.2 (by decide))]
theorem szN_out {g w u k n : Nat} {v : Int32} {num : Nat → Int32} (hu : u < 4) (hg : g.testBit k = false) : szN g w v num n (4 * k + u) = num (4 * k + u) := by
  unfold szN
  rw [show (4 * k + u) % 4 = u by omega, show (4 * k + u) / 4 = k by omega, if_neg (fun q => by rw [hg] at q; exact absurd q.2.2 (by decide))]
end
