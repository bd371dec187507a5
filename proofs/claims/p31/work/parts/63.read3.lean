/-! holds; the spelled text; exports that stand -/
/-! the spelled text -/
theorem sI_o {S : HS} {a k h : Nat} {v : Int32} (hh : h ≠ a) : (sI S a k v).1 h = S.1 h := by
  unfold sI
  simp [hh]
theorem sI_at {S : HS} {a k : Nat} {v : Int32} : (sI S a k v).1 a k = v := by
  show (if a = a then upd (S.1 a) k v else S.1 a) k = v
  rw [if_pos rfl, upd_at]
theorem sI_k {S : HS} {a k j : Nat} {v : Int32} (hj : j ≠ k) : (sI S a k v).1 a j = S.1 a j := by
  show (if a = a then upd (S.1 a) k v else S.1 a) j = _
  rw [if_pos rfl, upd_ne hj]
/-- how many chars letters have -/
def spc (lt : Nat → Nat) : Nat → Nat
  | 0 => 0
  | n + 1 => spc lt n + (if lt n = 26 then 2 else 1)