/-! the model's loops over what it tries -/
section
variable {S : HS} {tr tx ty : Nat → Int32} {tt tf fl : Int32}
end
theorem rPass_nm {lk : Nat → Bool} {fr to : Nat → Nat} {nm : Nat} (h : ∀ j, lk j = true → j < nm) (g : Nat) : ∀ d, rPass lk fr to (nm + d) g = rPass lk fr to nm g
  | 0 => rfl
  | d + 1 => by
    show rStep lk fr to (nm + d) (rPass lk fr to (nm + d) g) = _
    rw [rPass_nm h g d]
    unfold rStep
    rw [if_neg (fun q => absurd (h _ q.1) (by omega))]
def prv (lk : Nat → Bool) (fr to : Nat → Nat) (s : Nat) : Nat → Nat
  | 0 => 0
  | j + 1 => rIter lk fr to 12 j (2 ^ s)
theorem nlt_le {i n : Nat} (h : i < n) (hn : n < 2 ^ 31) : ¬ nI n ≤ nI i := by rw [nI_leI hn (by omega)]; omega
theorem nle_nI (n : Nat) : nI n ≤ nI n := Int32.le_refl _
section
variable {S : HS} {nm nr ns : Nat} {kd : Nat → Int32} {fr to : Nat → Nat} {lb : Nat → Bool}
def gapM (tr tx ty : Nat → Int32) (kd : Nat → Int32) (fr : Nat → Nat) (j w : Nat) : Int32 := if kd j = 6 then (if w = 0 then tx j else ty j) else if kd j = 2 ∨ kd j = 4 then tr (4 * fr j + 2 + w) else 0
theorem idx4 (s w : Nat) : (4 : Int32) * nI s + nI w = nI (4 * s + w) := by rw [show (4 : Int32) = nI 4 from rfl, pk_mul, nI_add]
theorem gapM_off {w j : Nat} {tr tr' tx ty : Nat → Int32} (hw : w < 2) (h : offc w tr tr') : gapM tr' tx ty kd fr j w = gapM tr tx ty kd fr j w := by
  unfold gapM
  rw [h (4 * fr j + 2 + w) (by omega)]
def szN (g w : Nat) (v : Int32) (num : Nat → Int32) (i : Nat) : Nat → Int32 := fun t => if t % 4 = w ∧ t / 4 < i ∧ g.testBit (t / 4) = true then v else num t
theorem szN_at {g w i : Nat} {v : Int32} {num : Nat → Int32} (hw : w < 4) : szN g w v num i (4 * i + w) = num (4 * i + w) := by
  unfold szN
  rw [if_neg (by omega)]
theorem szN_no {g w i : Nat} {v : Int32} {num : Nat → Int32} (h : g.testBit i = false) : szN g w v num (i + 1) = szN g w v num i := by
  funext t
  unfold szN
  by_cases e : t / 4 = i
  · rw [if_neg (by rw [e, h]; simp), if_neg (by rw [e]; omega)]
  · by_cases h2 : t % 4 = w ∧ t / 4 < i ∧ g.testBit (t / 4) = true
    · rw [if_pos h2, if_pos ⟨h2.1, by omega, h2.2.2⟩]
    · rw [if_neg h2, if_neg (fun q => h2 ⟨q.1, by omega, q.2.2⟩)]
theorem szN_yes {g w i : Nat} {v : Int32} {num : Nat → Int32} (hw : w < 4) (h : g.testBit i = true) : szN g w v num (i + 1) = upd (szN g w v num i) (4 * i + w) v := by
  funext t
  unfold szN upd
  by_cases e : t = 4 * i + w
  · rw [if_pos e, if_pos ⟨by omega, by omega, by rw [e, show (4 * i + w) / 4 = i by omega]; exact h⟩]
  · rw [if_neg e]
    dsimp only
    by_cases h2 : t % 4 = w ∧ t / 4 < i ∧ g.testBit (t / 4) = true
    · rw [if_pos h2, if_pos ⟨h2.1, by omega, h2.2.2⟩]
    · rw [if_neg h2, if_neg (fun q => h2 ⟨q.1, by omega, q.2.2⟩)]
theorem szN_0 {g w : Nat} {v : Int32} {num : Nat → Int32} : szN g w v num 0 = num := by
  funext t
  unfold szN
  rw [if_neg (by omega)]
theorem szN_same {g w i : Nat} {v : Int32} {num : Nat → Int32} (hw : w < 4) (h : num (4 * i + w) = v) : szN g w v num (i + 1) = szN g w v num i := by
  cases e : g.testBit i with
  | false => exact szN_no e
  | true => rw [szN_yes hw e, upd_same (by rw [szN_at hw]; exact h)]
end
