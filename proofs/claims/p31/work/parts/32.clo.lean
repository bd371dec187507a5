/-! what can be reached over rules: the closure, and both programs' loops for it -/
def rStep (lk : Nat → Bool) (fr to : Nat → Nat) (k g : Nat) : Nat := if lk k = true ∧ (g.testBit (fr k) = true ∨ g.testBit (to k) = true) then g ||| (2 ^ fr k ||| 2 ^ to k) else g
def rPass (lk : Nat → Bool) (fr to : Nat → Nat) : Nat → Nat → Nat
  | 0, g => g
  | n + 1, g => rStep lk fr to n (rPass lk fr to n g)
def rIter (lk : Nat → Bool) (fr to : Nat → Nat) (n : Nat) : Nat → Nat → Nat
  | 0, g => g
  | i + 1, g => rPass lk fr to n (rIter lk fr to n i g)
def sbt (g h : Nat) : Prop := ∀ i, g.testBit i = true → h.testBit i = true
theorem sbt.rf (g : Nat) : sbt g g := fun _ h => h
theorem sbt.tr {a b c : Nat} (h1 : sbt a b) (h2 : sbt b c) : sbt a c := fun i h => h2 i (h1 i h)
theorem rStep_sub (lk : Nat → Bool) (fr to : Nat → Nat) (k g : Nat) : sbt g (rStep lk fr to k g) := by
  intro i h
  unfold rStep
  split
  · rw [Nat.testBit_or, h, Bool.true_or]
  · exact h
theorem rPass_sub (lk : Nat → Bool) (fr to : Nat → Nat) : ∀ n g, sbt g (rPass lk fr to n g)
  | 0, g => sbt.rf g
  | n + 1, g => (rPass_sub lk fr to n g).tr (rStep_sub lk fr to n _)
theorem rIter_sub (lk : Nat → Bool) (fr to : Nat → Nat) (n : Nat) : ∀ i g, sbt g (rIter lk fr to n i g)
  | 0, g => sbt.rf g
  | i + 1, g => (rIter_sub lk fr to n i g).tr (rPass_sub lk fr to n _)
def rOk (lk : Nat → Bool) (fr to : Nat → Nat) : Prop := ∀ k, lk k = true → fr k < 10 ∧ to k < 10
theorem rStep_lt {lk : Nat → Bool} {fr to : Nat → Nat} (ho : rOk lk fr to) (k : Nat) {g : Nat} (h : g < 2 ^ 10) : rStep lk fr to k g < 2 ^ 10 := by
  unfold rStep
  split
  · next h2 =>
    obtain ⟨h3, h4⟩ := ho k h2.1
    exact Nat.or_lt_two_pow h (Nat.or_lt_two_pow (Nat.pow_lt_pow_right (by omega) h3) (Nat.pow_lt_pow_right (by omega) h4))
  · exact h
theorem rPass_lt {lk : Nat → Bool} {fr to : Nat → Nat} (ho : rOk lk fr to) : ∀ (n : Nat) {g : Nat}, g < 2 ^ 10 → rPass lk fr to n g < 2 ^ 10
  | 0, _, h => h
  | n + 1, _, h => rStep_lt ho n (rPass_lt ho n h)
theorem rIter_lt {lk : Nat → Bool} {fr to : Nat → Nat} (ho : rOk lk fr to) (n : Nat) : ∀ (i : Nat) {g : Nat}, g < 2 ^ 10 → rIter lk fr to n i g < 2 ^ 10
  | 0, _, h => h
  | i + 1, _, h => rPass_lt ho n (rIter_lt ho n i h)
def crd (g : Nat) : Nat := fb_ct (fun i => g.testBit i) 10
theorem ct_strict {p q : Nat → Bool} : ∀ {n : Nat}, (∀ k, k < n → p k = true → q k = true) → (∃ k, k < n ∧ q k = true ∧ p k = false) → fb_ct p n + 1 ≤ fb_ct q n
  | 0, _, ⟨k, h, _⟩ => absurd h (Nat.not_lt_zero k)
  | n + 1, h, ⟨k, hk, h1, h2⟩ => by
    rw [fb_ct_succ, fb_ct_succ]
    by_cases e : k = n
    · subst e
      have h3 := fb_ct_sub (n := k) (fun j hj => h j (by omega))
      rw [h1, h2]
      simp only [Bool.false_eq_true, if_false, if_true]
      omega
    · have h3 := ct_strict (n := n) (fun j hj => h j (by omega)) ⟨k, by omega, h1, h2⟩
      have h4 := h n (by omega)
      cases hp : p n with
      | false => simp only [Bool.false_eq_true, if_false]; omega
      | true => rw [h4 hp]; simp only [if_true]; omega
theorem bits_out {g i : Nat} (h : g < 2 ^ 10) (hi : 10 ≤ i) : g.testBit i = false := Nat.testBit_lt_two_pow (Nat.lt_of_lt_of_le h (Nat.pow_le_pow_right (by omega) hi))
theorem crd_eq {g h : Nat} (hs : sbt g h) (hg : g < 2 ^ 10) (hh : h < 2 ^ 10) (hc : crd h ≤ crd g) : g = h := by
  apply Nat.eq_of_testBit_eq
  intro i
  by_cases hi : i < 10
  · cases h1 : g.testBit i with
    | true => exact (hs i h1).symm
    | false =>
      cases h2 : h.testBit i with
      | false => rfl
      | true =>
        have h3 := ct_strict (p := fun i => g.testBit i) (q := fun i => h.testBit i) (n := 10) (fun k _ hk => hs k hk) ⟨i, hi, h2, h1⟩
        unfold crd at hc
        omega
  · rw [bits_out hg (by omega), bits_out hh (by omega)]
theorem rIter_grow {lk : Nat → Bool} {fr to : Nat → Nat} (ho : rOk lk fr to) (n : Nat) {g : Nat} (hg : g < 2 ^ 10) : ∀ j, rPass lk fr to n (rIter lk fr to n j g) = rIter lk fr to n j g ∨ j + crd g ≤ crd (rIter lk fr to n j g)
  | 0 => Or.inr (by show 0 + crd g ≤ crd g; omega)
  | j + 1 => by
    rcases rIter_grow ho n hg j with h | h
    · left
      show rPass lk fr to n (rPass lk fr to n (rIter lk fr to n j g)) = rPass lk fr to n (rIter lk fr to n j g)
      rw [h, h]
    · by_cases e : rPass lk fr to n (rIter lk fr to n j g) = rIter lk fr to n j g
      · left
        show rPass lk fr to n (rPass lk fr to n (rIter lk fr to n j g)) = rPass lk fr to n (rIter lk fr to n j g)
        rw [e, e]
      · right
        show j + 1 + crd g ≤ crd (rPass lk fr to n (rIter lk fr to n j g))
        have h1 := rPass_sub lk fr to n (rIter lk fr to n j g)
        have h2 := rIter_lt ho n j hg
        have h3 := rPass_lt ho n h2
        rcases Nat.lt_or_ge (crd (rIter lk fr to n j g)) (crd (rPass lk fr to n (rIter lk fr to n j g))) with h4 | h4
        · omega
        · exact absurd (crd_eq h1 h2 h3 h4).symm e
theorem crd_pow {s : Nat} (h : s < 10) : 1 ≤ crd (2 ^ s) := by
  have : ∀ s, s < 10 → 1 ≤ crd (2 ^ s) := by decide
  exact this s h
theorem crd_le (g : Nat) : crd g ≤ 10 := fb_ct_le _ 10
/-- the set that is reached from s -/
def clo (lk : Nat → Bool) (fr to : Nat → Nat) (s : Nat) : Nat := rIter lk fr to 12 10 (2 ^ s)
theorem pow_lt10 {s : Nat} (h : s < 10) : 2 ^ s < 2 ^ 10 := Nat.pow_lt_pow_right (by omega) h
theorem clo_fix {lk : Nat → Bool} {fr to : Nat → Nat} (ho : rOk lk fr to) {s : Nat} (hs : s < 10) : rPass lk fr to 12 (clo lk fr to s) = clo lk fr to s := by
  rcases rIter_grow ho 12 (pow_lt10 hs) 10 with h | h
  · exact h
  · have h1 := crd_le (rIter lk fr to 12 10 (2 ^ s))
    have h2 := crd_pow hs
    omega
theorem clo_lt {lk : Nat → Bool} {fr to : Nat → Nat} (ho : rOk lk fr to) {s : Nat} (hs : s < 10) : clo lk fr to s < 2 ^ 10 := rIter_lt ho 12 10 (pow_lt10 hs)
theorem clo_self {lk : Nat → Bool} {fr to : Nat → Nat} {s : Nat} : (clo lk fr to s).testBit s = true := rIter_sub lk fr to 12 10 _ s (by simp [Nat.testBit_two_pow_self])
theorem rIter_add (lk : Nat → Bool) (fr to : Nat → Nat) (n : Nat) (g : Nat) (i : Nat) : ∀ j, rIter lk fr to n (i + j) g = rIter lk fr to n j (rIter lk fr to n i g)
  | 0 => rfl
  | j + 1 => by
    show rPass lk fr to n (rIter lk fr to n (i + j) g) = _
    rw [rIter_add lk fr to n g i j]
    rfl
theorem rIter_of_fix {lk : Nat → Bool} {fr to : Nat → Nat} {n g : Nat} (h : rPass lk fr to n g = g) : ∀ j, rIter lk fr to n j g = g
  | 0 => rfl
  | j + 1 => by
    show rPass lk fr to n (rIter lk fr to n j g) = g
    rw [rIter_of_fix h j, h]
/-- a fixed point of the passes that was reached at some time is the closure -/
theorem clo_of_fix {lk : Nat → Bool} {fr to : Nat → Nat} (ho : rOk lk fr to) {s : Nat} (hs : s < 10) {j : Nat} (h : rPass lk fr to 12 (rIter lk fr to 12 j (2 ^ s)) = rIter lk fr to 12 j (2 ^ s)) : rIter lk fr to 12 j (2 ^ s) = clo lk fr to s := by
  have h1 : rIter lk fr to 12 (j + 10) (2 ^ s) = rIter lk fr to 12 j (2 ^ s) := by rw [rIter_add, rIter_of_fix h]
  have h2 : rIter lk fr to 12 (10 + j) (2 ^ s) = clo lk fr to s := by
    rw [rIter_add]
    exact rIter_of_fix (clo_fix ho hs) j
  rw [← h1, Nat.add_comm, h2]
/-! int sets -/
theorem shl1 {a : Nat} (h : a < 31) : (1 : Int32) <<< (nI a &&& 31) = nI (2 ^ a) := by
  rw [show (1 : Int32) = nI 1 from rfl, pk_shlN (n := 1) _ a (s_l a (by omega)) (by rw [Nat.one_mul]; exact Nat.pow_lt_pow_right (by omega) (by omega)), Nat.one_mul]
theorem and_ends {g a c : Nat} : g &&& (2 ^ a ||| 2 ^ c) = 0 ↔ ¬ (g.testBit a = true ∨ g.testBit c = true) := by
  rw [Nat.and_or_distrib_left, Nat.or_eq_zero_iff, fb_bit_nat, fb_bit_nat]
  cases g.testBit a <;> cases g.testBit c <;> simp
theorem nI_0iff {n : Nat} (h : n < 2 ^ 31) : nI n = 0 ↔ n = 0 := by
  rw [show (0 : Int32) = nI 0 from rfl, nI_eq h (by omega)]
