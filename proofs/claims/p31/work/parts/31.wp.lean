/-! the pure layer: what the functions come to -/
def Ok {α : Type} (x : Option α) (P : α → Prop) : Prop := ∃ r, x = some r ∧ P r
theorem Ok.some {α : Type} {a : α} {P : α → Prop} (h : P a) : Ok (some a) P := ⟨a, rfl, h⟩
theorem Ok.bind {α β : Type} {x : Option α} {f : α → Option β} {Q : α → Prop} {P : β → Prop} (h : Ok x Q) (k : ∀ a, Q a → Ok (f a) P) : Ok (x.bind f) P := by
  obtain ⟨a, rfl, h2⟩ := h
  exact k a h2
theorem Ok.mono {α : Type} {x : Option α} {Q P : α → Prop} (h : Ok x Q) (k : ∀ a, Q a → P a) : Ok x P := by
  obtain ⟨a, h1, h2⟩ := h
  exact ⟨a, h1, k a h2⟩
theorem Ok.ite {α : Type} {c : Prop} [Decidable c] {a b : Option α} {P : α → Prop} (h1 : c → Ok a P) (h2 : ¬ c → Ok b P) : Ok (if c then a else b) P := by
  by_cases h : c
  · rw [if_pos h]; exact h1 h
  · rw [if_neg h]; exact h2 h
theorem Ok.eq {α : Type} {x : Option α} {a : α} (h : x = Option.some a) : Ok x (fun r => r = a) := ⟨a, h, rfl⟩
/-- a loop by an invariant: at most N turns -/
theorem ok_fx {V α : Type} {F : (V → Option α) → V → Option α} (N : Nat) (I : Nat → V → Prop) {P : α → Prop} (hs : ∀ i v rec, i < N → I i v → (∀ v', I (i + 1) v' → Ok (rec v') P) → Ok (F rec v) P) (he : ∀ v rec, I N v → Ok (F rec v) P) {n : Nat} (hn : N < n) {v : V} (h0 : I 0 v) : Ok (fx F n v) P := by
  have key : ∀ (d i n : Nat) (v : V), i + d = N → d < n → I i v → Ok (fx F n v) P := by
    intro d
    induction d with
    | zero =>
      intro i n v h1 h2 h3
      obtain ⟨n, rfl⟩ : ∃ m, n = m + 1 := ⟨n - 1, by omega⟩
      have e : i = N := by omega
      subst e
      exact he v (fx F n) h3
    | succ d ih =>
      intro i n v h1 h2 h3
      obtain ⟨n, rfl⟩ : ∃ m, n = m + 1 := ⟨n - 1, by omega⟩
      exact hs i v (fx F n) (by omega) h3 (fun v' h4 => ih (i + 1) n v' (by omega) (by omega) h4)
  exact key N 0 n v (by omega) hn h0
/-- a loop that counts: its states are val 0, val 1 .., its end r -/
theorem fx_run {V α : Type} {F : (V → Option α) → V → Option α} (N : Nat) (val : Nat → V) {r : Option α} (hs : ∀ i rec, i < N → F rec (val i) = rec (val (i + 1))) (he : ∀ rec, F rec (val N) = r) {n : Nat} (hn : N < n) {v : V} (h0 : v = val 0) : fx F n v = r := by
  subst h0
  have key : ∀ (d i n : Nat), i + d = N → d < n → fx F n (val i) = r := by
    intro d
    induction d with
    | zero =>
      intro i n h1 h2
      obtain ⟨n, rfl⟩ : ∃ m, n = m + 1 := ⟨n - 1, by omega⟩
      have e : i = N := by omega
      subst e
      exact he (fx F n)
    | succ d ih =>
      intro i n h1 h2
      obtain ⟨n, rfl⟩ : ∃ m, n = m + 1 := ⟨n - 1, by omega⟩
      show F (fx F n) (val i) = r
      rw [hs i (fx F n) (by omega)]
      exact ih (i + 1) n (by omega) (by omega)
  exact key N 0 n (by omega) hn
theorem FU_gt {n : Nat} (h : n < 1000) : n < FU := h
def bI (b : Bool) : Int32 := if b then 1 else 0
theorem nz_bI (b : Bool) : nz (bI b) = true := by cases b <;> decide
theorem bI_0 (b : Bool) : bI b = 0 ↔ b = false := by cases b <;> decide
theorem bI_1 (b : Bool) : bI b = 1 ↔ b = true := by cases b <;> decide
theorem bI_t : bI true = 1 := rfl
theorem bI_f : bI false = 0 := rfl
theorem nz_0 : nz 0 = true := by decide
theorem nz_1 : nz 1 = true := by decide
theorem nI_cl {n : Nat} (h : n < 2 ^ 31) : (nI n).toNatClampNeg = n := nI_clamp h
theorem ib_nI {n N : Nat} (h : n < N) (hN : N < 2 ^ 31) : ib (nI n) N = true := by
  unfold ib
  rw [Bool.and_eq_true, decide_eq_true_eq, decide_eq_true_eq]
  exact ⟨nI_pos' (by omega), by rw [nI_cl (by omega)]; exact h⟩
theorem nI_lit (n : Nat) : (OfNat.ofNat n : Int32) = nI n := rfl
/-! sets of shapes, rules and acts as bits -/
theorem has7 (S : HS) {m i : Nat} (hm : m < 2 ^ 62) (hi : i < 62) : f_X7_has (lN m) (nI i) S = some (bI (m.testBit i)) := by
  have h1 : ¬ nI i < 0 := nI_pos (by omega)
  have h2 : ¬ (64 : Int32) ≤ nI i := by
    rw [show (64 : Int32) = nI 64 from rfl, nI_leI (by omega) (by omega)]
    omega
  have h3 : (lN m >>> ((nI i).toInt64 &&& 63)) &&& (1 : Int64) = lN (m / 2 ^ i % 2) := by
    rw [wb_c i (by omega), pf_shr (d := i) ?_ hm, wb_a1 (Nat.lt_of_le_of_lt (Nat.div_le_self _ _) (by omega))]
    rw [wb_tb, wb_sm i (by omega), BitVec.toNat_ofNat]
    exact Nat.mod_eq_of_lt (by omega)
  have h4 : m.testBit i = decide (m / 2 ^ i % 2 = 1) := by
    rw [Nat.testBit_eq_decide_div_mod_eq]
  unfold f_X7_has f_X7_has_b24 f_X7_has_b25
  rw [if_neg h1, if_neg h2, h3, h4]
  rcases Nat.mod_two_eq_zero_or_one (m / 2 ^ i) with h | h <;> rw [h] <;> decide
theorem has7n (S : HS) (x : Int64) {i : Int32} (hi : i < 0) : f_X7_has x i S = some 0 := by
  unfold f_X7_has f_X7_has_b24 f_X7_has_b25
  rw [if_pos hi]
  rfl
theorem nI_toL {m : Nat} (h : m < 2 ^ 31) : (nI m).toInt64 = lN m := nI_l h
/-! rows -/
theorem read7 (S : HS) (a : Nat) {i : Nat} (hi : i < alen a) (ha : alen a < 2 ^ 31) : f_X7_read a (nI i) S = some (S.1 a i) := by
  have h1 : ¬ nI i < 0 := nI_pos (by omega)
  have h2 : ¬ (Int32.ofNat (alen a)) ≤ nI i := nI_ge hi ha
  unfold f_X7_read f_X7_read_b17
  rw [if_neg h1, if_neg h2, if_pos (ib_nI hi ha), nI_cl (by omega)]
theorem put7 (S : HS) (a : Nat) {i : Nat} (v : Int32) (hi : i < alen a) (ha : alen a < 2 ^ 31) : f_X7_put a (nI i) v S = some (sI S a i v) := by
  have h1 : ¬ nI i < 0 := nI_pos (by omega)
  have h2 : ¬ (Int32.ofNat (alen a)) ≤ nI i := nI_ge hi ha
  unfold f_X7_put f_X7_put_b14
  rw [if_neg h1, if_neg h2, if_pos (ib_nI hi ha), nI_cl (by omega)]
/-! kinds of rules -/
def abt (kd : Int32) (w : Nat) : Bool := if w = 0 then (decide (kd = 2) || decide (kd = 3) || decide (kd = 6)) else if w = 1 then (decide (kd = 4) || decide (kd = 5) || decide (kd = 6)) else if w = 2 then decide (kd = 0) else decide (kd = 1)
theorem about7 (S : HS) (kd : Int32) {w : Nat} (hw : w < 4) : f_X7_isAbout kd (nI w) S = some (bI (abt kd w)) := by
  match w, hw with
  | 0, _ =>
    show f_X7_isAbout kd 0 S = _
    unfold f_X7_isAbout f_X7_isAbout_b48 f_X7_isAbout_b53 abt
    by_cases h1 : kd = 2
    · simp [h1, nz_1, bI]
    · by_cases h2 : kd = 3
      · simp [h2, nz_1, bI]
      · by_cases h3 : kd = 6
        · simp [h3, nz_1, bI]
        · simp [h1, h2, h3, nz_0, bI]
  | 1, _ =>
    show f_X7_isAbout kd 1 S = _
    unfold f_X7_isAbout f_X7_isAbout_b70 f_X7_isAbout_b75 abt
    by_cases h1 : kd = 4
    · simp [h1, nz_1, bI]
    · by_cases h2 : kd = 5
      · simp [h2, nz_1, bI]
      · by_cases h3 : kd = 6
        · simp [h3, nz_1, bI]
        · simp [h1, h2, h3, nz_0, bI]
  | 2, _ =>
    show f_X7_isAbout kd 2 S = _
    unfold f_X7_isAbout f_X7_isAbout_b85 abt
    by_cases h1 : kd = 0
    · simp [h1, nz_1, bI]
    · simp [h1, nz_0, bI]
  | 3, _ =>
    show f_X7_isAbout kd 3 S = _
    unfold f_X7_isAbout f_X7_isAbout_b96 abt
    by_cases h1 : kd = 1
    · simp [h1, nz_1, bI]
    · simp [h1, nz_0, bI]
def rngB (x : Int32) (w : Nat) : Bool := if 2 ≤ w then !(decide (x < 1)) && !(decide (99 < x)) else !(decide (x < -999)) && !(decide (999 < x))
theorem range7 (S : HS) (x : Int32) {w : Nat} (hw : w < 4) : f_X7_isInRange x (nI w) S = some (bI (rngB x w)) := by
  have h2 : (2 : Int32) ≤ nI w ↔ 2 ≤ w := by rw [show (2 : Int32) = nI 2 from rfl, nI_leI (by omega) (by omega)]
  unfold f_X7_isInRange f_X7_isInRange_b40 f_X7_isInRange_b41 f_X7_isInRange_b23 f_X7_isInRange_b24 rngB
  by_cases h : 2 ≤ w
  · rw [if_pos (h2.mpr h), if_pos h]
    by_cases h3 : x < 1
    · simp [h3, nz_0, bI]
    · by_cases h4 : 99 < x
      · simp [h4, nz_0, bI]
      · simp [h3, h4, nz_1, bI]
  · rw [if_neg (fun q => h (h2.mp q)), if_neg h]
    by_cases h3 : x < -999
    · simp [h3, nz_0, bI]
    · by_cases h4 : 999 < x
      · simp [h4, nz_0, bI]
      · simp [h3, h4, nz_1, bI]
