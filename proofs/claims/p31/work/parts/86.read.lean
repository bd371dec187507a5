/-! a text that is read: where one is -/
def Pos (T : List Nat) (p : Nat) (R : List Nat) : Prop := ∃ P, T = P ++ R ∧ P.length = p
section
variable {T R X : List Nat} {p c : Nat}
theorem Pos.ap (h : Pos T p (X ++ R)) : Pos T (p + X.length) R := by
  obtain ⟨P, rfl, rfl⟩ := h
  exact ⟨P ++ X, by rw [List.append_assoc], by rw [List.length_append]⟩
theorem Pos.s (h : Pos T p (c :: R)) : Pos T (p + 1) R := Pos.ap (X := [c]) h
theorem Pos.at (h : Pos T p (c :: R)) : p < T.length ∧ T.getD p 0 = c := by
  obtain ⟨P, rfl, rfl⟩ := h
  refine ⟨by rw [List.length_append, List.length_cons]; omega, ?_⟩
  rw [List.getD_eq_getElem?_getD, List.getElem?_append_right (Nat.le_refl _), Nat.sub_self]
  rfl
theorem Pos.end (h : Pos T p []) : p = T.length := by
  obtain ⟨P, rfl, rfl⟩ := h
  rw [List.append_nil]
theorem Pos.le (h : Pos T p R) : p + R.length = T.length := by
  obtain ⟨P, rfl, rfl⟩ := h
  rw [List.length_append]
end
/-- digits, the last i of them -/
def dgs (m : Nat) : Nat → List Nat
  | 0 => []
  | i + 1 => (48 + m / 10 ^ i % 10) :: dgs m i
theorem dgs_len (m : Nat) : ∀ i, (dgs m i).length = i
  | 0 => rfl
  | i + 1 => by rw [dgs, List.length_cons, dgs_len m i]
theorem dgt_dgs {m j : Nat} (hj : j ≤ 2) (h1 : j = 0 ∨ 10 ^ j ≤ m) (h2 : m < 10 ^ (j + 1)) : dgt m = dgs m (j + 1) := by
  match j, hj with
  | 0, _ =>
    unfold dgt
    rw [if_neg (by omega), if_neg (by omega)]
    simp [dgs]
  | 1, _ =>
    unfold dgt
    rw [if_neg (by omega), if_pos (by omega)]
    simp [dgs]
  | 2, _ =>
    unfold dgt
    rw [if_pos (by omega), if_pos (by omega)]
    simp [dgs]
def pw : Nat → Nat
  | 0 => 0
  | i + 1 => 10 ^ i
/-- an export that is made, of acts that count now -/
def XP (S : HS) (T : List Nat) (e : Nat) : Prop := (∀ j, j < T.length → f_X7_charAt (nI e) (nI j) S = some (S, (0, nI (T.getD j 0)))) ∧ T.length ≤ 328 ∧ f_X7_charAt (nI e) (nI T.length) S = some (S, (4, 0))
section
variable {S : HS} {T R : List Nat} {e p c : Nat}
theorem x_ask (h : XP S T e) (hP : Pos T p (c :: R)) : f_L_asks 12 (nI e) (nI p) 0 0 0 S = some (S, (0, nI c)) := by
  obtain ⟨h1, h2⟩ := hP.at
  rw [asks12, h.1 p h1, awr_0, h2]
theorem pw_lt {n : Nat} (hn : n ≤ 3) : pw n ≤ 100 := by
  match n, hn with
  | 0, _ => decide
  | 1, _ => decide
  | 2, _ => decide
  | 3, _ => decide
theorem x_dgs {m n : Nat} {p2 p3 : Int32} (h : XP S T e) (hm : m < 1000) (hn : n ≤ 3) (hP : Pos T p (dgs m n ++ R)) : f_L_reads_b74 (nI e) p2 p3 S (nI p) (nI m) (nI (pw n)) = some (S, nI (p + n)) := by
  have hT := h.2.1
  unfold f_L_reads_b74
  refine fx_inv n (fun j v => ∃ i q, i + j = n ∧ Pos T q (dgs m i ++ R) ∧ q + i = p + n ∧ v = (S, nI q, nI m, nI (pw i))) ?_ ?_ (FU_gt (by omega)) ⟨n, p, by omega, hP, rfl, rfl⟩
  · rintro j v rec hj ⟨i, q, hij, hq, hqi, rfl⟩ hrec
    have hle := hq.le
    rw [List.length_append, dgs_len] at hle
    obtain ⟨i, rfl⟩ : ∃ i', i = i' + 1 := ⟨i - 1, by omega⟩
    have h10 := pw_lt (n := i + 1) (by omega)
    have hp0 : 0 < 10 ^ i := Nat.pow_pos (by omega)
    have hpe : pw (i + 1) = 10 ^ i := rfl
    have hz : ∀ {α : Type} {a : Option α}, (if nI (pw (i + 1)) = 0 then none else a) = a := fun {α a} => if_neg (by rw [show (0 : Int32) = nI 0 from rfl, nI_eq (by omega) (by omega)]; omega)
    have hdv : nI (pw (i + 1)) / (10 : Int32) = nI (pw i) := by
      rw [show nI (pw (i + 1)) / (10 : Int32) = nI (pw (i + 1) / 10) from pk_div (d := 10) (by omega) (by decide) (by decide)]
      congr 1
      cases i with
      | zero => rfl
      | succ i => show 10 ^ (i + 1) / 10 = 10 ^ i; rw [Nat.pow_succ, Nat.mul_div_cancel _ (by omega)]
    have hd : m / 10 ^ i < 1000 := Nat.lt_of_le_of_lt (Nat.div_le_self _ _) hm
    have hdd : nI m / nI (pw (i + 1)) = nI (m / 10 ^ i) := pk_div (by omega) (by omega) (by omega)
    unfold F_L_reads_b74 f_L_reads_b118
    dsimp only
    rw [if_neg (by rw [lb_le (by omega)]; omega), if_neg (nI_pos (by omega)), x_ask h hq, bsm]
    dsimp only
    rw [if_pos rfl, hz, if_neg (by decide), hdd, remN (by omega), show (48 : Int32) = nI 48 from rfl, nI_add, if_pos rfl, if_neg (by decide), hdv, nI_1]
    exact hrec _ ⟨i, q + 1, by omega, hq.s, by omega, rfl⟩
  · rintro v rec ⟨i, q, hij, hq, hqi, rfl⟩
    have : i = 0 := by omega
    subst this
    unfold F_L_reads_b74 f_L_reads_b130
    dsimp only
    rw [if_pos (by decide), ← hqi]
    rfl
theorem x_mag {m : Nat} {p2 p3 : Int32} (h : XP S T e) (hm : m < 1000) (hP : Pos T p (dgt m ++ R)) : f_L_reads_b54 (nI e) p2 p3 S (nI p) (nI m) 1 = some (S, nI (p + (dgt m).length)) := by
  unfold f_L_reads_b54
  have hend : ∀ (rec : HS × Int32 × Int32 × Int32 → Option (HS × Int32)) j, j ≤ 2 → (j = 0 ∨ 10 ^ j ≤ m) → m < 10 ^ (j + 1) → F_L_reads_b54 (nI e) p2 p3 rec (S, nI p, nI m, nI (10 ^ j)) = some (S, nI (p + (dgt m).length)) := by
    intro rec j hj h1 h2
    have e1 := dgt_dgs hj h1 h2
    have hp0 : 0 < 10 ^ j := Nat.pow_pos (by omega)
    have h10 := pw_lt (n := j + 1) (by omega)
    rw [show pw (j + 1) = 10 ^ j from rfl] at h10
    have hd : m / 10 ^ j ≤ 9 := by
      have : m / 10 ^ j < 10 := Nat.div_lt_of_lt_mul (by rw [← Nat.pow_succ]; exact h2)
      omega
    unfold F_L_reads_b54
    dsimp only
    rw [if_neg (by rw [show (0 : Int32) = nI 0 from rfl, nI_eq (by omega) (by omega)]; omega), show nI m / nI (10 ^ j) = nI (m / 10 ^ j) from pk_div (by omega) (by omega) (by omega), if_pos (by rw [show (9 : Int32) = nI 9 from rfl, nI_leI (by omega) (by omega)]; exact hd)]
    rw [e1] at hP ⊢
    rw [dgs_len]
    have r := x_dgs (n := j + 1) (p2 := p2) (p3 := p3) h hm (by omega) hP
    rw [show pw (j + 1) = 10 ^ j from rfl] at r
    exact r
  refine fx_inv 2 (fun j v => v = (S, nI p, nI m, nI (10 ^ j)) ∧ (j = 0 ∨ 10 ^ j ≤ m)) ?_ ?_ (FU_gt (by omega)) ⟨rfl, Or.inl rfl⟩
  · rintro j v rec hj ⟨rfl, hj2⟩ hrec
    by_cases e1 : m < 10 ^ (j + 1)
    · exact hend rec j (by omega) hj2 e1
    · have hp0 : 0 < 10 ^ j := Nat.pow_pos (by omega)
      have h10 := pw_lt (n := j + 1) (by omega)
      rw [show pw (j + 1) = 10 ^ j from rfl] at h10
      have hd : ¬ m / 10 ^ j ≤ 9 := by
        have : 10 ≤ m / 10 ^ j := (Nat.le_div_iff_mul_le hp0).mpr (by rw [Nat.mul_comm, ← Nat.pow_succ]; omega)
        omega
      have hd2 : m / 10 ^ j < 1000 := Nat.lt_of_le_of_lt (Nat.div_le_self _ _) hm
      unfold F_L_reads_b54
      dsimp only
      rw [if_neg (by rw [show (0 : Int32) = nI 0 from rfl, nI_eq (by omega) (by omega)]; omega), show nI m / nI (10 ^ j) = nI (m / 10 ^ j) from pk_div (by omega) (by omega) (by omega), if_neg (by rw [show (9 : Int32) = nI 9 from rfl, nI_leI (by omega) (by omega)]; exact hd), show (10 : Int32) = nI 10 from rfl, pk_mul]
      exact hrec _ ⟨by rw [Nat.pow_succ], Or.inr (by omega)⟩
  · rintro v rec ⟨rfl, hj2⟩
    exact hend rec 2 (by omega) hj2 (by omega)
/-- a number that is read -/
theorem x_reads {v : Int32} (h : XP S T e) (hv : rngB v 0 = true) (hP : Pos T p (nS v ++ R)) : f_L_reads (nI e) (nI p) v S = some (S, nI (p + (nS v).length)) := by
  obtain ⟨m, hm, ha⟩ := absN hv
  have hT := h.2.1
  unfold nS at hP ⊢
  rw [ha, nI_cl (by omega)] at hP ⊢
  unfold iabs at ha
  unfold f_L_reads f_L_reads_b13 f_L_reads_b52
  by_cases h0 : 0 ≤ v
  · simp only [if_pos h0, List.nil_append] at hP ha ⊢
    rw [ha]
    exact x_mag h hm hP
  · rw [if_neg h0] at hP ha ⊢
    rw [if_neg h0, if_neg h0]
    rw [if_neg (nI_pos (by have := hP.le; omega)), show -v = 0 - v by grind, ha, x_ask h (c := 45) (R := dgt m ++ R) (by simpa using hP), bsm]
    dsimp only
    rw [if_pos rfl, if_pos (show nI 45 = (45 : Int32) from rfl), nI_1, x_mag h hm (R := R) (p := p + 1) (Pos.s (c := 45) (by simpa using hP))]
    rw [List.length_append, List.length_singleton, Nat.add_assoc]
end
