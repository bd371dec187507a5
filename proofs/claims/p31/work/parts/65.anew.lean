/-! what is found by doing all acts anew; an export is asked for -/
theorem lb_le {m : Nat} (h : m < 2 ^ 31) : nI m ≤ 0 ↔ m = 0 := by
  rw [show (0 : Int32) = nI 0 from rfl, nI_leI h (by omega)]
  omega
theorem HS1_lb {S : HS} {ns : Nat} {len : Nat → Nat} {trn : Nat → Bool} {txt : Nat → Nat → Nat} (h : HS1 S ns len trn txt) : ∀ k, k < ns → (S.1 3 k ≤ 0 ↔ lbL len k = false) := by
  intro k hk
  obtain ⟨h1, h2⟩ := h.1 k
  rw [h2 hk, lb_le (by omega)]
  unfold lbL
  rw [decide_eq_false_iff_not]
  omega
section
variable {S : HS} {sp ns nr na ne nm : Nat} {lt len fr to sj dr ab st lby se : Nat → Nat} {trn : Nat → Bool} {txt : Nat → Nat → Nat} {kd dd : Nat → Int32} {qq : Nat → Nat → Int32}
end
theorem wT_f {S : HS} {f : Nat → Int32} {n : Int32} : (wT S f n).1 35 = f := by
  unfold wT
  rw [sI_o (by omega)]
  simp [sA]
theorem wT_n {S : HS} {f : Nat → Int32} {n : Int32} : (wT S f n).1 34 1 = n := by
  unfold wT
  exact sI_at
theorem sign1 {S : HS} {i : Nat} (hi : i < 328) (hc : ch (S.1 35 i) = true) : f_X1_signOf (nI i) S = some (S.1 35 i) := by
  unfold f_X1_signOf f_X1_signOf_b23
  rw [if_neg (nI_pos (by omega)), if_neg (by rw [show (328 : Int32) = nI 328 from rfl, nI_leI (by omega) (by omega)]; omega), if_pos (ib_nI hi (by omega)), nI_cl (by omega), if_pos hc]
theorem acts2 {S : HS} {e : Nat} (he : e < 10) : f_X2_actsOf (nI e) S = some (S.2.1 31 e) := by
  unfold f_X2_actsOf f_X2_actsOf_b23
  rw [if_neg (nI_pos (by omega)), if_neg (le10n he), if_pos (ib_nI he (by omega)), nI_cl (by omega)]
theorem sA_sI (T : HS) (a : Nat) (f : Nat → Int32) (m : Nat) (v : Int32) : sI (sA T a f) a m v = sA T a (upd f m v) := by
  unfold sI sA
  refine Prod.ext ?_ rfl
  funext h
  dsimp only
  by_cases e : h = a
  · subst e; simp
  · simp [e]
theorem sA_o {T : HS} {a h : Nat} {f : Nat → Int32} (hh : h ≠ a) : (sA T a f).1 h = T.1 h := by
  unfold sA
  simp [hh]
theorem sA_at {T : HS} {a : Nat} {f : Nat → Int32} : (sA T a f).1 a = f := by
  unfold sA
  simp
theorem sA_self (T : HS) (a : Nat) : sA T a (T.1 a) = T := by
  unfold sA
  refine Prod.ext ?_ rfl
  funext h
  dsimp only
  by_cases e : h = a
  · subst e; simp
  · simp [e]
/-- a row that is copied to a place of another one -/
def put_ (f g : Nat → Int32) (o i : Nat) : Nat → Int32 := fun t => if o ≤ t ∧ t < o + i then f (t - o) else g t
theorem put_0 (f g : Nat → Int32) (o : Nat) : put_ f g o 0 = g := by
  funext t
  unfold put_
  rw [if_neg (by omega)]
theorem put_s (f g : Nat → Int32) (o i : Nat) : upd (put_ f g o i) (o + i) (f i) = put_ f g o (i + 1) := by
  funext t
  unfold upd put_
  by_cases e : t = o + i
  · rw [if_pos e, if_pos (by omega)]
    congr 1
    omega
  · rw [if_neg e]
    by_cases h : o ≤ t ∧ t < o + i
    · rw [if_pos h, if_pos (by omega)]
    · rw [if_neg h, if_neg (by omega)]
theorem put_in {f g : Nat → Int32} {o n i : Nat} (h : i < n) : put_ f g o n (o + i) = f i := by
  unfold put_
  rw [if_pos (by omega)]
  congr 1
  omega
theorem put_out {f g : Nat → Int32} {o n t : Nat} (h : t < o ∨ o + n ≤ t) : put_ f g o n t = g t := by
  unfold put_
  rw [if_neg (by omega)]
/-- what keeping an export leaves -/
def kpS (S : HS) (ne : Nat) (s : Int64) : HS := sI (sA (sI (sL S 31 ne s) 32 ne (S.1 34 1)) 33 (put_ (S.1 35) (S.1 33) (328 * ne) 328)) 30 0 (nI (ne + 1))
theorem keep7 {S : HS} {ne : Nat} {s : Int64} (h0 : S.1 30 0 = nI ne) (hn : ne < 10) (hc : ∀ i, ch (S.1 35 i) = true) : f_X2_keep s S = some (kpS S ne s) := by
  have e1 : (sL S 31 ne s).1 30 0 = nI ne := h0
  have e2 : (sL S 31 ne s).1 34 1 = S.1 34 1 := rfl
  unfold f_X2_keep f_X2_keep_b43
  rw [h0, if_neg (nI_pos (by omega)), if_pos (show nI ne < (10 : Int32) from lt_nI (n := 10) hn (by decide)), if_pos (ib_nI hn (by omega)), nI_cl (by omega), e1, if_pos (ib_nI hn (by omega)), nI_cl (by omega), e2]
  refine fx_run 328 (fun i => (sA (sI (sL S 31 ne s) 32 ne (S.1 34 1)) 33 (put_ (S.1 35) (S.1 33) (328 * ne) i), nI i)) ?_ ?_ (FU_gt (by omega)) ?_
  · intro i rec hi
    unfold F_X2_keep_b43
    dsimp only
    generalize hU : sI (sL S 31 ne s) 32 ne (S.1 34 1) = U
    have u35 : (sA U 33 (put_ (S.1 35) (S.1 33) (328 * ne) i)).1 35 i = S.1 35 i := by
      rw [sA_o (by omega), ← hU, sI_o (by omega)]
      rfl
    have u30 : (sA U 33 (put_ (S.1 35) (S.1 33) (328 * ne) i)).1 30 0 = nI ne := by
      rw [sA_o (by omega), ← hU, sI_o (by omega)]
      exact h0
    have i1 : nI ne * (328 : Int32) + nI i = nI (328 * ne + i) := by
      rw [show (328 : Int32) = nI 328 from rfl, pk_mul, nI_add, Nat.mul_comm]
    rw [if_neg (by rw [show (328 : Int32) = nI 328 from rfl, nI_leI (by omega) (by omega)]; omega), sign1 hi (by rw [u35]; exact hc i), bsm, u35, u30, i1, if_pos (ib_nI (show 328 * ne + i < 3280 by omega) (by omega)), nI_cl (by omega), vn_ch (hc i), sA_sI, put_s, nI_1]
  · intro rec
    unfold F_X2_keep_b43
    dsimp only
    rw [if_pos (by decide), sA_o (by omega), sI_o (by omega), e1, nI_1]
    rfl
  · rw [put_0]
    have : (sI (sL S 31 ne s) 32 ne (S.1 34 1)).1 33 = S.1 33 := by rw [sI_o (by omega)]; rfl
    rw [← this, sA_self]
    rfl