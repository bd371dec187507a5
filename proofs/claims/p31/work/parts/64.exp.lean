/-! exports -/
theorem ch_ex {x : Int32} (h : ch x = true) : ∃ c, c < 65536 ∧ x = nI c := by
  unfold ch at h
  rw [Bool.and_eq_true, decide_eq_true_eq, decide_eq_true_eq] at h
  obtain ⟨h1, h2⟩ := h
  refine nI_ofp (n := 65536) (by decide) (Int32.not_lt.mpr h1) ?_
  rw [Int32.le_iff_toInt_le, show (65535 : Int32).toInt = 65535 from by decide] at h2
  rw [Int32.lt_iff_toInt_lt, toInt_nI (by omega)]
  omega
theorem i2c_ch {x : Int32} (h : ch x = true) : i2c x = x := by
  obtain ⟨c, hc, rfl⟩ := ch_ex h
  exact i2cN hc
theorem ch_m1 {x : Int32} (h : ch x = true) : x ≠ -1 := by
  rintro rfl
  exact absurd h (by decide)
theorem vn_ch {x : Int32} (h : ch x = true) : vp_nar .char x = x := by
  obtain ⟨c, hc, rfl⟩ := ch_ex h
  exact vnc hc
theorem TX_len {kd : Nat → Int32} {fr to : Nat → Nat} {ns nr : Nat} {A : AB} {len : Nat → Nat} {trn : Nat → Bool} {txt : Nat → Nat → Nat} (hA : AI kd fr to (lbL len) ns nr A) (hns : ns ≤ 10) (hl : ∀ k, len k ≤ 5) : (TX A len trn txt).length ≤ 328 := by
  have hal := alS_len (trn := trn) (txt := txt) hA hns (fun k _ => hl k)
  have hru12 := ruS_len A.2.1 12 (by omega)
  rw [if_pos (by omega)] at hru12
  have hal10 := hal 10 (by omega)
  unfold TX
  rw [List.length_append]
  omega
section
variable {S : HS} {sp ns nr na ne nm : Nat} {lt len fr to sj dr ab st lby se : Nat → Nat} {trn : Nat → Bool} {txt : Nat → Nat → Nat} {kd dd : Nat → Int32} {qq : Nat → Nat → Int32}
end
theorem sign2 {S : HS} {e i : Nat} (he : e < 10) (hi : i < 328) (hc : ch (S.1 33 (328 * e + i)) = true) : f_X2_signOf (nI e) (nI i) S = some (S.1 33 (328 * e + i)) := by
  have i1 : nI e * (328 : Int32) + nI i = nI (328 * e + i) := by
    rw [show (328 : Int32) = nI 328 from rfl, pk_mul, nI_add, Nat.mul_comm]
  unfold f_X2_signOf f_X2_signOf_b31
  rw [i1, if_neg (nI_pos (by omega)), if_neg (by rw [show (3280 : Int32) = nI 3280 from rfl, nI_leI (by omega) (by omega)]; omega), if_pos (ib_nI (show 328 * e + i < 3280 by omega) (by omega)), nI_cl (by omega), if_pos hc]