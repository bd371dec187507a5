/-! boxes and labels are added -/
theorem sI_same {S : HS} {a k : Nat} {v : Int32} (h : S.1 a k = v) : sI S a k v = S := by
  unfold sI
  refine Prod.ext ?_ rfl
  funext x
  dsimp only
  by_cases e : x = a
  · subst e
    rw [if_pos rfl, upd_same h]
  · rw [if_neg e]
section
variable {S T T2 D R F : HS} {sp ns nr na ne nm V : Nat} {lt len fr to sj dr ab st lby se : Nat → Nat} {trn : Nat → Bool} {txt : Nat → Nat → Nat} {kd dd : Nat → Int32} {qq : Nat → Nat → Int32} {w c : Nat} {t : Int32} {q : Nat → Int32} {A B : AB} {tb : Bool}
theorem HS1_res (h0 : ∀ k, len k ≤ 5) {tx : Nat → Nat} (h : HS1 S (ns + 1) (exF len ns c) (exF trn ns tb) (exF txt ns tx)) : HS1 S ns len trn txt := by
  obtain ⟨h1, ts, h2, h3, h4⟩ := h
  refine ⟨fun k => ⟨h0 k, fun hk => ?_⟩, ts, h2, h3, fun k hk => ?_⟩
  · rw [(h1 k).2 (by omega), exF_ne (by omega)]
  · have := h4 k (by omega)
    rw [exF_ne (by omega), exF_ne (by omega), exF_ne (by omega)] at this
    exact this
/-- the class's draft of a shape -/
theorem draft5 (h2 : S.1 2 0 = nI ns) (hns : ns < 10) (h : HS1 S ns len trn txt) (hs : SC S sp lt) (hsp : sp ≤ 5) (h26 : ∀ i, i < sp → lt i ≤ 26) (hc : c ≤ sp) (ht : tb = decide (t ≠ 0)) : Ok (f_X5_draft 1 (nI c) t S) (fun S' => (∀ x, x ≠ 2 → x ≠ 3 → x ≠ 4 → S'.1 x = S.1 x) ∧ S'.1 2 0 = nI ns ∧ S'.2 = S.2 ∧ HS1 S' (ns + 1) (exF len ns c) (exF trn ns tb) (exF txt ns lt) ∧ HS1 S' ns len trn txt) := by
  obtain ⟨k1, ts, k2, k3, k4⟩ := h
  have p3 : f_X7_put 3 (nI ns) (nI c) S = some (sI S 3 ns (nI c)) := put7 S 3 _ (show ns < 10 from hns) (by decide)
  unfold f_X5_draft f_X5_draft_b15
  rw [h2, p3, bsm]
  have fin : ∀ U : HS, U = sA (sI S 3 ns (nI c)) 4 (put_ (S.1 1) (S.1 4) (5 * ns) c) → Ok (f_X5_draft_b55 1 (nI c) t U) (fun S' => (∀ x, x ≠ 2 → x ≠ 3 → x ≠ 4 → S'.1 x = S.1 x) ∧ S'.1 2 0 = nI ns ∧ S'.2 = S.2 ∧ HS1 S' (ns + 1) (exF len ns c) (exF trn ns tb) (exF txt ns lt) ∧ HS1 S' ns len trn txt) := by
    intro U hU
    have u21 : U.1 2 1 = nI ts := by rw [hU, sA_o (by omega), sI_o (by omega)]; exact k3
    have u20 : U.1 2 0 = nI ns := by rw [hU, sA_o (by omega), sI_o (by omega)]; exact h2
    have hgo : ∀ ts', ts' < 2 ^ 10 → (∀ k, k < ns → ts'.testBit k = ts.testBit k) → ts'.testBit ns = tb → (∀ x, x ≠ 2 → x ≠ 3 → x ≠ 4 → (sI U 2 1 (nI ts')).1 x = S.1 x) ∧ (sI U 2 1 (nI ts')).1 2 0 = nI ns ∧ (sI U 2 1 (nI ts')).2 = S.2 ∧ HS1 (sI U 2 1 (nI ts')) (ns + 1) (exF len ns c) (exF trn ns tb) (exF txt ns lt) ∧ HS1 (sI U 2 1 (nI ts')) ns len trn txt := by
      intro ts' t1 t2 t3
      have hH : HS1 (sI U 2 1 (nI ts')) (ns + 1) (exF len ns c) (exF trn ns tb) (exF txt ns lt) := by
        refine ⟨fun k => ⟨?_, fun hk => ?_⟩, ts', t1, sI_at, fun k hk => ⟨?_, fun i hi => ?_⟩⟩
        · by_cases e : k = ns
          · rw [e, exF_at]; omega
          · rw [exF_ne e]; exact (k1 k).1
        · rw [sI_o (by omega), hU, sA_o (by omega)]
          by_cases e : k = ns
          · rw [e, sI_at, exF_at]
          · rw [sI_k e, exF_ne e]; exact (k1 k).2 (by omega)
        · by_cases e : k = ns
          · rw [e, exF_at]; exact t3
          · rw [exF_ne e, t2 k (by omega)]; exact (k4 k (by omega)).1
        · rw [sI_o (by omega), hU, sA_at]
          by_cases e : k = ns
          · subst e
            rw [exF_at] at hi ⊢
            rw [put_in hi, hs.2 i (by omega)]
            exact ⟨rfl, h26 i (by omega)⟩
          · rw [exF_ne e] at hi ⊢
            have := (k1 k).1
            rw [put_out (by omega)]
            exact (k4 k (by omega)).2 i hi
      refine ⟨fun x p q r => ?_, ?_, ?_, hH, HS1_res (fun k => (k1 k).1) hH⟩
      · rw [sI_o p, hU, sA_o r, sI_o q]
      · rw [sI_k (by omega)]; exact u20
      · rw [hU]; rfl
    unfold f_X5_draft_b55 f_X5_draft_b87
    rw [u21, u20, clr7 (by omega), shl1 (by omega), fa_or]
    by_cases e : t = 0
    · rw [if_pos e]
      refine ⟨_, rfl, hgo _ (clr_lt k2) (fun k hk => ?_) ?_⟩
      · rw [clr_bit (by omega) (by omega)]
        have : ¬ k = ns := by omega
        simp [this]
      · rw [clr_bit (by omega) (by omega), ht]
        simp [e]
    · rw [if_neg e]
      refine ⟨_, rfl, hgo _ (Nat.or_lt_two_pow k2 (pow_lt10 hns)) (fun k hk => ?_) ?_⟩
      · rw [fb_bit_set]
        have : ¬ k = ns := by omega
        simp [this]
      · rw [fb_bit_set, ht]
        simp [e]
  refine ok_fx c (fun i v => v = (sA (sI S 3 ns (nI c)) 4 (put_ (S.1 1) (S.1 4) (5 * ns) i), nI i)) ?_ ?_ (FU_gt (by omega)) ?_
  · rintro i v rec hi rfl hrec
    unfold F_X5_draft_b15
    dsimp only
    have e20 : (sA (sI S 3 ns (nI c)) 4 (put_ (S.1 1) (S.1 4) (5 * ns) i)).1 2 0 = nI ns := by rw [sA_o (by omega), sI_o (by omega)]; exact h2
    have e1 : (sA (sI S 3 ns (nI c)) 4 (put_ (S.1 1) (S.1 4) (5 * ns) i)).1 1 i = S.1 1 i := by rw [sA_o (by omega), sI_o (by omega)]
    have i1 : nI ns * (5 : Int32) + nI i = nI (5 * ns + i) := by
      rw [show (5 : Int32) = nI 5 from rfl, pk_mul, nI_add, Nat.mul_comm]
    rw [if_neg (nlt_le hi (by omega)), if_neg (by rw [show (5 : Int32) = nI 5 from rfl, nI_leI (by omega) (by omega)]; omega), read7 _ 1 (by show i < 5; omega) (by decide), bsm, e20, e1, i1, put7 _ 4 _ (show 5 * ns + i < 50 by omega) (by decide), bsm, sA_sI, put_s, nI_1]
    exact hrec _ rfl
  · rintro v rec rfl
    unfold F_X5_draft_b15
    dsimp only
    rw [if_pos (nle_nI _)]
    exact fin _ rfl
  · rw [put_0]
    have : (sI S 3 ns (nI c)).1 4 = S.1 4 := sI_o (by omega)
    rw [← this, sA_self]
    rfl
def adS (T2 : HS) (na ns w : Nat) (q : Nat → Int32) : HS := sI (wrS T2 na (nI w) 0 (nI ns) (q 0) (q 1) (q 2) (q 3)) 36 2 (nI (ns + 1))
end
