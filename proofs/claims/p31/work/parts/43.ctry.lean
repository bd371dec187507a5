/-! the class tries an act -/
def CB (S : HS) (b : Nat) (kd : Nat → Int32) (A : AB) : Prop := S.1 b 5 = nI A.1 ∧ S.1 b 6 = nI A.2.1 ∧ rpN A.1 A.2.2.1 (S.1 (b + 1)) ∧ rpT kd A.2.1 A.2.2.2 (S.1 (b + 2))
def cpB (S : HS) (b b' : Nat) : HS := wB S b' (S.1 b 5) (S.1 b 6) (va_cpy (S.1 (b + 1)) (S.1 (b' + 1)) 0 0 40) (va_cpy (S.1 (b + 2)) (S.1 (b' + 2)) 0 0 24)
theorem copy7 {S : HS} {b b' : Nat} (hb : oc b = some 0) (hb' : oc b' = some 0) (hne : b ≠ b') : f_X0_copyFrom b' b S = some (cpB S b b') := by
  have h1 : b ≠ b' + 1 ∧ b ≠ b' + 2 ∧ b + 1 ≠ b' ∧ b + 1 ≠ b' + 2 ∧ b + 2 ≠ b' ∧ b + 2 ≠ b' + 1 := by
    rcases ob_cases hb with rfl | rfl | rfl | rfl <;> rcases ob_cases hb' with rfl | rfl | rfl | rfl <;> first | exact absurd rfl hne | decide
  obtain ⟨n1, n2, n3, n4, n5, n6⟩ := h1
  have n7 : b + 1 ≠ b' + 1 := by omega
  have n8 : b + 2 ≠ b' + 2 := by omega
  unfold f_X0_copyFrom
  rw [if_neg (by decide), if_neg (by decide)]
  have e0 : (0 : Int32).toNatClampNeg = 0 := by decide
  have e40 : (40 : Int32).toNatClampNeg = 40 := by decide
  have e24 : (24 : Int32).toNatClampNeg = 24 := by decide
  rw [e0, e40, e24]
  have hS : S = wB S b' (S.1 b' 5) (S.1 b' 6) (S.1 (b' + 1)) (S.1 (b' + 2)) := wB_self.symm
  generalize ht : S.1 b' 5 = t at hS
  generalize hf : S.1 b' 6 = f at hS
  generalize hn : S.1 (b' + 1) = n at hS
  generalize hi : S.1 (b' + 2) = i at hS
  have r1 : (sA S (b' + 1) (va_cpy (S.1 (b + 1)) n 0 0 40)) = wB S b' t f (va_cpy (S.1 (b + 1)) n 0 0 40) i := by
    conv => lhs; arg 1; rw [hS]
    exact wB_aNum
  rw [r1, wB_tie, wB_out n5 n6 n8, wB_aTie, wB_out hne n1 n2, wB_sTh, wB_out hne n1 n2, wB_sFo]
  unfold cpB
  rw [hn, hi]
def swp (S : HS) (h b b' : Nat) : HS := sR (sR S h 1 (some b')) h 2 (some b)
theorem cpy_at {f g : Nat → Int32} {n k : Nat} (h : k < n) : va_cpy f g 0 0 n k = f k := by
  unfold va_cpy
  rw [if_pos (by omega)]
  congr 1
  omega
/-- what the tree says of an act -/
def TA (S : HS) (a : Nat) (d : Int32) (s : Nat) (q : Nat → Int32) : Prop := S.1 10 a = d ∧ S.1 11 a = nI s ∧ ∀ w, w < 4 → S.1 12 (4 * a + w) = q w
/-- what is sure of an act that was drafted -/
def DW (nr ns : Nat) (kd : Nat → Int32) (d : Int32) (s : Nat) (q : Nat → Int32) : Prop :=
  d = 0 ∧ s < ns ∧ (∀ w, w < 4 → rngB (q w) w = true) ∨ d = 1 ∧ s < ns ∧ rngB (q 0) 0 = true ∧ rngB (q 1) 1 = true ∨ d = 2 ∧ s < ns ∧ rngB (q 2) 2 = true ∧ rngB (q 3) 3 = true ∨ d = 3 ∧ s < nr ∧ ((kd s = 0 ∨ kd s = 1 ∨ kd s = 2 ∨ kd s = 3 ∨ kd s = 4 ∨ kd s = 5) ∨ kd s = 6) ∨ d = 4 ∧ s < nr
theorem wB_hi {S : HS} {b : Nat} {th fo : Int32} {num tie : Nat → Int32} (hb : oc b = some 0) {h : Nat} (hh : h < 18 ∨ 29 < h) : (wB S b th fo num tie).1 h = S.1 h := by
  rcases ob_cases hb with rfl | rfl | rfl | rfl <;> exact wB_out (by omega) (by omega) (by omega)
theorem rf_some {α : Type} {x ci : Nat} {f : Nat → Option α} (h : oc x = some ci) : rf (some x) ci f = f x := by
  unfold rf
  dsimp only
  rw [if_pos h]
theorem c_try {S : HS} {h b b' a nr ns : Nat} {kd : Nat → Int32} {fr to : Nat → Nat} {lb : Nat → Bool} {A : AB} {d : Int32} {s : Nat} {q : Nat → Int32} (hr1 : S.2.2 h 1 = some b) (hr2 : S.2.2 h 2 = some b') (hb : oc b = some 0) (hne : b ≠ b') (H : HC S b' nr kd fr to lb A.1 A.2.1) (hW : RW nr ns kd fr to) (hA : AI kd fr to lb ns nr A) (hC : CB S b kd A) (ha : a < 60) (hT : TA S a d s q) (hD : DW nr ns kd d s q) :
    Ok (f_X3_tryAct h (nI a) S) (fun r => ∃ th fo num tie ok, r = (if ok = true then swp (wB S b' th fo num tie) h b b' else wB S b' th fo num tie, bI ok) ∧ (ok = true → ∃ A', Does kd fr to lb d s q A A' ∧ CB (wB S b' th fo num tie) b' kd A') ∧ (ok = false → ¬ ∃ A', Does kd fr to lb d s q A A')) := by
  have H' := H
  obtain ⟨hb', hR, hf, ht, hL⟩ := H
  obtain ⟨c1, c2, c3, c4⟩ := hC
  obtain ⟨t1, t2, t3⟩ := hT
  have hq : ∀ w, w < 4 → f_X6_wantedBy (nI a) (nI w) S = some (q w) := by
    intro w hw
    unfold f_X6_wantedBy
    rw [nI_4, read7 _ 12 (by show 4 * a + w < 240; omega) (by decide), bsm, t3 w hw]
  unfold f_X3_tryAct
  have hsub : f_X6_subjectOf (nI a) S = some (nI s) := by
    unfold f_X6_subjectOf
    rw [read7 _ 11 (by show a < 60; exact ha) (by decide), bsm, t2]
  have q0 := hq 0 (by omega)
  have q1 := hq 1 (by omega)
  have q2 := hq 2 (by omega)
  have q3 := hq 3 (by omega)
  rw [show nI 0 = (0 : Int32) from rfl] at q0
  rw [show nI 1 = (1 : Int32) from rfl] at q1
  rw [show nI 2 = (2 : Int32) from rfl] at q2
  rw [show nI 3 = (3 : Int32) from rfl] at q3
  rw [hsub, bsm, q0, bsm, q1, bsm, q2, bsm, q3, bsm, hr2, rf_some hb', hr1, rf_some hb, copy7 hb hb' hne, bsm]
  generalize hnum : va_cpy (S.1 (b + 1)) (S.1 (b' + 1)) 0 0 40 = num
  generalize htie : va_cpy (S.1 (b + 2)) (S.1 (b' + 2)) 0 0 24 = tie
  have hcp : cpB S b b' = wB S b' (nI A.1) (nI A.2.1) num tie := by
    unfold cpB
    rw [c1, c2, hnum, htie]
  have hrf : ∀ S' : HS, S'.2 = S.2 → S'.2.2 h 2 = some b' := fun S' e => by rw [e]; exact hr2
  have hrf1 : ∀ S' : HS, S'.2 = S.2 → S'.2.2 h 1 = some b := fun S' e => by rw [e]; exact hr1
  have hdeed : f_X6_deedOf (nI a) (cpB S b b') = some d := by
    unfold f_X6_deedOf
    rw [read7 _ 10 (by show a < 60; exact ha) (by decide), bsm, hcp, wB_hi hb' (by omega), t1]
  rw [hdeed, bsm, hrf (cpB S b b') rfl, hcp]
  simp only [rf_some hb']
  have hN : rpN A.1 A.2.2.1 num := by
    intro k w hk hw
    have := lt10_of ht hk
    rw [← hnum, cpy_at (by omega)]
    exact c3 k w hk hw
  have hTT : rpT kd A.2.1 A.2.2.2 tie := by
    intro j w hj h6 hw
    have := hf j hj
    have := hW.1
    rw [← htie, cpy_at (by omega)]
    exact c4 j w hj h6 hw
  have hend : ∀ r : HS × Int32, OP S b' kd fr to lb d s q A r → Ok (f_X3_tryAct_b187 h (nI a) r.1 r.2) (fun r => ∃ th fo num tie ok, r = (if ok = true then swp (wB S b' th fo num tie) h b b' else wB S b' th fo num tie, bI ok) ∧ (ok = true → ∃ A', Does kd fr to lb d s q A A' ∧ CB (wB S b' th fo num tie) b' kd A') ∧ (ok = false → ¬ ∃ A', Does kd fr to lb d s q A A')) := by
    rintro r ⟨th', fo', num', tie', ok, rfl, k1, k2⟩
    unfold f_X3_tryAct_b187 f_X3_tryAct_b212
    dsimp only
    rw [ifb, nz_bI, hrf _ wB_2, hrf1 _ wB_2]
    simp only [if_true, rf_some hb', rf_some hb]
    cases ok with
    | true =>
      obtain ⟨A', a1, a2, a3, a4, a5⟩ := k1 rfl
      rw [if_pos rfl]
      refine ⟨_, rfl, nI th', nI fo', num', tie', true, rfl, fun _ => ⟨A', a1, ?_, ?_, ?_, ?_⟩, fun q => absurd q (by decide)⟩
      · rw [wB_th, a2]
      · rw [wB_fo, a3]
      · rw [wB_num, a2]; exact a4
      · rw [wB_tie, a3]; exact a5
    | false =>
      rw [if_neg (by decide)]
      exact ⟨_, rfl, nI th', nI fo', num', tie', false, rfl, fun q => absurd q (by decide), fun _ => k2 rfl⟩
  have hns := hW.2.1
  have hnr := hW.1
  rcases hD with ⟨rfl, hs, -⟩ | ⟨rfl, hs, -⟩ | ⟨rfl, hs, g2, g3⟩ | ⟨rfl, hs, hk⟩ | ⟨rfl, hs⟩
  · rw [if_pos rfl]
    exact Ok.bind (co_add H' hN hTT (by omega) q) hend
  · rw [if_neg (by decide), if_pos rfl]
    exact Ok.bind (co_move H' hW hA hN hTT (by omega) q) hend
  · rw [if_neg (by decide), if_neg (by decide), if_pos rfl]
    exact Ok.bind (co_size H' hW hA hN hTT (by omega) q g2 g3) hend
  · rw [if_neg (by decide), if_neg (by decide), if_neg (by decide), if_pos rfl]
    exact Ok.bind (co_lay H' hW hA hN hTT hs q hk) hend
  · rw [if_neg (by decide), if_neg (by decide), if_neg (by decide), if_neg (by decide), if_pos rfl]
    exact Ok.bind (co_drop H' hN hTT (by omega) q) hend
