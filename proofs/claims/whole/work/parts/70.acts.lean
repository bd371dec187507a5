/-! an act in the class, an act in the model, over the invariant -/
section
variable {S D : HS} {sp ns nr na ne nm : Nat} {lt len fr to sj dr ab st lby se : Nat → Nat} {trn : Nat → Bool} {txt : Nat → Nat → Nat} {kd dd : Nat → Int32} {qq : Nat → Nat → Int32} {ns' nr' w s : Nat} {len' fr' to' lby' : Nat → Nat} {trn' : Nat → Bool} {txt' : Nat → Nat → Nat} {kd' : Nat → Int32} {d : Int32} {q : Nat → Int32} {A B : AB}
theorem MB_env (hf : fok A.2.1 nr) (hk : ∀ k, k < nr → kd' k = kd k) (h : MB S kd A) : MB S kd' A := by
  obtain ⟨h1, h2, h3, h4⟩ := h
  exact ⟨h1, h2, h3, fun j hj h6 => h4 j hj (by rw [← hk j (hf j hj)]; exact h6)⟩
theorem CB_env {b : Nat} (hf : fok A.2.1 nr) (hk : ∀ k, k < nr → kd' k = kd k) (h : CB S b kd A) : CB S b kd' A := by
  obtain ⟨h1, h2, h3, h4⟩ := h
  exact ⟨h1, h2, h3, fun j v hj h6 hv => h4 j v hj (by rw [← hk j (hf j hj)]; exact h6) hv⟩
theorem AI_ext (hX : XE ns nr ns' nr' len len' trn trn' txt txt' kd kd' fr fr' to to') (h : AI kd fr to (lbL len) ns nr A) : AI kd' fr' to' (lbL len') ns' nr A ∧ AI kd' fr' to' (lbL len') ns' nr' A := by
  have h1 := AI_env (XE_EQ hX) h
  have h2 : AI kd' fr' to' (lbL len') ns' nr A := ⟨fun k hk => by have := h1.1 k hk; have := hX.1; omega, h1.2⟩
  exact ⟨h2, AI_mono h2 hX.2.1⟩
theorem I0_cls (h : I0 S sp ns nr na ne nm lt len fr to sj dr ab st lby se trn txt kd dd qq) {U : HS} (f : ∀ x, 36 ≤ x → U.1 x = S.1 x) (c1 : SC U sp lt) (c2 : OC U ns nr na len trn txt kd fr to dd sj qq dr ab st) (c3 : BC U kd (rep kd fr to (lbL len) dd sj qq (cset st ab) na).1 (rep kd fr to (lbL len) dd sj qq (cset st ab) na).2) (c4 : BN U) (c5 : EC U ne nm se (fun e => TX (rep kd fr to (lbL len) dd sj qq (se e) na).1 len trn txt)) : I0 U sp ns nr na ne nm lt len fr to sj dr ab st lby se trn txt kd dd qq := by
  obtain ⟨h0, -, ⟨m1, m2, m3, m4⟩⟩ := h
  exact ⟨h0, ⟨c1, c2, c3, c4, c5⟩, ⟨SM_fr (by rw [f 36 (by omega)]) (f 37 (by omega)) m1, OM_fr (fun x p _ _ => f x (by omega)) (fun k _ => by rw [f 36 (by omega)]) m2, BM_fr (f 51 (by omega)) (fun x p _ => f x (by omega)) (fun k _ => by rw [f 36 (by omega)]) m3, EM_fr (fun x p _ => f x (by omega)) (fun k _ => by rw [f 36 (by omega)]) m4⟩⟩
theorem cact (h : I0 S sp ns nr na ne nm lt len fr to sj dr ab st lby se trn txt kd dd qq) (hX : XE ns nr ns' nr' len len' trn trn' txt txt' kd kd' fr fr' to to') (hRW : RW nr' ns' kd' fr' to') (hD : DW nr' ns' kd' d s q) (hw : w < 4) (f : ∀ x, x < 2 ∨ 16 ≤ x → D.1 x = S.1 x) (f2 : D.2 = S.2) (cO : OC D ns nr na len trn txt kd fr to dd sj qq dr ab st) (cT : na < 60 → TA D na d s q) (cR : RC D nr' kd' fr' to') (cH : HS1 D ns' len' trn' txt') :
    (na = 60 ∧ f_X7_doDraft (nI w) D = some (D, (3, 0)) ∧ I0 D sp ns nr na ne nm lt len fr to sj dr ab st lby se trn txt kd dd qq) ∨
    (na < 60 ∧ stp kd' fr' to' (lbL len') d s q (rep kd fr to (lbL len) dd sj qq (cset st ab) na).1 = none ∧ Ok (f_X7_doDraft (nI w) D) (fun r => r.2 = (3, 0) ∧ I0 r.1 sp ns nr na ne nm lt len fr to sj dr ab st lby se trn txt kd dd qq ∧ ∀ x, 36 ≤ x → r.1.1 x = S.1 x)) ∨
    (na < 60 ∧ ∃ B, stp kd' fr' to' (lbL len') d s q (rep kd fr to (lbL len) dd sj qq (cset st ab) na).1 = some B ∧ Ok (f_X7_doDraft (nI w) D) (fun r => r.2 = (0, 0) ∧ (∀ x, 36 ≤ x → r.1.1 x = S.1 x) ∧ SC r.1 sp lt ∧ (r.1.1 2 0 = nI ns ∧ r.1.1 5 0 = nI nr ∧ HS1 r.1 ns' len' trn' txt' ∧ RC r.1 nr' kd' fr' to' ∧ (∀ a, a < na + 1 → TA r.1 a (exF dd na d a) (exF sj na s a) (exF qq na q a)) ∧ CT r.1 (na + 1) (exF dr na w) (exF ab na (st w)) (stA st w (na + 1))) ∧ BC r.1 kd' B (rep kd fr to (lbL len) dd sj qq (cset st ab) na).2 ∧ BN r.1 ∧ EC r.1 ne nm se (fun e => TX (rep kd fr to (lbL len) dd sj qq (se e) na).1 len trn txt) ∧ r.1.2.1 = S.2.1 ∧ (∃ b, RB r.1 16 18 b (18 + 21 - b) ∧ CB r.1 b kd' B) ∧ (B.1 = (rep kd fr to (lbL len) dd sj qq (cset st ab) na).1.1 → f_X3_changedShapes 16 r.1 = some (nI (fb_ct (fun k => (rep kd fr to (lbL len) dd sj qq (cset st ab) na).1.1.testBit k && dfA (rep kd fr to (lbL len) dd sj qq (cset st ab) na).1 B k) 10))))) := by
  have h0 := h
  obtain ⟨⟨g1, g2⟩, ⟨c1, c2, c3, c4, c5⟩, -⟩ := h
  obtain ⟨gW, gA, gT, -⟩ := g2
  obtain ⟨hAI, -, -, -⟩ := rep_ok (set := cset st ab) gW gA na (Nat.le_refl _)
  obtain ⟨-, hA'⟩ := AI_ext hX hAI
  have hth := AI_th gW hAI
  obtain ⟨⟨b, b', hB, hCB⟩, hV⟩ := c3
  have c5' := c5.2.2.2.2
  have hB' : RB D 16 18 b b' := RB_fr (by rw [f2]) hB
  have hCB0 : CB D b kd (rep kd fr to (lbL len) dd sj qq (cset st ab) na).1 := CB_fr (RB_lo hB) (fun x p _ => f x (by omega)) hCB
  have hCB' : CB D b kd' (rep kd fr to (lbL len) dd sj qq (cset st ab) na).1 := CB_env hAI.2.1 (fun k hk => (hX.2.2.2 k hk).1) hCB0
  have d1 : SC D sp lt := SC_fr (fun x p => f x (by omega)) c1
  have d5 : EC D ne nm se (fun e => TX (rep kd fr to (lbL len) dd sj qq (se e) na).1 len trn txt) := EC_fr (fun x p => f x (by omega)) (by rw [f 35 (by omega)]; exact c5') (by rw [f2]) c5
  rcases do7 cO.2.2.2.2.2 gT cT cR (HS1_lb cH) hRW hA' hB' hCB' hD hw with ⟨e, hx⟩ | ⟨e, hst, r, hr, e2, k1, k2, k3, k4⟩ | ⟨e, B, hst, r, hr, e2, ⟨k1, k2, k3, k4⟩, k5, k6, k7⟩
  · refine Or.inl ⟨e, hx, I0_cls h0 (fun x p => f x (by omega)) d1 cO ⟨⟨b, b', hB', hCB0⟩, by rw [f2]; exact hV⟩ (BN_fr (by rw [f2]) c4) d5⟩
  · have hk4 : CB r.1 b kd (rep kd fr to (lbL len) dd sj qq (cset st ab) na).1 := CB_env hAI.2.1 (fun k hk => ((hX.2.2.2 k hk).1).symm) k4
    refine Or.inr (Or.inl ⟨e, hst, r, hr, e2, I0_cls h0 (fun x p => by rw [k1.1 x (by omega), f x (by omega)]) (SC_fr (fun x p => k1.1 x (by omega)) d1) (OC_fr (fun x p p2 => k1.1 x (by omega)) cO) ⟨⟨b, b', k3, hk4⟩, by rw [k2, f2]; exact hV⟩ (BN_fr (by rw [(k1.2 17 (by omega)).1, f2]) c4) (EC_fr (fun x p => k1.1 x (by omega)) (by rw [k1.1 35 (by omega)]; exact d5.2.2.2.2) (by rw [k2]) d5), fun x p => by rw [k1.1 x (by omega), f x (by omega)]⟩)
  · have fx1 : ∀ x, 2 ≤ x → x < 9 → r.1.1 x = D.1 x := fun x p p2 => k1 x (by omega) (by omega) (by omega) (by omega) (by omega)
    refine Or.inr (Or.inr ⟨e, B, hst, r, hr, e2, fun x p => by rw [k1 x (by omega) (by omega) (by omega) (by omega) (by omega), f x (by omega)], SC_fr (fun x p => k1 x (by omega) (by omega) (by omega) (by omega) (by omega)) d1, ⟨?_, ?_, ?_, ?_, fun a ha => ?_, k2⟩, ⟨⟨b', b, k5, k6⟩, by rw [k4, f2]; exact hV⟩, BN_fr (by rw [k3 17 (by omega), f2]) c4, EC_fr (fun x p => k1 x (by omega) (by omega) (by omega) (by omega) (by omega)) (by rw [k1 35 (by omega) (by omega) (by omega) (by omega) (by omega)]; exact d5.2.2.2.2) (by rw [k4]) d5, by rw [k4, f2], ⟨b', by have := k5.2.2; rw [show 18 + 21 - b' = b by omega]; exact k5, k6⟩, fun hth' => ?_⟩)
    · rw [fx1 2 (by omega) (by omega)]; exact cO.1
    · rw [fx1 5 (by omega) (by omega)]; exact cO.2.1
    · unfold HS1 at cH ⊢
      rw [fx1 2 (by omega) (by omega), fx1 3 (by omega) (by omega), fx1 4 (by omega) (by omega)]; exact cH
    · unfold RC at cR ⊢
      rw [fx1 6 (by omega) (by omega), fx1 7 (by omega) (by omega), fx1 8 (by omega) (by omega)]; exact cR
    · have hTA : TA D a (exF dd na d a) (exF sj na s a) (exF qq na q a) := by
        by_cases ea : a = na
        · rw [ea, exF_at, exF_at, exF_at]; exact cT e
        · rw [exF_ne ea, exF_ne ea, exF_ne ea]; exact cO.2.2.2.2.1 a (by omega)
      unfold TA at hTA ⊢
      rw [k1 10 (by omega) (by omega) (by omega) (by omega) (by omega), k1 11 (by omega) (by omega) (by omega) (by omega) (by omega), k1 12 (by omega) (by omega) (by omega) (by omega) (by omega)]
      exact hTA
    · exact chg7 k5 k7 k6 hth' hth
/-- the model: what was tried becomes the board -/
theorem mgood (h : I0 S sp ns nr na ne nm lt len fr to sj dr ab st lby se trn txt kd dd qq) (hX : XE ns nr ns' nr' len len' trn trn' txt txt' kd kd' fr fr' to to') (hRW : RW nr' ns' kd' fr' to') (hD : DW nr' ns' kd' d s q) (hD2 : d = 0 → lbL len' s = true → q 3 = 2) (hD3 : d = 0 → ∀ a, a < na → dd a = 0 → sj a ≠ s) (hna : na < 60) (hw : w < 4) (hst : stp kd' fr' to' (lbL len') d s q (rep kd fr to (lbL len) dd sj qq (cset st ab) na).1 = some B) (mT : MT D na dr ab st) (m46 : D.1 46 na = nI w) (m51 : ∀ a, a < na → D.1 51 a = bI ((rep kd fr to (lbL len) dd sj qq (cset st ab) na).2.testBit a)) (mB : MB D kd (rep kd fr to (lbL len) dd sj qq (cset st ab) na).1) (mC : MC D nr nr' ns' kd' fr' to' (lbL len')) (mTM : TM D na d s q) (m1 : SM D sp lt) (m4 : EM D ne nm (fun e => (rep kd fr to (lbL len) dd sj qq (se e) na).1)) :
    ∃ tr fl tx ty, f_X8_tries (nI na) D = some (mF D tr (nI B.1) (nI B.2.1) fl tx ty, 1) ∧ ∀ U, U = sI (mF D tr (nI B.1) (nI B.2.1) fl tx ty) 36 36 0 → ∃ F, f_X8_makes U = some (F, nI (fb_ct (dif (D.1 53) tr) ns')) ∧ (d = 1 ∨ d = 2 → B.1 = (rep kd fr to (lbL len) dd sj qq (cset st ab) na).1.1 → fb_ct (dif (D.1 53) tr) ns' = fb_ct (fun k => (rep kd fr to (lbL len) dd sj qq (cset st ab) na).1.1.testBit k && dfA (rep kd fr to (lbL len) dd sj qq (cset st ab) na).1 B k) 10) ∧ F.1 36 36 = 0 ∧ F.2 = D.2 ∧ F.1 36 22 = nI B.2.1 ∧ (∀ x, x < 36 ∨ 36 < x → x ≠ 47 → x ≠ 51 → x ≠ 52 → x ≠ 53 → x ≠ 54 → x ≠ 55 → x ≠ 56 → F.1 x = D.1 x) ∧ (∀ k, k = 2 ∨ k = 7 → F.1 36 k = D.1 36 k) ∧ SM F sp lt ∧ EM F ne nm (fun e => (rep kd fr to (lbL len) dd sj qq (se e) na).1) ∧ BM F kd' (na + 1) B (rep kd fr to (lbL len) dd sj qq (cset st ab) na).2 ∧ MT F (na + 1) (exF dr na w) (exF ab na (st w)) (stA st w (na + 1)) ∧ MC F nr nr' ns' kd' fr' to' (lbL len') := by
  obtain ⟨⟨g1, g2⟩, -, -⟩ := h
  obtain ⟨gW, gA, gT, -⟩ := g2
  obtain ⟨hAI, hAs, hVlt, -⟩ := rep_ok (set := cset st ab) gW gA na (Nat.le_refl _)
  obtain ⟨hA1, hA2⟩ := AI_ext hX hAI
  have hD2' : DW2 (lbL len') (rep kd fr to (lbL len) dd sj qq (cset st ab) na).1.1 d s q := by
    intro d0
    refine ⟨?_, hD2 d0⟩
    cases e : (rep kd fr to (lbL len) dd sj qq (cset st ab) na).1.1.testBit s with
    | false => rfl
    | true =>
      obtain ⟨a, a1, a2, a3⟩ := hAs s e
      exact absurd a3 (hD3 d0 a a1 a2)
  have hBI := AI_step hRW hA2 hD hD2' (stp_does hst)
  obtain ⟨-, h2⟩ := try8 (MB_env hAI.2.1 (fun k hk => (hX.2.2.2 k hk).1) mB) mC hRW hA1 hna mTM hD
  obtain ⟨r, hr, e2, tr, fl, tx, ty, e1, k3, k4, k5⟩ := h2 B hst
  refine ⟨tr, fl, tx, ty, ?_, fun U hU => ?_⟩
  · rw [hr, ← e1, ← e2]
  · obtain ⟨n1, n2, n3, n4, n5, n6, n7⟩ := mk_done (kd := kd') (dd := dd) (sj := sj) (qq := qq) gT hna hw mT m46 m51 hVlt mC.2.1 hRW.2.1 hBI.1 k3 k4 hU
    refine ⟨_, n1, fun hd hb => ?_, n6, n7, n3.1.2.1, n4, fun k hk => n5 k (by omega) (by omega) (by omega) (by omega) (by omega) (by omega) (by omega), SM_fr (n5 0 (by omega) (by omega) (by omega) (by omega) (by omega) (by omega) (by omega)) (n4 37 (by omega) (by omega) (by omega) (by omega) (by omega) (by omega) (by omega) (by omega)) m1, EM_fr (fun x p p2 => n4 x (by omega) (by omega) (by omega) (by omega) (by omega) (by omega) (by omega) (by omega)) (fun k hk => n5 k (by omega) (by omega) (by omega) (by omega) (by omega) (by omega) (by omega)) m4, n3, n2, MC_fr2 (n4 38 (by omega) (by omega) (by omega) (by omega) (by omega) (by omega) (by omega) (by omega)) (fun x p p2 => n4 x (by omega) (by omega) (by omega) (by omega) (by omega) (by omega) (by omega) (by omega)) (n5 2 (by omega) (by omega) (by omega) (by omega) (by omega) (by omega) (by omega)) (n5 7 (by omega) (by omega) (by omega) (by omega) (by omega) (by omega) (by omega)) mC⟩
    exact cnt_eq hA2.1 hRW.2.1 mB.2.2.1 hb k3 k5 hd
/-- the model: nothing is done -/
theorem mbad (h : I0 S sp ns nr na ne nm lt len fr to sj dr ab st lby se trn txt kd dd qq) (hX : XE ns nr ns' nr' len len' trn trn' txt txt' kd kd' fr fr' to to') (hRW : RW nr' ns' kd' fr' to') (hD : DW nr' ns' kd' d s q) (hna : na < 60) (hst : stp kd' fr' to' (lbL len') d s q (rep kd fr to (lbL len) dd sj qq (cset st ab) na).1 = none) (mC : MC D nr nr' ns' kd' fr' to' (lbL len')) (mTM : TM D na d s q) (m1 : SM D sp lt) (m2 : OM D ns nr na len trn txt kd fr to dd sj qq dr ab st lby) (m3 : BM D kd na (rep kd fr to (lbL len) dd sj qq (cset st ab) na).1 (rep kd fr to (lbL len) dd sj qq (cset st ab) na).2) (m4 : EM D ne nm (fun e => (rep kd fr to (lbL len) dd sj qq (se e) na).1)) :
    ∃ U, f_X8_tries (nI na) D = some (U, 0) ∧ U.2 = D.2 ∧ (∀ x, x < 36 → U.1 x = D.1 x) ∧ ∀ v, SM (sI U 36 36 v) sp lt ∧ OM (sI U 36 36 v) ns nr na len trn txt kd fr to dd sj qq dr ab st lby ∧ BM (sI U 36 36 v) kd na (rep kd fr to (lbL len) dd sj qq (cset st ab) na).1 (rep kd fr to (lbL len) dd sj qq (cset st ab) na).2 ∧ EM (sI U 36 36 v) ne nm (fun e => (rep kd fr to (lbL len) dd sj qq (se e) na).1) := by
  obtain ⟨⟨g1, g2⟩, -, -⟩ := h
  obtain ⟨gW, gA, gT, -⟩ := g2
  obtain ⟨hAI, -, -, -⟩ := rep_ok (set := cset st ab) gW gA na (Nat.le_refl _)
  obtain ⟨hA1, hA2⟩ := AI_ext hX hAI
  obtain ⟨h1, -⟩ := try8 (MB_env hAI.2.1 (fun k hk => (hX.2.2.2 k hk).1) m3.1) mC hRW hA1 hna mTM hD
  obtain ⟨r, hr, e2, tr, tt, tf, fl, e1⟩ := h1 hst
  refine ⟨r.1, by rw [hr, ← e2], by rw [e1]; rfl, fun x hx => ?_, fun v => ?_⟩
  · rw [e1]
    unfold mF
    dsimp only
    rw [if_neg (by omega), if_neg (by omega), if_neg (by omega), if_neg (by omega)]
  · have uo : ∀ x, x ≠ 36 → x ≠ 56 → (sI r.1 36 36 v).1 x = D.1 x := fun x a b => by
      rw [sI_o a, e1]
      unfold mF
      dsimp only
      rw [if_neg a, if_neg b]
      by_cases h54 : x = 54
      · rw [if_pos h54, h54]
      · rw [if_neg h54]
        by_cases h55 : x = 55
        · rw [if_pos h55, h55]
        · rw [if_neg h55]
    have uk : ∀ k, k ≠ 36 → k ≠ 25 → k ≠ 27 → k ≠ 28 → (sI r.1 36 36 v).1 36 k = D.1 36 k := fun k a b c d => by
      rw [sI_k a, e1]
      unfold mF
      dsimp only
      rw [if_pos rfl, if_neg b, if_neg c, if_neg d]
    exact ⟨SM_fr (uk 0 (by omega) (by omega) (by omega) (by omega)) (uo 37 (by omega) (by omega)) m1, OM_fr (fun x p p2 _ => uo x (by omega) (by omega)) (fun k hk => uk k (by omega) (by omega) (by omega) (by omega)) m2, BM_fr (uo 51 (by omega) (by omega)) (fun x p p2 => uo x (by omega) (by omega)) (fun k hk => uk k (by omega) (by omega) (by omega) (by omega)) m3, EM_fr (fun x p p2 => uo x (by omega) (by omega)) (fun k hk => uk k (by omega) (by omega) (by omega) (by omega)) m4⟩
end
