/-! calls that change: spelled letters, exports, ways back and on -/
section
variable {S U : HS} {sp ns nr na ne nm : Nat} {lt len fr to sj dr ab st lby se : Nat → Nat} {trn : Nat → Bool} {txt : Nat → Nat → Nat} {kd dd : Nat → Int32} {qq : Nat → Nat → Int32}
theorem CI_sp (h : CI S sp ns nr na ne nm lt len fr to sj dr ab st lby se trn txt kd dd qq) {sp' : Nat} {lt' : Nat → Nat} (h5 : sp' ≤ 5) (h26 : ∀ i, i < sp' → lt' i ≤ 26) (hC : SC U sp' lt') (f : ∀ x, 2 ≤ x → U.1 x = S.1 x) (f2 : U.2 = S.2) : CI U sp' ns nr na ne nm lt' len fr to sj dr ab st lby se trn txt kd dd qq := by
  obtain ⟨⟨g1, g2⟩, ⟨c1, c2, c3, c4, c5⟩⟩ := h
  refine ⟨⟨⟨h5, h26, g1.2.2⟩, g2⟩, ⟨hC, OC_fr (fun x p q => f x (by omega)) c2, BC_fr (fun x p q => f x (by omega)) (by rw [f2]) (by rw [f2]) c3, BN_fr (by rw [f2]) c4, EC_fr (fun x p => f x (by omega)) ?_ (by rw [f2]) c5⟩⟩
  rw [f 35 (by omega)]
  exact c5.2.2.2.2
theorem k_clear (h : CI S sp ns nr na ne nm lt len fr to sj dr ab st lby se trn txt kd dd qq) : f_X7_clearSpelled S = some (sI S 0 1 0, nI sp) ∧ CI (sI S 0 1 0) 0 ns nr na ne nm lt len fr to sj dr ab st lby se trn txt kd dd qq := by
  have hsp : S.1 0 1 = nI sp := h.2.1.1
  refine ⟨?_, CI_sp h (by omega) (fun i hi => absurd hi (by omega)) ⟨sI_at, fun i hi => absurd hi (by omega)⟩ (fun x hx => sI_o (by omega)) rfl⟩
  show some (sI S 0 1 0, S.1 0 1) = _
  rw [hsp]
theorem spc_le (lt : Nat → Nat) : ∀ n, n ≤ spc lt n ∧ spc lt n ≤ 2 * n
  | 0 => ⟨Nat.le_refl _, Nat.le_refl _⟩
  | n + 1 => by
    have := spc_le lt n
    show n + 1 ≤ spc lt n + (if lt n = 26 then 2 else 1) ∧ spc lt n + (if lt n = 26 then 2 else 1) ≤ 2 * (n + 1)
    by_cases e : lt n = 26
    · rw [if_pos e]; omega
    · rw [if_neg e]; omega
theorem k_spell_n (h : CI S sp ns nr na ne nm lt len fr to sj dr ab st lby se trn txt kd dd qq) (h5 : sp = 5) {m : Nat} (hm : m < 27) : f_X7_spell (nI m) S = some (S, (3, 0)) := by
  have c1 := h.2.1.1
  subst h5
  unfold f_X7_spell
  rw [if_neg (nI_pos (by omega)), if_pos (show nI m < (27 : Int32) from lt_nI (n := 27) hm (by decide)), c1, if_neg (by decide)]
theorem k_spell (h : CI S sp ns nr na ne nm lt len fr to sj dr ab st lby se trn txt kd dd qq) (h5 : sp < 5) {m : Nat} (hm : m < 27) : ∃ lt' n, sp + 1 ≤ n ∧ n ≤ 2 * (sp + 1) ∧ f_X7_spell (nI m) S = some (sI (sI S 1 sp (nI m)) 0 1 (nI (sp + 1)), (0, nI n)) ∧ CI (sI (sI S 1 sp (nI m)) 0 1 (nI (sp + 1))) (sp + 1) ns nr na ne nm lt' len fr to sj dr ab st lby se trn txt kd dd qq := by
  have hh := h
  have h0 := h
  obtain ⟨⟨g1, g2⟩, ⟨c1, c2, c3, c4, c5⟩⟩ := h
  obtain ⟨gW, gA, gT, gK, gL, gB⟩ := g2
  have hna := gT.1
  have hns := gW.2.1
  have hnr := gW.1
  obtain ⟨s1, s2, s3, s4, s5⟩ := g1
  generalize hlt : (fun i => if i = sp then m else lt i) = lt'
  have hlt' : ∀ i, lt' i = if i = sp then m else lt i := fun i => by rw [← hlt]
  have c1' : SC (sI (sI S 1 sp (nI m)) 0 1 (nI (sp + 1))) (sp + 1) lt' := by
    refine ⟨sI_at, fun i hi => ?_⟩
    rw [sI_o (by omega), hlt']
    by_cases e : i = sp
    · rw [if_pos e, e, sI_at]
    · rw [if_neg e, sI_k e]
      exact c1.2 i (by omega)
  have h26 : ∀ i, i < sp + 1 → lt' i ≤ 26 := fun i hi => by
    rw [hlt']
    by_cases e : i = sp
    · rw [if_pos e]; omega
    · rw [if_neg e]; exact s2 i (by omega)
  refine ⟨lt', spc lt' (sp + 1), (spc_le lt' (sp + 1)).1, (spc_le lt' (sp + 1)).2, ?_, CI_sp hh (by omega) h26 c1' (fun x hx => by rw [sI_o (by omega), sI_o (by omega)]) rfl⟩
  unfold f_X7_spell f_X7_spell_b64
  have e01 : (sI S 1 sp (nI m)).1 0 1 = nI sp := by rw [sI_o (by omega)]; exact c1.1
  rw [if_neg (nI_pos (by omega)), if_pos (show nI m < (27 : Int32) from lt_nI (n := 27) hm (by decide)), c1.1, if_pos (show nI sp < (5 : Int32) from lt_nI (n := 5) h5 (by decide)), put7 S 1 (nI m) (by show sp < 5; exact h5) (by decide), bsm, e01, nI_1]
  refine fx_run (sp + 1) (fun i => (sI (sI S 1 sp (nI m)) 0 1 (nI (sp + 1)), nI (spc lt' i), nI i)) ?_ ?_ (FU_gt (by omega)) rfl
  · intro i rec hi
    unfold F_X7_spell_b64 f_X7_spell_b91
    dsimp only
    have hl := h26 i hi
    have hi26 : nI (lt' i) = (26 : Int32) ↔ lt' i = 26 := nI_eq (b := 26) (by omega) (by omega)
    rw [c1'.1, if_neg (nlt_le hi (by omega)), read7 _ 1 (by show i < 5; omega) (by decide), bsm, c1'.2 i hi, show spc lt' (i + 1) = spc lt' i + (if lt' i = 26 then 2 else 1) from rfl]
    by_cases e : lt' i = 26
    · rw [if_pos (hi26.mpr e), if_pos e, show (2 : Int32) = nI 2 from rfl, nI_add, nI_1]
    · rw [if_neg (fun q => e (hi26.mp q)), if_neg e, nI_1, nI_1]
  · intro rec
    unfold F_X7_spell_b64
    dsimp only
    rw [c1'.1, if_pos (nle_nI _)]
/-! exports -/
theorem CI_xp (h : CI S sp ns nr na ne nm lt len fr to sj dr ab st lby se trn txt kd dd qq) {ne' nm' : Nat} {se' : Nat → Nat} (hG : nm' ≤ ne' ∧ ne' ≤ 10 ∧ ∀ e, e < ne' → ∀ k, (se' e).testBit k = true → k < na) (hE : EC U ne' nm' se' (fun e => TX (rep kd fr to (lbL len) dd sj qq (se' e) na).1 len trn txt)) (f : ∀ x, x < 24 → U.1 x = S.1 x) (f1 : U.2.1 16 = S.2.1 16) (f2 : U.2.2 16 = S.2.2 16) (hN : BN U) : CI U sp ns nr na ne' nm' lt len fr to sj dr ab st lby se' trn txt kd dd qq := by
  obtain ⟨⟨g1, g2⟩, ⟨c1, c2, c3, c4, c5⟩⟩ := h
  exact ⟨⟨⟨g1.1, g1.2.1, hG⟩, g2⟩, ⟨SC_fr (fun x p => f x (by omega)) c1, OC_fr (fun x p q => f x (by omega)) c2, BC_fr (fun x p q => f x (by omega)) f1 f2 c3, hN, hE⟩⟩
theorem k_make (h : CI S sp ns nr na ne nm lt len fr to sj dr ab st lby se trn txt kd dd qq) (he : nm < ne) : f_X7_make S = some (sI S 30 1 (nI (nm + 1)), nI nm) ∧ CI (sI S 30 1 (nI (nm + 1))) sp ns nr na ne (nm + 1) lt len fr to sj dr ab st lby se trn txt kd dd qq := by
  have hh := h
  have h0 := h
  obtain ⟨⟨g1, g2⟩, ⟨c1, c2, c3, c4, c5⟩⟩ := h
  obtain ⟨gW, gA, gT, gK, gL, gB⟩ := g2
  have hna := gT.1
  have hns := gW.2.1
  have hnr := gW.1
  obtain ⟨s1, s2, s3, s4, s5⟩ := g1
  obtain ⟨x1, x2, x3, x4, x5⟩ := c5
  constructor
  · unfold f_X7_make
    rw [x1, x2, if_pos (lt_nI he (by omega)), nI_1, sI_at, show (1 : Int32) = nI 1 from rfl, pk_sub (by omega), show nm + 1 - 1 = nm by omega]
  · refine CI_xp hh ⟨by omega, s4, s5⟩ ⟨?_, ?_, fun e he => ⟨(x3 e he).1, ?_, fun i hi => ?_⟩, ?_, ?_⟩ (fun x p => sI_o (by omega)) rfl rfl (BN_fr rfl c4)
    · rw [sI_k (by omega)]; exact x1
    · rw [sI_at]
    · rw [sI_o (by omega)]; exact (x3 e he).2.1
    · rw [sI_o (by omega)]; exact (x3 e he).2.2 i hi
    · rw [sI_o (by omega)]; exact x4
    · rw [sI_o (by omega)]; exact x5
theorem k_make_n (h : CI S sp ns nr na ne nm lt len fr to sj dr ab st lby se trn txt kd dd qq) (he : nm = ne) : f_X7_make S = some (S, -1) := by
  have h0 := h
  obtain ⟨⟨g1, g2⟩, ⟨c1, c2, c3, c4, c5⟩⟩ := h
  obtain ⟨gW, gA, gT, gK, gL, gB⟩ := g2
  have hna := gT.1
  have hns := gW.2.1
  have hnr := gW.1
  obtain ⟨s1, s2, s3, s4, s5⟩ := g1
  obtain ⟨x1, x2, x3, x4, x5⟩ := c5
  unfold f_X7_make
  rw [x1, x2, if_neg (fun q => absurd ((nI_ltI (by omega) (by omega)).mp q) (by omega))]
theorem k_ask (h : CI S sp ns nr na ne nm lt len fr to sj dr ab st lby se trn txt kd dd qq) (h10 : ne < 10) : Ok (f_X7_ask S) (fun o => o.2 = (0, nI ne) ∧ (∀ x, 36 ≤ x → o.1.1 x = S.1 x) ∧ CI o.1 sp ns nr na (ne + 1) nm lt len fr to sj dr ab st lby (fun e => if e = ne then cset st ab else se e) trn txt kd dd qq) := by
  have hh := h
  have h0 := h
  obtain ⟨⟨g1, g2⟩, ⟨c1, c2, c3, c4, c5⟩⟩ := h
  obtain ⟨gW, gA, gT, gK, gL, gB⟩ := g2
  have hna := gT.1
  have hns := gW.2.1
  have hnr := gW.1
  obtain ⟨s1, s2, s3, s4, s5⟩ := g1
  obtain ⟨hAI, -, -, -⟩ := rep_ok (set := cset st ab) gW gA na (Nat.le_refl _)
  obtain ⟨⟨b, b', hRB, hCB⟩, hV⟩ := c3
  have hob : oc b = some 0 := HL_oc (Or.inl ⟨rfl, rfl⟩) (RB_lo hRB)
  obtain ⟨⟨S2, hS2, f, hf, hf1, hf2⟩, -⟩ := show7 hob c2.2.2.1 hns hnr hAI hCB
  have hI2 : CI S2 sp ns nr na ne nm lt len fr to sj dr ab st lby se trn txt kd dd qq := by
    rw [hf]
    exact CI_q hh (QF_wT hf2)
  have hS2f : S2.1 35 = f := by rw [hf]; exact wT_f
  have hS2n : S2.1 34 1 = nI (TX (rep kd fr to (lbL len) dd sj qq (cset st ab) na).1 len trn txt).length := by rw [hf]; exact wT_n
  have hI2' := hI2
  obtain ⟨-, ⟨k1, k2, k3, k4, k5⟩⟩ := hI2
  obtain ⟨x1, x2, x3, x4, x5⟩ := k5
  have hx : f_X7_ask S = some (kpS S2 ne (lN (cset st ab)), (0, nI ne)) := by
    unfold f_X7_ask
    rw [c5.1, if_pos (show nI ne < (10 : Int32) from lt_nI (n := 10) h10 (by decide)), hRB.1, rf_some hob, hS2, bsm, counting7 k2.2.2.2.2.2 gT, bsm, keep7 x1 h10 x5, bsm]
  refine ⟨_, hx, rfl, ?_, ?_⟩
  · intro x p
    dsimp only
    unfold kpS
    rw [sI_o (by omega), sA_o (by omega), sI_o (by omega)]
    show S2.1 x = S.1 x
    rw [hf]
    exact wT_o (by omega) (by omega)
  · dsimp only
    generalize hT : kpS S2 ne (lN (cset st ab)) = T
    have hT1 : T.1 = (kpS S2 ne (lN (cset st ab))).1 := by rw [← hT]
    have tf : ∀ x, x ≠ 30 → x ≠ 32 → x ≠ 33 → T.1 x = S2.1 x := fun x p q r => by
      rw [hT1]
      unfold kpS
      rw [sI_o p, sA_o r, sI_o q]
      rfl
    have t21 : ∀ x, x ≠ 31 → T.2.1 x = S2.2.1 x := fun x p => by
      rw [← hT]
      unfold kpS sL sI sA
      simp [p]
    have t22 : T.2.2 = S2.2.2 := by rw [← hT]; rfl
    have t31 : T.2.1 31 = vp_updL (S2.2.1 31) ne (lN (cset st ab)) := by
      rw [← hT]
      unfold kpS sL sI sA
      simp
    refine CI_xp hI2' (ne' := ne + 1) (nm' := nm) (se' := fun e => if e = ne then cset st ab else se e) ⟨by omega, by omega, fun e he k hk => ?_⟩ ⟨?_, ?_, fun e he => ⟨?_, ?_, fun i hi => ?_⟩, fun i => ?_, fun i => ?_⟩ (fun x p => tf x (by omega) (by omega) (by omega)) (t21 16 (by omega)) (by rw [t22]) (BN_fr (by rw [t22]) k4)
    · by_cases e1 : e = ne
      · rw [if_pos e1] at hk; exact cset_lt gT hk
      · rw [if_neg e1] at hk; exact s5 e (by omega) k hk
    · rw [hT1]
      unfold kpS
      exact sI_at
    · rw [hT1]
      unfold kpS
      rw [sI_k (by omega), sA_o (by omega), sI_o (by omega)]
      exact x2
    · rw [t31]
      dsimp only
      unfold vp_updL
      by_cases e1 : e = ne
      · rw [if_pos e1, if_pos e1]
      · rw [if_neg e1, if_neg e1]; exact (x3 e (by omega)).1
    · rw [hT1]
      unfold kpS
      rw [sI_o (by omega), sA_o (by omega)]
      dsimp only
      by_cases e1 : e = ne
      · subst e1
        rw [if_pos rfl, sI_at]
        exact hS2n
      · rw [if_neg e1, sI_k e1]; exact (x3 e (by omega)).2.1
    · rw [hT1]
      unfold kpS
      rw [sI_o (by omega), sA_at]
      dsimp only at hi ⊢
      by_cases e1 : e = ne
      · subst e1
        rw [if_pos rfl] at hi ⊢
        have := TX_len hAI hns (trn := trn) (txt := txt) (fun k => (c2.2.2.1.1 k).1)
        rw [put_in (by omega), hS2f, hf1 i hi]
      · rw [if_neg e1] at hi ⊢
        have := TX_len (rep_ok (set := se e) gW gA na (Nat.le_refl _)).1 hns (trn := trn) (txt := txt) (fun k => (c2.2.2.1.1 k).1)
        rw [put_out (by omega)]
        exact (x3 e (by omega)).2.2 i hi
    · rw [hT1]
      unfold kpS
      rw [sI_o (by omega), sA_at]
      unfold put_
      split
      · exact x5 _
      · exact x4 _
    · rw [tf 35 (by omega) (by omega) (by omega)]
      exact x5 _
/-! ways -/
/-- a drawer stands, all acts that count are done anew -/
theorem go_C (h : CI S sp ns nr na ne nm lt len fr to sj dr ab st lby se trn txt kd dd qq) {d s : Nat} (hd : d < 4) (hs : s ≤ na) (hds : ∀ j, s = j + 1 → dr j = d) : Ok ((f_X6_stand (nI d) (cI s) S).bind (fun o42 => (f_X6_counting o42).bind (fun o53 => (f_X3_redo 16 o53 o42).bind (fun o56 => (f_J13_bitCount_95d88 (o56.2.1 16 3) o56).bind (fun o66 => some ((o56, ((0 : Nat), o66)) : XO)))))) (fun o => o.2 = (0, nI (fb_ct (fun k => (rep kd fr to (lbL len) dd sj qq (cset (stA st d s) ab) na).2.testBit k) na)) ∧ (∀ x, 36 ≤ x → o.1.1 x = S.1 x) ∧ CI o.1 sp ns nr na ne nm lt len fr to sj dr ab (stA st d s) lby se trn txt kd dd qq) := by
  obtain ⟨⟨g1, g2⟩, ⟨c1, c2, c3, c4, c5⟩⟩ := h
  have g2' := g2
  obtain ⟨gW, gA, gT, gK, gL, gB⟩ := g2'
  have hna := gT.1
  have c5' := c5.2.2.2.2
  obtain ⟨k1, k2, k3, k4, k5, k6⟩ := c2
  obtain ⟨⟨b, b', hRB, hCB⟩, hV⟩ := c3
  have gT' := stA_TWF gT (d := d) hs hds
  have hst : f_X6_stand (nI d) (cI s) S = some (sI S 15 d (cI s)) := by
    unfold f_X6_stand
    rw [put7 S 15 (cI s) (show d < alen 15 from hd) (by decide), bsm]
  rw [hst, bsm]
  generalize hU : sI S 15 d (cI s) = U
  have uf : ∀ x, x ≠ 15 → U.1 x = S.1 x := fun x hx => by rw [← hU]; exact sI_o hx
  have u2 : U.2 = S.2 := by rw [← hU]; rfl
  have uC : CT U na dr ab (stA st d s) := by
    refine ⟨by rw [uf 9 (by omega)]; exact k6.1, by rw [uf 13 (by omega), uf 14 (by omega)]; exact k6.2.1, fun x hx => ?_⟩
    unfold stA
    rw [← hU]
    by_cases e : x = d
    · rw [if_pos e, e, sI_at]
    · rw [if_neg e, sI_k e]; exact k6.2.2 x hx
  have uO : OC U ns nr na len trn txt kd fr to dd sj qq dr ab (stA st d s) := by
    refine ⟨by rw [uf 2 (by omega)]; exact k1, by rw [uf 5 (by omega)]; exact k2, ?_, ?_, fun a ha => ?_, uC⟩
    · unfold HS1 at k3 ⊢
      rw [uf 2 (by omega), uf 3 (by omega), uf 4 (by omega)]; exact k3
    · unfold RC at k4 ⊢
      rw [uf 6 (by omega), uf 7 (by omega), uf 8 (by omega)]; exact k4
    · have := k5 a ha
      unfold TA at this ⊢
      rw [uf 10 (by omega), uf 11 (by omega), uf 12 (by omega)]; exact this
  have uCE : CE U na nr ns kd fr to (lbL len) dd sj qq := ⟨uO.2.2.2.1, HS1_lb uO.2.2.1, uO.2.2.2.2.1⟩
  rw [counting7 uC gT', bsm]
  refine Ok.bind (redo7 (Or.inl ⟨rfl, rfl⟩) (RB_fr (by rw [u2]) hRB) uCE gW gA hna (fun k hk => cset_lt gT' hk)) ?_
  rintro S3 ⟨⟨f1, f2⟩, ⟨c, c', hB, hC⟩, h3⟩
  obtain ⟨-, -, hVlt, -⟩ := rep_ok (set := cset (stA st d s) ab) gW gA na (Nat.le_refl _)
  rw [h3, bitcL S3 (Nat.lt_of_lt_of_le hVlt (Nat.pow_le_pow_right (by omega) (by omega))), bsm]
  refine ⟨_, rfl, ?_, fun x hx => ?_, ⟨g1, gW, gA, gT', gK, gL, gB⟩, ⟨SC_fr (fun x hx => ?_) c1, OC_fr (fun x p q => f1 x (by omega)) uO, ⟨⟨c, c', hB, hC⟩, h3⟩, BN_fr ?_ c4, EC_fr (fun x p => ?_) ?_ ?_ c5⟩⟩
  · dsimp only
    rw [ct_ext (n := na) (fun k hk => V_out hVlt hk) (by omega)]
  · dsimp only
    rw [f1 x (by omega), uf x (by omega)]
  · dsimp only
    rw [f1 x (by omega), uf x (by omega)]
  · dsimp only
    rw [(f2 17 (by omega)).1, u2]
  · dsimp only
    rw [f1 x (by omega), uf x (by omega)]
  · dsimp only
    rw [f1 35 (by omega), uf 35 (by omega)]; exact c5'
  · dsimp only
    rw [(f2 31 (by omega)).2, u2]
theorem k_back_n (h : CI S sp ns nr na ne nm lt len fr to sj dr ab st lby se trn txt kd dd qq) {d : Nat} (hd : d < 4) (hs : st d = 0) : f_X7_back (nI d) S = some (S, (3, 0)) := by
  have h0 := h
  obtain ⟨⟨g1, g2⟩, ⟨c1, c2, c3, c4, c5⟩⟩ := h
  obtain ⟨gW, gA, gT, gK, gL, gB⟩ := g2
  have hna := gT.1
  have hns := gW.2.1
  have hnr := gW.1
  have hC := c2.2.2.2.2.2
  unfold f_X7_back
  simp only [rDr_y hd, bsm, if_true, stand7 S hd, hC.2.2 d hd, hs, if_pos (show cI 0 = (-1 : Int32) from rfl)]
theorem k_back (h : CI S sp ns nr na ne nm lt len fr to sj dr ab st lby se trn txt kd dd qq) {d j : Nat} (hd : d < 4) (hs : st d = j + 1) : Ok (f_X7_back (nI d) S) (fun o => o.2 = (0, nI (fb_ct (fun k => (rep kd fr to (lbL len) dd sj qq (cset (stA st d (ab j)) ab) na).2.testBit k) na)) ∧ (∀ x, 36 ≤ x → o.1.1 x = S.1 x) ∧ CI o.1 sp ns nr na ne nm lt len fr to sj dr ab (stA st d (ab j)) lby se trn txt kd dd qq) := by
  have hh := h
  have h0 := h
  obtain ⟨⟨g1, g2⟩, ⟨c1, c2, c3, c4, c5⟩⟩ := h
  obtain ⟨gW, gA, gT, gK, gL, gB⟩ := g2
  have hna := gT.1
  have hns := gW.2.1
  have hnr := gW.1
  have hC := c2.2.2.2.2.2
  have hk := gT.2.2 d hd
  rw [hs] at hk
  have hj : j < na := by omega
  have hab := gT.2.1 j hj
  have hne : ¬ cI (j + 1) = -1 := fun q => absurd ((cI_m1 (by omega)).mp q) (by omega)
  have hdj := hk.2 j rfl
  have h14 : f_X6_aboveOf (cI (j + 1)) S = some (cI (ab j)) := by
    rw [show cI (j + 1) = nI j from rfl, above7 S (show j < 60 by omega), (hC.2.1 j hj).2]
  have := go_C hh (d := d) (s := ab j) hd (by omega) (fun i hi => by rw [hab.2.2 i hi, hdj])
  unfold f_X7_back
  simp only [rDr_y hd, bsm, if_true, stand7 S hd, hC.2.2 d hd, hs, if_neg hne, h14]
  exact this
theorem k_on (h : CI S sp ns nr na ne nm lt len fr to sj dr ab st lby se trn txt kd dd qq) {d j : Nat} {p : Int32} (hd : d < 4) (hs : fbr dr ab st d p na = j + 1) : j < na ∧ dr j = d ∧ ab j = st d ∧ Ok (f_X7_on (nI d) p S) (fun o => o.2 = (0, nI (fb_ct (fun k => (rep kd fr to (lbL len) dd sj qq (cset (stA st d (j + 1)) ab) na).2.testBit k) na)) ∧ (∀ x, 36 ≤ x → o.1.1 x = S.1 x) ∧ CI o.1 sp ns nr na ne nm lt len fr to sj dr ab (stA st d (j + 1)) lby se trn txt kd dd qq) := by
  have hh := h
  have h0 := h
  obtain ⟨⟨g1, g2⟩, ⟨c1, c2, c3, c4, c5⟩⟩ := h
  obtain ⟨gW, gA, gT, gK, gL, gB⟩ := g2
  have hna := gT.1
  have hns := gW.2.1
  have hnr := gW.1
  have hC := c2.2.2.2.2.2
  obtain ⟨hj, hbr⟩ := fbr_brn na hs
  have hne : ¬ cI (j + 1) = -1 := fun q => absurd ((cI_m1 (by omega)).mp q) (by omega)
  unfold brn at hbr
  rw [Bool.and_eq_true] at hbr
  have hdj : dr j = d := of_decide_eq_true hbr.1
  have := go_C hh (d := d) (s := j + 1) hd (by omega) (fun i hi => by rw [show i = j by omega]; exact hdj)
  refine ⟨hj, hdj, of_decide_eq_true hbr.2, ?_⟩
  unfold f_X7_on
  simp only [rDr_y hd, bsm, if_true, branchOf7 hC gT hd p, hs, if_neg hne]
  exact this
end
