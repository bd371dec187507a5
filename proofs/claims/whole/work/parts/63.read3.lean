/-! holds; the spelled text; exports that stand -/
theorem j_holds {S : HS} (h : Inv S) (p : Int32) : JB (f_L_holds p S) (f_X8_holds p) := by
  obtain ⟨sp, ns, nr, na, ne, nm, lt, len, fr, to, sj, dr, ab, st, lby, se, trn, txt, kd, dd, qq, h⟩ := h
  have hI := I0_inv h
  have h0 := h
  obtain ⟨⟨g1, g2⟩, ⟨c1, c2, c3, c4, c5⟩, ⟨m1, m2, m3, m4⟩⟩ := h
  obtain ⟨gW, gA, gT, gK, gL, gB⟩ := g2
  have hna := gT.1
  have hns := gW.2.1
  have hnr := gW.1
  rw [wr_holds]
  obtain ⟨hAI, -, -, -⟩ := rep_ok (set := cset st ab) gW gA na (Nat.le_refl _)
  have hth := AI_th gW hAI
  have hfo := fok_lt hAI.2.1 gW.1
  obtain ⟨⟨b, b', hRB, hCB⟩, hV⟩ := c3
  have hob : oc b = some 0 := HL_oc (Or.inl ⟨rfl, rfl⟩) (RB_lo hRB)
  rcases in_or p nr (by omega) with ⟨k, hk, rfl⟩ | hn
  · obtain ⟨r1, r2, r3, r4, r5⟩ := c2.2.2.2.1.2 k hk
    obtain ⟨n1, n2, n3, -, -⟩ := m2.2.1.2.2.2.2.2.1 k hk
    have e7 : f_X7_read 7 (nI k) S = some (nI (fr k)) := by rw [read7 S 7 (by show k < 12; omega) (by decide), r2]
    have e8 : f_X7_read 8 (nI k) S = some (nI (to k)) := by rw [read7 S 8 (by show k < 12; omega) (by decide), r3]
    have e6 : f_X7_read 6 (nI k) S = some (kd k) := by rw [read7 S 6 (by show k < 12; omega) (by decide), r1]
    have hbad : ∀ (x : Option XO), x = some (S, (4, 0)) → f_X8_holds (nI k) S = f_X8_holds_b88 (nI k) S 2 → JB (wrb [(1, 1), (4, 2)] x) (f_X8_holds (nI k)) := by
      intro x hx hy
      refine JB_ex (S1 := S) (v := 0) (c := 4) (k := 2) (w := 0) hx (by decide) (by decide) (fun v => rfl) ?_ hI
      rw [hy]
      unfold f_X8_holds_b88
      simp only [can8, bsm, d20, zb, nz_0, if_true]
    have hmod : ∀ (T : HS), T.1 = S.1 → f_X8_holds (nI k) T = if ((rep kd fr to (lbL len) dd sj qq (cset st ab) na).1.1.testBit (fr k) && ((rep kd fr to (lbL len) dd sj qq (cset st ab) na).1.1.testBit (to k) && (!(decide (kd k = 6)) || (rep kd fr to (lbL len) dd sj qq (cset st ab) na).1.2.1.testBit k))) = true then f_X8_holds_b88 (nI k) T 0 else f_X8_holds_b88 (nI k) T 2 := by
      intro T hT
      have t7 : T.1 36 7 = nI nr := by rw [hT]; exact m2.2.1.1
      have t20 : T.1 36 20 = nI (rep kd fr to (lbL len) dd sj qq (cset st ab) na).1.1 := by rw [hT]; exact m3.1.1
      have t22 : T.1 36 22 = nI (rep kd fr to (lbL len) dd sj qq (cset st ab) na).1.2.1 := by rw [hT]; exact m3.1.2.1
      have t42 : T.1 42 k = kd k := by rw [hT]; exact n1
      have t43 : T.1 43 k = nI (fr k) := by rw [hT]; exact n2
      have t44 : T.1 44 k = nI (to k) := by rw [hT]; exact n3
      unfold f_X8_holds f_X8_holds_b68 f_X8_holds_b64 f_X8_holds_b69
      simp only [isRu8 t7, isN_yes hk (by omega), bsm, ob, if_pos (ib_nI (show k < 12 by omega) (by omega)), nI_cl (show k < 2 ^ 31 by omega), t20, t22, t42, t43, t44, has8 _ (show (rep kd fr to (lbL len) dd sj qq (cset st ab) na).1.1 < 2 ^ 31 by omega) (show fr k < 31 by omega), has8 _ (show (rep kd fr to (lbL len) dd sj qq (cset st ab) na).1.1 < 2 ^ 31 by omega) (show to k < 31 by omega), has8 _ (show (rep kd fr to (lbL len) dd sj qq (cset st ab) na).1.2.1 < 2 ^ 31 by omega) (show k < 31 by omega), ifb]
      cases (rep kd fr to (lbL len) dd sj qq (cset st ab) na).1.1.testBit (fr k) <;> cases (rep kd fr to (lbL len) dd sj qq (cset st ab) na).1.1.testBit (to k) <;> cases (rep kd fr to (lbL len) dd sj qq (cset st ab) na).1.2.1.testBit k <;> by_cases e : kd k = 6 <;> simp [e]
    cases ha : (rep kd fr to (lbL len) dd sj qq (cset st ab) na).1.1.testBit (fr k) with
    | false =>
      refine hbad _ ?_ (by rw [hmod S rfl, ha]; rfl)
      unfold f_X7_holds
      simp only [rRu_y c2.2.1 hk (by omega), bsm, if_true, hRB.1, rf_some hob, e7, rOn hCB.1 (show (rep kd fr to (lbL len) dd sj qq (cset st ab) na).1.1 < 2 ^ 31 by omega) (show fr k < 62 by omega), ha]
      rfl
    | true =>
      cases hc : (rep kd fr to (lbL len) dd sj qq (cset st ab) na).1.1.testBit (to k) with
      | false =>
        refine hbad _ ?_ (by rw [hmod S rfl, ha, hc]; rfl)
        unfold f_X7_holds
        simp only [rRu_y c2.2.1 hk (by omega), bsm, if_true, hRB.1, rf_some hob, e7, e8, rOn hCB.1 (show (rep kd fr to (lbL len) dd sj qq (cset st ab) na).1.1 < 2 ^ 31 by omega) (show fr k < 62 by omega), rOn hCB.1 (show (rep kd fr to (lbL len) dd sj qq (cset st ab) na).1.1 < 2 ^ 31 by omega) (show to k < 62 by omega), ha, hc]
        rfl
      | true =>
        have hcls : f_X7_holds (nI k) S = if (!(decide (kd k = 6)) || (rep kd fr to (lbL len) dd sj qq (cset st ab) na).1.2.1.testBit k) = true then f_X7_holds_b93 (nI k) S else some (S, (4, 0)) := by
          unfold f_X7_holds
          simp only [rRu_y c2.2.1 hk (by omega), bsm, if_true, hRB.1, rf_some hob, e6, e7, e8, rOn hCB.1 (show (rep kd fr to (lbL len) dd sj qq (cset st ab) na).1.1 < 2 ^ 31 by omega) (show fr k < 62 by omega), rOn hCB.1 (show (rep kd fr to (lbL len) dd sj qq (cset st ab) na).1.1 < 2 ^ 31 by omega) (show to k < 62 by omega), ha, hc, hCB.2.1, hasI7 S (show (rep kd fr to (lbL len) dd sj qq (cset st ab) na).1.2.1 < 2 ^ 31 by omega) (show k < 62 by omega), ifb]
          cases (rep kd fr to (lbL len) dd sj qq (cset st ab) na).1.2.1.testBit k <;> by_cases e : kd k = 6 <;> simp [e]
        by_cases hz : (!(decide (kd k = 6)) || (rep kd fr to (lbL len) dd sj qq (cset st ab) na).1.2.1.testBit k) = true
        · have hti : kd k = 6 → (rep kd fr to (lbL len) dd sj qq (cset st ab) na).1.2.1.testBit k = true := fun q => by
            rw [q] at hz
            simpa using hz
          obtain ⟨r, hr, ok, rfl, hok⟩ := fits7 hob hCB c2.2.2.2.1 hk ha hc hti
          refine JB_v (b := ok) ?_ hI (fun T hQ hT => ?_)
          · rw [hcls, if_pos hz]
            unfold f_X7_holds_b93
            rw [hRB.1, rf_some hob, hr, bsm, nz_bI, if_pos rfl]
          · rw [hmod T hT, ha, hc, hz]
            refine Ok.mono (hold8 (A := (rep kd fr to (lbL len) dd sj qq (cset st ab) na).1) (kd := kd) (fr := fr) (to := to) (show k < 12 by omega) (by rw [hT]; exact n1) (by rw [hT]; exact n2) (by rw [hT]; exact n3) r4 r5 (by rw [hT]; exact m3.1.2.2.1) ha hc (fun q => by rw [hT]; exact m3.1.2.2.2 k (hti q) q) (gK k hk).1) ?_
            rintro r ⟨ok2, rfl, hok2⟩
            refine ⟨th_at, rfl, ?_, QF_th (by omega)⟩
            have : ok2 = ok := by rw [Bool.eq_iff_iff, hok2, hok]
            rw [this]
        · refine hbad _ (by rw [hcls, if_neg hz]) ?_
          rw [hmod S rfl, ha, hc]
          have : (!(decide (kd k = 6)) || (rep kd fr to (lbL len) dd sj qq (cset st ab) na).1.2.1.testBit k) = false := by
            cases e : (!(decide (kd k = 6)) || (rep kd fr to (lbL len) dd sj qq (cset st ab) na).1.2.1.testBit k) with
            | false => rfl
            | true => exact absurd e hz
          rw [this]
          rfl
  · refine JB_ex (S1 := S) (v := 0) (c := 1) (k := 1) (w := 0) ?_ (by decide) (by decide) (fun v => rfl) ?_ hI
    · unfold f_X7_holds
      rw [rRu_n c2.2.1 hn]
      rfl
    · unfold f_X8_holds f_X8_holds_b68 f_X8_holds_b69 f_X8_holds_b88
      simp only [isRu8 m2.2.1.1, isN_no hn (by omega), bsm, zb, can8, d10, nz_0, if_true]
/-! the spelled text -/
theorem sI_o {S : HS} {a k h : Nat} {v : Int32} (hh : h ≠ a) : (sI S a k v).1 h = S.1 h := by
  unfold sI
  simp [hh]
theorem sI_at {S : HS} {a k : Nat} {v : Int32} : (sI S a k v).1 a k = v := by
  show (if a = a then upd (S.1 a) k v else S.1 a) k = v
  rw [if_pos rfl, upd_at]
theorem sI_k {S : HS} {a k j : Nat} {v : Int32} (hj : j ≠ k) : (sI S a k v).1 a j = S.1 a j := by
  show (if a = a then upd (S.1 a) k v else S.1 a) j = _
  rw [if_pos rfl, upd_ne hj]
theorem I0_sp {S U : HS} {sp ns nr na ne nm : Nat} {lt len fr to sj dr ab st lby se : Nat → Nat} {trn : Nat → Bool} {txt : Nat → Nat → Nat} {kd dd : Nat → Int32} {qq : Nat → Nat → Int32} (h : I0 S sp ns nr na ne nm lt len fr to sj dr ab st lby se trn txt kd dd qq) {sp' : Nat} {lt' : Nat → Nat} (h5 : sp' ≤ 5) (h26 : ∀ i, i < sp' → lt' i ≤ 26) (hC : SC U sp' lt') (hM : SM U sp' lt') (f : ∀ x, 2 ≤ x → x ≠ 36 → x ≠ 37 → U.1 x = S.1 x) (f36 : ∀ k, k ≠ 0 → k ≠ 36 → U.1 36 k = S.1 36 k) (f1 : ∀ x, x ≠ 60 → U.2.1 x = S.2.1 x) (f2 : U.2.2 = S.2.2) : Inv U := by
  obtain ⟨⟨g1, g2⟩, ⟨c1, c2, c3, c4, c5⟩, ⟨m1, m2, m3, m4⟩⟩ := h
  refine I0_inv (sp := sp') (lt := lt') ⟨⟨⟨h5, h26, g1.2.2⟩, g2⟩, ⟨hC, OC_fr (fun x p q => f x (by omega) (by omega) (by omega)) c2, BC_fr (fun x p q => f x (by omega) (by omega) (by omega)) (f1 16 (by omega)) (by rw [f2]) c3, BN_fr (by rw [f2]) c4, EC_fr (fun x p => f x (by omega) (by omega) (by omega)) ?_ (f1 31 (by omega)) c5⟩, ⟨hM, OM_fr (fun x p q r => f x (by omega) (by omega) (by omega)) (fun k p => f36 k (by omega) (by omega)) m2, BM_fr (f 51 (by omega) (by omega) (by omega)) (fun x p q => f x (by omega) (by omega) (by omega)) (fun k p => f36 k (by omega) (by omega)) m3, EM_fr (fun x p q => f x (by omega) (by omega) (by omega)) (fun k p => f36 k (by omega) (by omega)) m4⟩⟩
  rw [f 35 (by omega) (by omega) (by omega)]
  exact c5.2.2.2.2
theorem j_clear {S : HS} (h : Inv S) : Ok (f_X7_clearSpelled S) (fun o => Ok (f_X8_clearSpelled o.1) (fun r => o.2 = r.2 ∧ Inv r.1)) := by
  obtain ⟨sp, ns, nr, na, ne, nm, lt, len, fr, to, sj, dr, ab, st, lby, se, trn, txt, kd, dd, qq, h⟩ := h
  have hI := I0_inv h
  have h0 := h
  obtain ⟨⟨g1, g2⟩, ⟨c1, c2, c3, c4, c5⟩, ⟨m1, m2, m3, m4⟩⟩ := h
  obtain ⟨gW, gA, gT, gK, gL, gB⟩ := g2
  have hna := gT.1
  have hns := gW.2.1
  have hnr := gW.1
  refine ⟨_, rfl, _, rfl, ?_, ?_⟩
  · show S.1 0 1 = (sI (sI S 0 1 0) 36 36 0).1 36 0
    rw [th_k (by omega), sI_o (by omega), c1.1, m1.1]
  · refine I0_sp h0 (sp' := 0) (lt' := lt) (by omega) (fun i hi => absurd hi (by omega)) ⟨?_, fun i hi => absurd hi (by omega)⟩ ⟨?_, fun i hi => absurd hi (by omega)⟩ (fun x h1 h2 h3 => ?_) (fun k h1 h2 => ?_) (fun _ _ => rfl) rfl
    · show (sI (sI (sI S 0 1 0) 36 36 0) 36 0 0).1 0 1 = _
      rw [sI_o (by omega), sI_o (by omega), sI_at]
      rfl
    · show (sI (sI (sI S 0 1 0) 36 36 0) 36 0 0).1 36 0 = _
      rw [sI_at]
      rfl
    · show (sI (sI (sI S 0 1 0) 36 36 0) 36 0 0).1 x = _
      rw [sI_o (by omega), sI_o (by omega), sI_o (by omega)]
    · show (sI (sI (sI S 0 1 0) 36 36 0) 36 0 0).1 36 k = _
      rw [sI_k (by omega), sI_k (by omega), sI_o (by omega)]
/-- how many chars letters have -/
def spc (lt : Nat → Nat) : Nat → Nat
  | 0 => 0
  | n + 1 => spc lt n + (if lt n = 26 then 2 else 1)
theorem j_spell {S : HS} (h : Inv S) (p : Int32) : J (f_L_spell p S) (f_X8_spell p) := by
  obtain ⟨sp, ns, nr, na, ne, nm, lt, len, fr, to, sj, dr, ab, st, lby, se, trn, txt, kd, dd, qq, h⟩ := h
  have hI := I0_inv h
  have h0 := h
  obtain ⟨⟨g1, g2⟩, ⟨c1, c2, c3, c4, c5⟩, ⟨m1, m2, m3, m4⟩⟩ := h
  obtain ⟨gW, gA, gT, gK, gL, gB⟩ := g2
  have hna := gT.1
  have hns := gW.2.1
  have hnr := gW.1
  rw [wr_spell]
  obtain ⟨s1, s2, s3, s4, s5⟩ := g1
  have h27 : ∀ q : Int32, (!(decide (q < 0)) && !(decide ((26 : Int32) < q))) = (!(decide (q < 0)) && !(decide (nI 27 - 1 < q))) := fun q => by
    rw [show nI 27 - 1 = (26 : Int32) from by decide]
  rcases in_or p 27 (by omega) with ⟨m, hm, rfl⟩ | hn
  · rcases Nat.lt_or_ge sp 5 with h5 | h5
    · generalize hlt : (fun i => if i = sp then m else lt i) = lt'
      have hlt' : ∀ i, lt' i = if i = sp then m else lt i := fun i => by rw [← hlt]
      have c1' : SC (sI (sI S 1 sp (nI m)) 0 1 (nI (sp + 1))) (sp + 1) lt' := by
        refine ⟨sI_at, fun i hi => ?_⟩
        rw [sI_o (by omega), hlt']
        by_cases e : i = sp
        · rw [if_pos e, e, sI_at]
        · rw [if_neg e, sI_k e]
          exact c1.2 i (by omega)
      have h26 : ∀ i, i < sp + 1 → lt' i ≤ 26 := fun i hi => by
        rw [hlt']
        by_cases e : i = sp
        · rw [if_pos e]; omega
        · rw [if_neg e]; exact s2 i (by omega)
      have hcl : f_X7_spell (nI m) S = some (sI (sI S 1 sp (nI m)) 0 1 (nI (sp + 1)), (0, nI (spc lt' (sp + 1)))) := by
        unfold f_X7_spell f_X7_spell_b64
        have e01 : (sI S 1 sp (nI m)).1 0 1 = nI sp := by rw [sI_o (by omega)]; exact c1.1
        rw [if_neg (nI_pos (by omega)), if_pos (show nI m < (27 : Int32) from lt_nI (n := 27) hm (by decide)), c1.1, if_pos (show nI sp < (5 : Int32) from lt_nI (n := 5) h5 (by decide)), put7 S 1 (nI m) (by show sp < 5; exact h5) (by decide), bsm, e01, nI_1]
        refine fx_run (sp + 1) (fun i => (sI (sI S 1 sp (nI m)) 0 1 (nI (sp + 1)), nI (spc lt' i), nI i)) ?_ ?_ (FU_gt (by omega)) rfl
        · intro i rec hi
          unfold F_X7_spell_b64 f_X7_spell_b91
          dsimp only
          have hl := h26 i hi
          have hi26 : nI (lt' i) = (26 : Int32) ↔ lt' i = 26 := nI_eq (b := 26) (by omega) (by omega)
          rw [c1'.1, if_neg (nlt_le hi (by omega)), read7 _ 1 (by show i < 5; omega) (by decide), bsm, c1'.2 i hi, show spc lt' (i + 1) = spc lt' i + (if lt' i = 26 then 2 else 1) from rfl]
          by_cases e : lt' i = 26
          · rw [if_pos (hi26.mpr e), if_pos e, show (2 : Int32) = nI 2 from rfl, nI_add, nI_1]
          · rw [if_neg (fun q => e (hi26.mp q)), if_neg e, nI_1, nI_1]
        · intro rec
          unfold F_X7_spell_b64
          dsimp only
          rw [c1'.1, if_pos (nle_nI _)]
      refine J_ok ⟨_, hcl, rfl, ?_⟩
      dsimp only
      generalize hT : sL (sI (sI S 1 sp (nI m)) 0 1 (nI (sp + 1))) 60 0 (nI (spc lt' (sp + 1))).toInt64 = T
      have tf : ∀ x, 2 ≤ x → T.1 x = S.1 x := fun x hx => by
        rw [← hT]
        show (sI (sI S 1 sp (nI m)) 0 1 (nI (sp + 1))).1 x = _
        rw [sI_o (by omega), sI_o (by omega)]
      have tC : SC T (sp + 1) lt' := by
        rw [← hT]
        exact c1'
      have t60 : T.2.1 60 0 = (nI (spc lt' (sp + 1))).toInt64 := by rw [← hT]; exact sL_60
      have t21 : ∀ x, x ≠ 60 → T.2.1 x = S.2.1 x := fun x hx => by
        rw [← hT]
        unfold sL
        simp [hx]
        rfl
      have t22 : T.2.2 = S.2.2 := by rw [← hT]; rfl
      have t0 : T.1 36 0 = nI sp := by rw [tf 36 (by omega)]; exact m1.1
      have tm : SM (sI (sI (sI T 36 36 0) 37 sp (nI m)) 36 0 (nI (sp + 1))) (sp + 1) lt' := by
        refine ⟨sI_at, fun i hi => ?_⟩
        rw [sI_o (by omega), hlt']
        by_cases e : i = sp
        · rw [if_pos e, e, sI_at]
        · rw [if_neg e, sI_k e, sI_o (by omega), tf 37 (by omega)]
          exact m1.2 i (by omega)
      have hmo : f_X8_spell (nI m) T = some (sI (sI (sI T 36 36 0) 37 sp (nI m)) 36 0 (nI (sp + 1)), nI (spc lt' (sp + 1))) := by
        have e5 : ¬ nI sp = (5 : Int32) := fun q => absurd ((nI_eq (b := 5) (by omega) (by omega)).mp q) (by omega)
        have e0 : (sI T 36 36 0).1 36 0 = nI sp := by rw [th_k (by omega)]; exact t0
        have e0' : (sI (sI T 36 36 0) 37 sp (nI m)).1 36 0 = nI sp := by rw [sI_o (by omega)]; exact e0
        unfold f_X8_spell f_X8_spell_b28 f_X8_spell_b60
        simp only [isIn8, h27, isN_yes hm (by omega), bsm, ob, t0, if_neg e5, can8, d00, decide_true, e0, if_pos (ib_nI h5 (by omega)), nI_cl (show sp < 2 ^ 31 by omega), e0', nI_1]
        refine fx_run (sp + 1) (fun i => (sI (sI (sI T 36 36 0) 37 sp (nI m)) 36 0 (nI (sp + 1)), nI (spc lt' i), nI i)) ?_ ?_ (FU_gt (by omega)) rfl
        · intro i rec hi
          unfold F_X8_spell_b60 f_X8_spell_b85
          dsimp only
          have hl := h26 i hi
          have hi26 : nI (lt' i) = (26 : Int32) ↔ lt' i = 26 := nI_eq (b := 26) (by omega) (by omega)
          rw [tm.1, if_neg (nlt_le hi (by omega)), if_pos (ib_nI (show i < 5 by omega) (by omega)), nI_cl (by omega), tm.2 i hi, show spc lt' (i + 1) = spc lt' i + (if lt' i = 26 then 2 else 1) from rfl]
          by_cases e : lt' i = 26
          · rw [if_pos (hi26.mpr e), if_pos e, show (2 : Int32) = nI 2 from rfl, nI_add, nI_1]
          · rw [if_neg (fun q => e (hi26.mp q)), if_neg e, nI_1, nI_1]
        · intro rec
          unfold F_X8_spell_b60
          dsimp only
          rw [tm.1, if_pos (nle_nI _)]
      refine ⟨_, hmo, ?_, t60, rfl, ?_⟩
      · rw [sI_k (by omega), sI_o (by omega), th_at]
      · refine I0_sp h0 (sp' := sp + 1) (lt' := lt') (by omega) h26 ⟨?_, fun i hi => ?_⟩ tm (fun x h1 h2 h3 => ?_) (fun k h1 h2 => ?_) t21 t22
        · rw [sI_o (by omega), sI_o (by omega), sI_o (by omega)]; exact tC.1
        · rw [sI_o (by omega), sI_o (by omega), sI_o (by omega)]; exact tC.2 i hi
        · rw [sI_o (by omega), sI_o (by omega), sI_o (by omega)]; exact tf x h1
        · rw [sI_k (by omega), sI_o (by omega), th_k (by omega)]; rw [tf 36 (by omega)]
    · have e5 : sp = 5 := by omega
      subst e5
      refine J_ex (S1 := S) (v := 0) (c := 3) (k := 2) (w := 0) ?_ (by decide) (by decide) (fun v => rfl) ?_ hI
      · unfold f_X7_spell
        rw [if_neg (nI_pos (by omega)), if_pos (show nI m < (27 : Int32) from lt_nI (n := 27) hm (by decide)), c1.1, if_neg (by decide)]
      · unfold f_X8_spell f_X8_spell_b28
        simp only [isIn8, h27, isN_yes hm (by omega), bsm, ob, m1.1, if_pos (show nI 5 = (5 : Int32) from rfl), can8, d20, zb]
  · refine J_ex (S1 := S) (v := 0) (c := 1) (k := 1) (w := 0) ?_ (by decide) (by decide) (fun v => rfl) ?_ hI
    · unfold f_X7_spell f_X7_spell_b10
      by_cases h1 : p < 0
      · rw [if_pos h1]
      · rw [if_neg h1, if_neg (show ¬ p < (27 : Int32) from hn.resolve_left h1)]
    · unfold f_X8_spell f_X8_spell_b28
      simp only [isIn8, h27, isN_no hn (by omega), bsm, zb, can8, d10]
