/-! calls that only ask: trees, acts, the board -/
theorem n10 : ((1 : Nat) = 0) = False := by simp
theorem n20 : ((2 : Nat) = 0) = False := by simp
theorem n30 : ((3 : Nat) = 0) = False := by simp
theorem n40 : ((4 : Nat) = 0) = False := by simp
theorem th_o {S : HS} {v : Int32} {h : Nat} (hh : h ≠ 36) : (sI S 36 36 v).1 h = S.1 h := by
  unfold sI
  simp [hh]
theorem th_k {S : HS} {v : Int32} {k : Nat} (hk : k ≠ 36) : (sI S 36 36 v).1 36 k = S.1 36 k := by
  show upd (S.1 36) 36 v k = _
  exact upd_ne hk
theorem j_branches {S : HS} (h : Inv S) (p : Int32) : J (f_L_branches p S) (f_X8_branches p) := by
  obtain ⟨sp, ns, nr, na, ne, nm, lt, len, fr, to, sj, dr, ab, st, lby, se, trn, txt, kd, dd, qq, h⟩ := h
  have hI := I0_inv h
  have h0 := h
  obtain ⟨⟨g1, g2⟩, ⟨c1, c2, c3, c4, c5⟩, ⟨m1, m2, m3, m4⟩⟩ := h
  obtain ⟨gW, gA, gT, gK, gL, gB⟩ := g2
  have hna := gT.1
  have hns := gW.2.1
  have hnr := gW.1
  rw [wr_branches]
  rcases dr_or p with ⟨d, hd, rfl⟩ | ⟨hn, hb⟩
  · refine J_v (v := nI (fb_ct (brn dr ab st d) na)) ?_ hI (fun T hQ hT => ?_)
    · unfold f_X7_branches
      simp only [rDr_y hd, bsm, if_true, branches7 c2.2.2.2.2.2 gT hd]
    · have mT : MT T na dr ab st := MT_fr2 (fun x _ => by rw [hT]) (by rw [hT]) m2.2.2.2.2
      rw [branches8 mT gT hd]
      exact ⟨_, rfl, th_at, rfl, rfl, QF_th (by omega)⟩
  · refine J_ex (S1 := S) (v := 0) (c := 1) (k := 1) (w := 0) ?_ (by decide) (by decide) (fun v => rfl) (branches8n m2.2.2.2.2 hb) hI
    unfold f_X7_branches
    rw [rDr_n hn]
    rfl
theorem j_below {S : HS} (h : Inv S) (p : Int32) : J (f_L_below p S) (f_X8_below p) := by
  obtain ⟨sp, ns, nr, na, ne, nm, lt, len, fr, to, sj, dr, ab, st, lby, se, trn, txt, kd, dd, qq, h⟩ := h
  have hI := I0_inv h
  have h0 := h
  obtain ⟨⟨g1, g2⟩, ⟨c1, c2, c3, c4, c5⟩, ⟨m1, m2, m3, m4⟩⟩ := h
  obtain ⟨gW, gA, gT, gK, gL, gB⟩ := g2
  have hna := gT.1
  have hns := gW.2.1
  have hnr := gW.1
  rw [wr_below]
  rcases dr_or p with ⟨d, hd, rfl⟩ | ⟨hn, hb⟩
  · refine J_v (v := nI (fb_ct (blw dr ab st d) na)) ?_ hI (fun T hQ hT => ?_)
    · unfold f_X7_below
      simp only [rDr_y hd, bsm, if_true, below7 c2.2.2.2.2.2 gT hd]
    · have mT : MT T na dr ab st := MT_fr2 (fun x _ => by rw [hT]) (by rw [hT]) m2.2.2.2.2
      rw [below8 mT gT hd]
      exact ⟨_, rfl, th_at, rfl, rfl, QF_th (by omega)⟩
  · refine J_ex (S1 := S) (v := 0) (c := 1) (k := 1) (w := 0) ?_ (by decide) (by decide) (fun v => rfl) (below8n hb) hI
    unfold f_X7_below
    rw [rDr_n hn]
    rfl
theorem j_standsAt {S : HS} (h : Inv S) (p : Int32) : J (f_L_standsAt p S) (f_X8_standsAt p) := by
  obtain ⟨sp, ns, nr, na, ne, nm, lt, len, fr, to, sj, dr, ab, st, lby, se, trn, txt, kd, dd, qq, h⟩ := h
  have hI := I0_inv h
  have h0 := h
  obtain ⟨⟨g1, g2⟩, ⟨c1, c2, c3, c4, c5⟩, ⟨m1, m2, m3, m4⟩⟩ := h
  obtain ⟨gW, gA, gT, gK, gL, gB⟩ := g2
  have hna := gT.1
  have hns := gW.2.1
  have hnr := gW.1
  rw [wr_standsAt]
  rcases dr_or p with ⟨d, hd, rfl⟩ | ⟨hn, hb⟩
  · refine J_v (v := cI (st d)) ?_ hI (fun T hQ hT => ?_)
    · unfold f_X7_standsAt
      simp only [rDr_y hd, bsm, if_true, stand7 S hd, c2.2.2.2.2.2.2.2 d hd]
    · have m52 : T.1 52 d = cI (st d) := by rw [hT]; exact m2.2.2.2.2.2.2 d hd
      unfold f_X8_standsAt f_X8_standsAt_b13 f_X8_standsAt_b29
      simp only [isDr8, isDr_yes hd, bsm, ob, can8, d00, decide_true, if_pos (ib_nI hd (by omega)), nI_cl (show d < 2 ^ 31 by omega)]
      refine ⟨_, rfl, th_at, rfl, ?_, QF_th (by omega)⟩
      show (sI T 36 36 0).1 52 d = _
      rw [th_o (by omega), m52]
  · refine J_ex (S1 := S) (v := 0) (c := 1) (k := 1) (w := 0) ?_ (by decide) (by decide) (fun v => rfl) ?_ hI
    · unfold f_X7_standsAt
      rw [rDr_n hn]
      rfl
    · unfold f_X8_standsAt f_X8_standsAt_b13 f_X8_standsAt_b29
      simp only [isDr8, hb, bsm, zb, can8, d10]
theorem j_acts {S : HS} (h : Inv S) : Ok (f_X7_acts S) (fun o => Ok (f_X8_acts S) (fun r => o = r.2 ∧ Inv r.1)) := by
  obtain ⟨sp, ns, nr, na, ne, nm, lt, len, fr, to, sj, dr, ab, st, lby, se, trn, txt, kd, dd, qq, h⟩ := h
  have hI := I0_inv h
  have h0 := h
  obtain ⟨⟨g1, g2⟩, ⟨c1, c2, c3, c4, c5⟩, ⟨m1, m2, m3, m4⟩⟩ := h
  obtain ⟨gW, gA, gT, gK, gL, gB⟩ := g2
  have hna := gT.1
  have hns := gW.2.1
  have hnr := gW.1
  refine ⟨_, rfl, _, rfl, ?_, Inv_q hI (QF_th (by omega))⟩
  show S.1 9 0 = (sI S 36 36 0).1 36 12
  rw [th_k (by omega), c2.2.2.2.2.2.1, m2.2.2.2.2.1]
theorem j_counts {S : HS} (h : Inv S) (p : Int32) : JB (f_L_counts p S) (f_X8_counts p) := by
  obtain ⟨sp, ns, nr, na, ne, nm, lt, len, fr, to, sj, dr, ab, st, lby, se, trn, txt, kd, dd, qq, h⟩ := h
  have hI := I0_inv h
  have h0 := h
  obtain ⟨⟨g1, g2⟩, ⟨c1, c2, c3, c4, c5⟩, ⟨m1, m2, m3, m4⟩⟩ := h
  obtain ⟨gW, gA, gT, gK, gL, gB⟩ := g2
  have hna := gT.1
  have hns := gW.2.1
  have hnr := gW.1
  rw [wr_counts]
  have hC := c2.2.2.2.2.2
  have hM := m2.2.2.2.2
  rcases in_or p na (by omega) with ⟨k, hk, rfl⟩ | hn
  · refine JB_v (b := (cset st ab).testBit k) ?_ hI (fun T hQ hT => ?_)
    · unfold f_X7_counts
      have := cset_60 gT
      simp only [rAc_y hC.1 hk (by omega), bsm, if_true, counting7 hC gT, has7 S (show cset st ab < 2 ^ 62 by omega) (show k < 62 by omega), nz_bI]
    · have mT : MT T na dr ab st := MT_fr2 (fun x _ => by rw [hT]) (by rw [hT]) hM
      have mT2 : MT (sI T 36 36 0) na dr ab st := MT_fr2 (fun x hx => th_o (by omega)) (th_k (by omega)) mT
      unfold f_X8_counts f_X8_counts_b14 f_X8_counts_b32 f_X8_counts_b33
      simp only [isAc8 mT.1, isN_yes hk (by omega), bsm, ob, can8, d00, decide_true, onWay8 mT2 gT hk, ifb, nz_0, nz_1, if_true]
      refine ⟨(sI T 36 36 0, bI ((cset st ab).testBit k)), ?_, th_at, rfl, rfl, QF_th (by omega)⟩
      cases (cset st ab).testBit k <;> rfl
  · refine JB_ex (S1 := S) (v := 0) (c := 1) (k := 1) (w := 0) ?_ (by decide) (by decide) (fun v => rfl) ?_ hI
    · unfold f_X7_counts
      rw [rAc_n hC.1 hn]
      rfl
    · unfold f_X8_counts f_X8_counts_b14 f_X8_counts_b32 f_X8_counts_b33
      simp only [isAc8 hM.1, isN_no hn (by omega), bsm, zb, can8, d10, nz_0, if_true]
theorem j_isVoid {S : HS} (h : Inv S) (p : Int32) : JB (f_L_isVoid p S) (f_X8_isVoid p) := by
  obtain ⟨sp, ns, nr, na, ne, nm, lt, len, fr, to, sj, dr, ab, st, lby, se, trn, txt, kd, dd, qq, h⟩ := h
  have hI := I0_inv h
  have h0 := h
  obtain ⟨⟨g1, g2⟩, ⟨c1, c2, c3, c4, c5⟩, ⟨m1, m2, m3, m4⟩⟩ := h
  obtain ⟨gW, gA, gT, gK, gL, gB⟩ := g2
  have hna := gT.1
  have hns := gW.2.1
  have hnr := gW.1
  rw [wr_isVoid]
  have hC := c2.2.2.2.2.2
  have hM := m2.2.2.2.2
  obtain ⟨hAI, -, hVlt, -⟩ := rep_ok (set := cset st ab) gW gA na (Nat.le_refl _)
  have hV62 : (rep kd fr to (lbL len) dd sj qq (cset st ab) na).2 < 2 ^ 62 := Nat.lt_of_lt_of_le hVlt (Nat.pow_le_pow_right (by omega) (by omega))
  rcases in_or p na (by omega) with ⟨k, hk, rfl⟩ | hn
  · refine JB_v (b := (rep kd fr to (lbL len) dd sj qq (cset st ab) na).2.testBit k) ?_ hI (fun T hQ hT => ?_)
    · unfold f_X7_isVoid
      simp only [rAc_y hC.1 hk (by omega), bsm, if_true, c3.2, has7 S hV62 (show k < 62 by omega), nz_bI]
    · have m12 : T.1 36 12 = nI na := by rw [hT]; exact hM.1
      have m51 : (sI T 36 36 0).1 51 k = bI ((rep kd fr to (lbL len) dd sj qq (cset st ab) na).2.testBit k) := by rw [th_o (by omega), hT]; exact m3.2 k hk
      unfold f_X8_isVoid f_X8_isVoid_b14 f_X8_isVoid_b33 f_X8_isVoid_b34
      simp only [isAc8 m12, isN_yes hk (by omega), bsm, ob, can8, d00, decide_true, if_pos (ib_nI (show k < 60 by omega) (by omega)), nI_cl (show k < 2 ^ 31 by omega), m51, ifb, nz_0, nz_1, if_true]
      refine ⟨(sI T 36 36 0, bI ((rep kd fr to (lbL len) dd sj qq (cset st ab) na).2.testBit k)), ?_, th_at, rfl, rfl, QF_th (by omega)⟩
      cases (rep kd fr to (lbL len) dd sj qq (cset st ab) na).2.testBit k <;> rfl
  · refine JB_ex (S1 := S) (v := 0) (c := 1) (k := 1) (w := 0) ?_ (by decide) (by decide) (fun v => rfl) ?_ hI
    · unfold f_X7_isVoid
      rw [rAc_n hC.1 hn]
      rfl
    · unfold f_X8_isVoid f_X8_isVoid_b14 f_X8_isVoid_b33 f_X8_isVoid_b34
      simp only [isAc8 hM.1, isN_no hn (by omega), bsm, zb, can8, d10, nz_0, if_true]
theorem j_isThere {S : HS} (h : Inv S) (p : Int32) : JB (f_L_isThere p S) (f_X8_isThere p) := by
  obtain ⟨sp, ns, nr, na, ne, nm, lt, len, fr, to, sj, dr, ab, st, lby, se, trn, txt, kd, dd, qq, h⟩ := h
  have hI := I0_inv h
  have h0 := h
  obtain ⟨⟨g1, g2⟩, ⟨c1, c2, c3, c4, c5⟩, ⟨m1, m2, m3, m4⟩⟩ := h
  obtain ⟨gW, gA, gT, gK, gL, gB⟩ := g2
  have hna := gT.1
  have hns := gW.2.1
  have hnr := gW.1
  rw [wr_isThere]
  obtain ⟨hAI, -, -, -⟩ := rep_ok (set := cset st ab) gW gA na (Nat.le_refl _)
  have hth := AI_th gW hAI
  obtain ⟨⟨b, b', hRB, hCB⟩, hV⟩ := c3
  have hob : oc b = some 0 := HL_oc (Or.inl ⟨rfl, rfl⟩) (RB_lo hRB)
  rcases in_or p ns (by omega) with ⟨k, hk, rfl⟩ | hn
  · refine JB_v (b := (rep kd fr to (lbL len) dd sj qq (cset st ab) na).1.1.testBit k) ?_ hI (fun T hQ hT => ?_)
    · unfold f_X7_isThere
      simp only [rSh_y c2.1 hk (by omega), bsm, if_true, hRB.1, rf_some hob, hCB.1, hasI7 S (show (rep kd fr to (lbL len) dd sj qq (cset st ab) na).1.1 < 2 ^ 31 by omega) (show k < 62 by omega), nz_bI]
    · have e2 : T.1 36 2 = nI ns := by rw [hT]; exact m2.2.1.2.1
      have e20 : (sI T 36 36 0).1 36 20 = nI (rep kd fr to (lbL len) dd sj qq (cset st ab) na).1.1 := by rw [th_k (by omega), hT]; exact m3.1.1
      unfold f_X8_isThere f_X8_isThere_b14 f_X8_isThere_b35 f_X8_isThere_b36
      simp only [isSh8 e2, isN_yes hk (by omega), bsm, ob, can8, d00, decide_true, e20, has8 _ (show (rep kd fr to (lbL len) dd sj qq (cset st ab) na).1.1 < 2 ^ 31 by omega) (show k < 31 by omega), ifb, nz_0, nz_1, if_true]
      refine ⟨(sI T 36 36 0, bI ((rep kd fr to (lbL len) dd sj qq (cset st ab) na).1.1.testBit k)), ?_, th_at, rfl, rfl, QF_th (by omega)⟩
      cases (rep kd fr to (lbL len) dd sj qq (cset st ab) na).1.1.testBit k <;> rfl
  · refine JB_ex (S1 := S) (v := 0) (c := 1) (k := 1) (w := 0) ?_ (by decide) (by decide) (fun v => rfl) ?_ hI
    · unfold f_X7_isThere
      rw [rSh_n c2.1 hn]
      rfl
    · unfold f_X8_isThere f_X8_isThere_b14 f_X8_isThere_b35 f_X8_isThere_b36
      simp only [isSh8 m2.2.1.2.1, isN_no hn (by omega), bsm, zb, can8, d10, nz_0, if_true]
theorem j_isInForce {S : HS} (h : Inv S) (p : Int32) : JB (f_L_isInForce p S) (f_X8_isInForce p) := by
  obtain ⟨sp, ns, nr, na, ne, nm, lt, len, fr, to, sj, dr, ab, st, lby, se, trn, txt, kd, dd, qq, h⟩ := h
  have hI := I0_inv h
  have h0 := h
  obtain ⟨⟨g1, g2⟩, ⟨c1, c2, c3, c4, c5⟩, ⟨m1, m2, m3, m4⟩⟩ := h
  obtain ⟨gW, gA, gT, gK, gL, gB⟩ := g2
  have hna := gT.1
  have hns := gW.2.1
  have hnr := gW.1
  rw [wr_isInForce]
  obtain ⟨hAI, -, -, -⟩ := rep_ok (set := cset st ab) gW gA na (Nat.le_refl _)
  have hfo := fok_lt hAI.2.1 gW.1
  obtain ⟨⟨b, b', hRB, hCB⟩, hV⟩ := c3
  have hob : oc b = some 0 := HL_oc (Or.inl ⟨rfl, rfl⟩) (RB_lo hRB)
  rcases in_or p nr (by omega) with ⟨k, hk, rfl⟩ | hn
  · refine JB_v (b := (rep kd fr to (lbL len) dd sj qq (cset st ab) na).1.2.1.testBit k) ?_ hI (fun T hQ hT => ?_)
    · unfold f_X7_isInForce
      simp only [rRu_y c2.2.1 hk (by omega), bsm, if_true, hRB.1, rf_some hob, hCB.2.1, hasI7 S (show (rep kd fr to (lbL len) dd sj qq (cset st ab) na).1.2.1 < 2 ^ 31 by omega) (show k < 62 by omega), nz_bI]
    · have e7 : T.1 36 7 = nI nr := by rw [hT]; exact m2.2.1.1
      have e22 : (sI T 36 36 0).1 36 22 = nI (rep kd fr to (lbL len) dd sj qq (cset st ab) na).1.2.1 := by rw [th_k (by omega), hT]; exact m3.1.2.1
      unfold f_X8_isInForce f_X8_isInForce_b14 f_X8_isInForce_b35 f_X8_isInForce_b36
      simp only [isRu8 e7, isN_yes hk (by omega), bsm, ob, can8, d00, decide_true, e22, has8 _ (show (rep kd fr to (lbL len) dd sj qq (cset st ab) na).1.2.1 < 2 ^ 31 by omega) (show k < 31 by omega), ifb, nz_0, nz_1, if_true]
      refine ⟨(sI T 36 36 0, bI ((rep kd fr to (lbL len) dd sj qq (cset st ab) na).1.2.1.testBit k)), ?_, th_at, rfl, rfl, QF_th (by omega)⟩
      cases (rep kd fr to (lbL len) dd sj qq (cset st ab) na).1.2.1.testBit k <;> rfl
  · refine JB_ex (S1 := S) (v := 0) (c := 1) (k := 1) (w := 0) ?_ (by decide) (by decide) (fun v => rfl) ?_ hI
    · unfold f_X7_isInForce
      rw [rRu_n c2.2.1 hn]
      rfl
    · unfold f_X8_isInForce f_X8_isInForce_b14 f_X8_isInForce_b35 f_X8_isInForce_b36
      simp only [isRu8 m2.2.1.1, isN_no hn (by omega), bsm, zb, can8, d10, nz_0, if_true]
/-- a number of a shape in the model -/
theorem numOf8 {T : HS} {A : AB} {ns : Nat} (e2 : T.1 36 2 = nI ns) (hns : ns ≤ 10) (e20 : T.1 36 20 = nI A.1) (hth : A.1 < 2 ^ 10) (hN : rpN A.1 A.2.2.1 (T.1 53)) (hA : ∀ k, A.1.testBit k = true → k < ns) (p1 p2 : Int32) : (∃ k w, k < ns ∧ w < 4 ∧ p1 = nI k ∧ p2 = nI w ∧ A.1.testBit k = true ∧ f_X8_numberOf p1 p2 T = some (sI T 36 36 0, A.2.2.1 k w)) ∨ (∃ k w, k < ns ∧ w < 4 ∧ p1 = nI k ∧ p2 = nI w ∧ A.1.testBit k = false ∧ f_X8_numberOf p1 p2 T = some (sI T 36 36 3, 0)) ∨ (∃ k, k < ns ∧ p1 = nI k ∧ (p2 < 0 ∨ ¬ p2 < 4) ∧ f_X8_numberOf p1 p2 T = some (sI T 36 36 2, 0)) ∨ ((p1 < 0 ∨ ¬ p1 < nI ns) ∧ f_X8_numberOf p1 p2 T = some (sI T 36 36 1, 0)) := by
  unfold f_X8_numberOf f_X8_numberOf_b41 f_X8_numberOf_b64
  rcases in_or p1 ns (by omega) with ⟨k, hk, rfl⟩ | hn
  · rcases dr_or p2 with ⟨w, hw, rfl⟩ | ⟨hw, hb⟩
    · cases ht : A.1.testBit k with
      | true =>
        refine Or.inl ⟨k, w, hk, hw, rfl, rfl, ht, ?_⟩
        have e53 : (sI T 36 36 0).1 53 (4 * k + w) = A.2.2.1 k w := by rw [th_o (by omega)]; exact hN k w ht hw
        simp only [isSh8 e2, isN_yes hk (by omega), bsm, ob, isIn8, isDr_yes hw, e20, has8 _ (show A.1 < 2 ^ 31 by omega) (show k < 31 by omega), ht, can8, d00, decide_true, idx4, if_pos (ib_nI (show 4 * k + w < 40 by omega) (by omega)), nI_cl (show 4 * k + w < 2 ^ 31 by omega), e53]
      | false =>
        refine Or.inr (Or.inl ⟨k, w, hk, hw, rfl, rfl, ht, ?_⟩)
        simp only [isSh8 e2, isN_yes hk (by omega), bsm, ob, zb, isIn8, isDr_yes hw, e20, has8 _ (show A.1 < 2 ^ 31 by omega) (show k < 31 by omega), ht, can8, d30]
    · refine Or.inr (Or.inr (Or.inl ⟨k, hk, rfl, hw, ?_⟩))
      simp only [isSh8 e2, isN_yes hk (by omega), bsm, ob, zb, isIn8, hb, can8, d20]
  · refine Or.inr (Or.inr (Or.inr ⟨hn, ?_⟩))
    simp only [isSh8 e2, isN_no hn (by omega), bsm, zb, can8, d10]
theorem numB7 {S : HS} {b k w : Nat} {A : AB} {kd : Nat → Int32} (hob : oc b = some 0) (hCB : CB S b kd A) (hk : k < 10) (hw : w < 4) (ht : A.1.testBit k = true) : f_X0_numberOf b (nI k) (nI w) S = some (A.2.2.1 k w) := by
  rw [num7 hob hk hw, hCB.2.2.1 k w ht hw]
theorem j_number {S : HS} (h : Inv S) (p1 p2 : Int32) : J (f_L_number p1 p2 S) (f_X8_number p1 p2) := by
  obtain ⟨sp, ns, nr, na, ne, nm, lt, len, fr, to, sj, dr, ab, st, lby, se, trn, txt, kd, dd, qq, h⟩ := h
  have hI := I0_inv h
  have h0 := h
  obtain ⟨⟨g1, g2⟩, ⟨c1, c2, c3, c4, c5⟩, ⟨m1, m2, m3, m4⟩⟩ := h
  obtain ⟨gW, gA, gT, gK, gL, gB⟩ := g2
  have hna := gT.1
  have hns := gW.2.1
  have hnr := gW.1
  rw [wr_number]
  obtain ⟨hAI, -, -, -⟩ := rep_ok (set := cset st ab) gW gA na (Nat.le_refl _)
  have hth := AI_th gW hAI
  obtain ⟨⟨b, b', hRB, hCB⟩, hV⟩ := c3
  have hob : oc b = some 0 := HL_oc (Or.inl ⟨rfl, rfl⟩) (RB_lo hRB)
  have hm := fun (T : HS) (hT : T.1 = S.1) => numOf8 (T := T) (A := (rep kd fr to (lbL len) dd sj qq (cset st ab) na).1) (ns := ns) (by rw [hT]; exact m2.2.1.2.1) hns (by rw [hT]; exact m3.1.1) hth (by rw [hT]; exact m3.1.2.2.1) hAI.1 p1 p2
  have h8 : ∀ {T : HS} {r : HS × Int32}, f_X8_numberOf p1 p2 T = some r → f_X8_number p1 p2 T = some r := fun {T r} q => by
    unfold f_X8_number
    rw [q]
    rfl
  rcases hm S rfl with ⟨k, w, hk, hw, rfl, rfl, ht, -⟩ | ⟨k, w, hk, hw, rfl, rfl, ht, q⟩ | ⟨k, hk, rfl, hw, q⟩ | ⟨hn, q⟩
  · refine J_v (v := (rep kd fr to (lbL len) dd sj qq (cset st ab) na).1.2.2.1 k w) ?_ hI (fun T hQ hT => ?_)
    · unfold f_X7_number
      simp only [rSh_y c2.1 hk (by omega), bsm, if_true, rWh_y hw, hRB.1, rf_some hob, rOn hCB.1 (show (rep kd fr to (lbL len) dd sj qq (cset st ab) na).1.1 < 2 ^ 31 by omega) (show k < 62 by omega), ht, numB7 hob hCB (show k < 10 by omega) hw ht]
    · rcases hm T hT with ⟨k2, w2, hk2, hw2, e1, e2, ht2, q⟩ | ⟨k2, w2, hk2, hw2, e1, e2, ht2, -⟩ | ⟨k2, hk2, e1, hw2, -⟩ | ⟨hn2, -⟩
      · rw [h8 q]
        have := (nI_eq (show k < 2 ^ 31 by omega) (show k2 < 2 ^ 31 by omega)).mp e1
        have := (nI_eq (show w < 2 ^ 31 by omega) (show w2 < 2 ^ 31 by omega)).mp e2
        subst k2 w2
        exact ⟨_, rfl, th_at, rfl, rfl, QF_th (by omega)⟩
      · have := (nI_eq (show k < 2 ^ 31 by omega) (show k2 < 2 ^ 31 by omega)).mp e1
        subst k2
        rw [ht] at ht2
        exact absurd ht2 (by decide)
      · rcases hw2 with q | q
        · exact absurd q (nI_pos (by omega))
        · exact absurd (show nI w < (4 : Int32) from lt_nI (n := 4) hw (by decide)) q
      · rcases hn2 with q | q
        · exact absurd q (nI_pos (by omega))
        · exact absurd (lt_nI hk (by omega)) q
  · refine J_ex (S1 := S) (v := 0) (c := 4) (k := 3) (w := 0) ?_ (by decide) (by decide) (fun v => rfl) (h8 q) hI
    unfold f_X7_number
    simp only [rSh_y c2.1 hk (by omega), bsm, if_true, rWh_y hw, hRB.1, rf_some hob, rOn hCB.1 (show (rep kd fr to (lbL len) dd sj qq (cset st ab) na).1.1 < 2 ^ 31 by omega) (show k < 62 by omega), ht]
    rfl
  · refine J_ex (S1 := S) (v := 0) (c := 2) (k := 2) (w := 0) ?_ (by decide) (by decide) (fun v => rfl) (h8 q) hI
    unfold f_X7_number
    simp only [rSh_y c2.1 hk (by omega), bsm, if_true, rWh_n hw]
    rfl
  · refine J_ex (S1 := S) (v := 0) (c := 1) (k := 1) (w := 0) ?_ (by decide) (by decide) (fun v => rfl) (h8 q) hI
    unfold f_X7_number
    rw [rSh_n c2.1 hn]
    rfl
