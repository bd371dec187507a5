/-! calls that ask, in the class alone -/
section
variable {S : HS} {sp ns nr na ne nm : Nat} {lt len fr to sj dr ab st lby se : Nat → Nat} {trn : Nat → Bool} {txt : Nat → Nat → Nat} {kd dd : Nat → Int32} {qq : Nat → Nat → Int32}
theorem V_lt (h : CI S sp ns nr na ne nm lt len fr to sj dr ab st lby se trn txt kd dd qq) : (rep kd fr to (lbL len) dd sj qq (cset st ab) na).2 < 2 ^ 62 := by
  have h0 := h
  obtain ⟨⟨g1, g2⟩, ⟨c1, c2, c3, c4, c5⟩⟩ := h
  obtain ⟨gW, gA, gT, gK, gL, gB⟩ := g2
  have hna := gT.1
  have hns := gW.2.1
  have hnr := gW.1
  obtain ⟨hAI, hAs, hVlt, hVs⟩ := rep_ok (set := cset st ab) gW gA na (Nat.le_refl _)
  have hth := AI_th gW hAI
  have hfo := fok_lt hAI.2.1 gW.1
  have hV62 : (rep kd fr to (lbL len) dd sj qq (cset st ab) na).2 < 2 ^ 62 := Nat.lt_of_lt_of_le hVlt (Nat.pow_le_pow_right (by omega) (by omega))
  obtain ⟨⟨b, b', hRB, hCB⟩, hV⟩ := c3
  have hob : oc b = some 0 := HL_oc (Or.inl ⟨rfl, rfl⟩) (RB_lo hRB)
  exact hV62
theorem k_acts (h : CI S sp ns nr na ne nm lt len fr to sj dr ab st lby se trn txt kd dd qq) : f_X7_acts S = some (nI na) := by
  have h0 := h
  obtain ⟨⟨g1, g2⟩, ⟨c1, c2, c3, c4, c5⟩⟩ := h
  obtain ⟨gW, gA, gT, gK, gL, gB⟩ := g2
  have hna := gT.1
  have hns := gW.2.1
  have hnr := gW.1
  unfold f_X7_acts
  rw [c2.2.2.2.2.2.1]
theorem k_counts (h : CI S sp ns nr na ne nm lt len fr to sj dr ab st lby se trn txt kd dd qq) {k : Nat} (hk : k < na) : f_X7_counts (nI k) S = some (S, (0, bI ((cset st ab).testBit k))) := by
  have h0 := h
  obtain ⟨⟨g1, g2⟩, ⟨c1, c2, c3, c4, c5⟩⟩ := h
  obtain ⟨gW, gA, gT, gK, gL, gB⟩ := g2
  have hna := gT.1
  have hns := gW.2.1
  have hnr := gW.1
  have hC := c2.2.2.2.2.2
  have := cset_60 gT
  unfold f_X7_counts
  simp only [rAc_y hC.1 hk (by omega), bsm, if_true, counting7 hC gT, has7 S (show cset st ab < 2 ^ 62 by omega) (show k < 62 by omega), nz_bI]
theorem k_isVoid (h : CI S sp ns nr na ne nm lt len fr to sj dr ab st lby se trn txt kd dd qq) {k : Nat} (hk : k < na) : f_X7_isVoid (nI k) S = some (S, (0, bI ((rep kd fr to (lbL len) dd sj qq (cset st ab) na).2.testBit k))) := by
  have h0 := h
  obtain ⟨⟨g1, g2⟩, ⟨c1, c2, c3, c4, c5⟩⟩ := h
  obtain ⟨gW, gA, gT, gK, gL, gB⟩ := g2
  have hna := gT.1
  have hns := gW.2.1
  have hnr := gW.1
  obtain ⟨hAI, hAs, hVlt, hVs⟩ := rep_ok (set := cset st ab) gW gA na (Nat.le_refl _)
  have hth := AI_th gW hAI
  have hfo := fok_lt hAI.2.1 gW.1
  have hV62 : (rep kd fr to (lbL len) dd sj qq (cset st ab) na).2 < 2 ^ 62 := Nat.lt_of_lt_of_le hVlt (Nat.pow_le_pow_right (by omega) (by omega))
  obtain ⟨⟨b, b', hRB, hCB⟩, hV⟩ := c3
  have hob : oc b = some 0 := HL_oc (Or.inl ⟨rfl, rfl⟩) (RB_lo hRB)
  unfold f_X7_isVoid
  simp only [rAc_y c2.2.2.2.2.2.1 hk (by omega), bsm, if_true, hV, has7 S hV62 (show k < 62 by omega), nz_bI]
theorem k_isThere (h : CI S sp ns nr na ne nm lt len fr to sj dr ab st lby se trn txt kd dd qq) {k : Nat} (hk : k < ns) : f_X7_isThere (nI k) S = some (S, (0, bI ((rep kd fr to (lbL len) dd sj qq (cset st ab) na).1.1.testBit k))) := by
  have h0 := h
  obtain ⟨⟨g1, g2⟩, ⟨c1, c2, c3, c4, c5⟩⟩ := h
  obtain ⟨gW, gA, gT, gK, gL, gB⟩ := g2
  have hna := gT.1
  have hns := gW.2.1
  have hnr := gW.1
  obtain ⟨hAI, hAs, hVlt, hVs⟩ := rep_ok (set := cset st ab) gW gA na (Nat.le_refl _)
  have hth := AI_th gW hAI
  have hfo := fok_lt hAI.2.1 gW.1
  have hV62 : (rep kd fr to (lbL len) dd sj qq (cset st ab) na).2 < 2 ^ 62 := Nat.lt_of_lt_of_le hVlt (Nat.pow_le_pow_right (by omega) (by omega))
  obtain ⟨⟨b, b', hRB, hCB⟩, hV⟩ := c3
  have hob : oc b = some 0 := HL_oc (Or.inl ⟨rfl, rfl⟩) (RB_lo hRB)
  unfold f_X7_isThere
  simp only [rSh_y c2.1 hk (by omega), bsm, if_true, hRB.1, rf_some hob, hCB.1, hasI7 S (show (rep kd fr to (lbL len) dd sj qq (cset st ab) na).1.1 < 2 ^ 31 by omega) (show k < 62 by omega), nz_bI]
theorem k_force (h : CI S sp ns nr na ne nm lt len fr to sj dr ab st lby se trn txt kd dd qq) {k : Nat} (hk : k < nr) : f_X7_isInForce (nI k) S = some (S, (0, bI ((rep kd fr to (lbL len) dd sj qq (cset st ab) na).1.2.1.testBit k))) := by
  have h0 := h
  obtain ⟨⟨g1, g2⟩, ⟨c1, c2, c3, c4, c5⟩⟩ := h
  obtain ⟨gW, gA, gT, gK, gL, gB⟩ := g2
  have hna := gT.1
  have hns := gW.2.1
  have hnr := gW.1
  obtain ⟨hAI, hAs, hVlt, hVs⟩ := rep_ok (set := cset st ab) gW gA na (Nat.le_refl _)
  have hth := AI_th gW hAI
  have hfo := fok_lt hAI.2.1 gW.1
  have hV62 : (rep kd fr to (lbL len) dd sj qq (cset st ab) na).2 < 2 ^ 62 := Nat.lt_of_lt_of_le hVlt (Nat.pow_le_pow_right (by omega) (by omega))
  obtain ⟨⟨b, b', hRB, hCB⟩, hV⟩ := c3
  have hob : oc b = some 0 := HL_oc (Or.inl ⟨rfl, rfl⟩) (RB_lo hRB)
  unfold f_X7_isInForce
  simp only [rRu_y c2.2.1 hk (by omega), bsm, if_true, hRB.1, rf_some hob, hCB.2.1, hasI7 S (show (rep kd fr to (lbL len) dd sj qq (cset st ab) na).1.2.1 < 2 ^ 31 by omega) (show k < 62 by omega), nz_bI]
theorem k_branches (h : CI S sp ns nr na ne nm lt len fr to sj dr ab st lby se trn txt kd dd qq) {d : Nat} (hd : d < 4) : f_X7_branches (nI d) S = some (S, (0, nI (fb_ct (brn dr ab st d) na))) := by
  have h0 := h
  obtain ⟨⟨g1, g2⟩, ⟨c1, c2, c3, c4, c5⟩⟩ := h
  obtain ⟨gW, gA, gT, gK, gL, gB⟩ := g2
  have hna := gT.1
  have hns := gW.2.1
  have hnr := gW.1
  unfold f_X7_branches
  simp only [rDr_y hd, bsm, if_true, branches7 c2.2.2.2.2.2 gT hd]
theorem k_below (h : CI S sp ns nr na ne nm lt len fr to sj dr ab st lby se trn txt kd dd qq) {d : Nat} (hd : d < 4) : f_X7_below (nI d) S = some (S, (0, nI (fb_ct (blw dr ab st d) na))) := by
  have h0 := h
  obtain ⟨⟨g1, g2⟩, ⟨c1, c2, c3, c4, c5⟩⟩ := h
  obtain ⟨gW, gA, gT, gK, gL, gB⟩ := g2
  have hna := gT.1
  have hns := gW.2.1
  have hnr := gW.1
  unfold f_X7_below
  simp only [rDr_y hd, bsm, if_true, below7 c2.2.2.2.2.2 gT hd]
theorem k_stands (h : CI S sp ns nr na ne nm lt len fr to sj dr ab st lby se trn txt kd dd qq) {d : Nat} (hd : d < 4) : f_X7_standsAt (nI d) S = some (S, (0, cI (st d))) := by
  have h0 := h
  obtain ⟨⟨g1, g2⟩, ⟨c1, c2, c3, c4, c5⟩⟩ := h
  obtain ⟨gW, gA, gT, gK, gL, gB⟩ := g2
  have hna := gT.1
  have hns := gW.2.1
  have hnr := gW.1
  unfold f_X7_standsAt
  simp only [rDr_y hd, bsm, if_true, stand7 S hd, c2.2.2.2.2.2.2.2 d hd]
theorem k_on_n (h : CI S sp ns nr na ne nm lt len fr to sj dr ab st lby se trn txt kd dd qq) {d : Nat} (hd : d < 4) {p : Int32} (hp : fbr dr ab st d p na = 0) : f_X7_on (nI d) p S = some (S, (1, 0)) := by
  have h0 := h
  obtain ⟨⟨g1, g2⟩, ⟨c1, c2, c3, c4, c5⟩⟩ := h
  obtain ⟨gW, gA, gT, gK, gL, gB⟩ := g2
  have hna := gT.1
  have hns := gW.2.1
  have hnr := gW.1
  unfold f_X7_on
  simp only [rDr_y hd, bsm, if_true, branchOf7 c2.2.2.2.2.2 gT hd p, hp, if_pos (show cI 0 = (-1 : Int32) from rfl)]
theorem k_number_y (h : CI S sp ns nr na ne nm lt len fr to sj dr ab st lby se trn txt kd dd qq) {k w : Nat} (hk : k < ns) (hw : w < 4) (ht : (rep kd fr to (lbL len) dd sj qq (cset st ab) na).1.1.testBit k = true) : f_X7_number (nI k) (nI w) S = some (S, (0, (rep kd fr to (lbL len) dd sj qq (cset st ab) na).1.2.2.1 k w)) := by
  have h0 := h
  obtain ⟨⟨g1, g2⟩, ⟨c1, c2, c3, c4, c5⟩⟩ := h
  obtain ⟨gW, gA, gT, gK, gL, gB⟩ := g2
  have hna := gT.1
  have hns := gW.2.1
  have hnr := gW.1
  obtain ⟨hAI, hAs, hVlt, hVs⟩ := rep_ok (set := cset st ab) gW gA na (Nat.le_refl _)
  have hth := AI_th gW hAI
  have hfo := fok_lt hAI.2.1 gW.1
  have hV62 : (rep kd fr to (lbL len) dd sj qq (cset st ab) na).2 < 2 ^ 62 := Nat.lt_of_lt_of_le hVlt (Nat.pow_le_pow_right (by omega) (by omega))
  obtain ⟨⟨b, b', hRB, hCB⟩, hV⟩ := c3
  have hob : oc b = some 0 := HL_oc (Or.inl ⟨rfl, rfl⟩) (RB_lo hRB)
  unfold f_X7_number
  simp only [rSh_y c2.1 hk (by omega), bsm, if_true, rWh_y hw, hRB.1, rf_some hob, rOn hCB.1 (show (rep kd fr to (lbL len) dd sj qq (cset st ab) na).1.1 < 2 ^ 31 by omega) (show k < 62 by omega), ht, numB7 hob hCB (show k < 10 by omega) hw ht]
theorem k_number_n (h : CI S sp ns nr na ne nm lt len fr to sj dr ab st lby se trn txt kd dd qq) {k w : Nat} (hk : k < ns) (hw : w < 4) (ht : (rep kd fr to (lbL len) dd sj qq (cset st ab) na).1.1.testBit k = false) : f_X7_number (nI k) (nI w) S = some (S, (4, 0)) := by
  have h0 := h
  obtain ⟨⟨g1, g2⟩, ⟨c1, c2, c3, c4, c5⟩⟩ := h
  obtain ⟨gW, gA, gT, gK, gL, gB⟩ := g2
  have hna := gT.1
  have hns := gW.2.1
  have hnr := gW.1
  obtain ⟨hAI, hAs, hVlt, hVs⟩ := rep_ok (set := cset st ab) gW gA na (Nat.le_refl _)
  have hth := AI_th gW hAI
  have hfo := fok_lt hAI.2.1 gW.1
  have hV62 : (rep kd fr to (lbL len) dd sj qq (cset st ab) na).2 < 2 ^ 62 := Nat.lt_of_lt_of_le hVlt (Nat.pow_le_pow_right (by omega) (by omega))
  obtain ⟨⟨b, b', hRB, hCB⟩, hV⟩ := c3
  have hob : oc b = some 0 := HL_oc (Or.inl ⟨rfl, rfl⟩) (RB_lo hRB)
  unfold f_X7_number
  simp only [rSh_y c2.1 hk (by omega), bsm, if_true, rWh_y hw, hRB.1, rf_some hob, rOn hCB.1 (show (rep kd fr to (lbL len) dd sj qq (cset st ab) na).1.1 < 2 ^ 31 by omega) (show k < 62 by omega), ht]
  rfl
theorem k_part_y (h : CI S sp ns nr na ne nm lt len fr to sj dr ab st lby se trn txt kd dd qq) {k w : Nat} (hk : k < ns) (hw : w < 2) (ht : (rep kd fr to (lbL len) dd sj qq (cset st ab) na).1.1.testBit k = true) : f_X7_part (nI k) (nI (1 - w)) S = some (S, (0, nI (fb_ct (fun i => (clo (lkf (rep kd fr to (lbL len) dd sj qq (cset st ab) na).1.2.1 kd w) fr to k).testBit i) 12))) := by
  have h0 := h
  obtain ⟨⟨g1, g2⟩, ⟨c1, c2, c3, c4, c5⟩⟩ := h
  obtain ⟨gW, gA, gT, gK, gL, gB⟩ := g2
  have hna := gT.1
  have hns := gW.2.1
  have hnr := gW.1
  obtain ⟨hAI, hAs, hVlt, hVs⟩ := rep_ok (set := cset st ab) gW gA na (Nat.le_refl _)
  have hth := AI_th gW hAI
  have hfo := fok_lt hAI.2.1 gW.1
  have hV62 : (rep kd fr to (lbL len) dd sj qq (cset st ab) na).2 < 2 ^ 62 := Nat.lt_of_lt_of_le hVlt (Nat.pow_le_pow_right (by omega) (by omega))
  obtain ⟨⟨b, b', hRB, hCB⟩, hV⟩ := c3
  have hob : oc b = some 0 := HL_oc (Or.inl ⟨rfl, rfl⟩) (RB_lo hRB)
  have hcl : clo (lkf (rep kd fr to (lbL len) dd sj qq (cset st ab) na).1.2.1 kd w) fr to k < 2 ^ 12 := by
    have := clo_lt (RW_ok (w := w) gW hAI.2.1) (show k < 10 by omega)
    omega
  have hw1 : ∀ t1 t2, (if nI (1 - w) = 0 then f_X7_part_b34 t1 t2 S b (nI k) (1 : Int32) else f_X7_part_b34 t1 t2 S b (nI k) (0 : Int32)) = f_X7_part_b34 t1 t2 S b (nI k) (nI w) := by
    intro t1 t2
    match w, hw with
    | 0, _ => rw [if_neg (show ¬ nI (1 - 0) = 0 from by decide)]; rfl
    | 1, _ => rw [if_pos (show nI (1 - 1) = 0 from by decide)]; rfl
  unfold f_X7_part
  simp only [rSh_y c2.1 hk (by omega), bsm, if_true, hRB.1, rf_some hob, rOn hCB.1 (show (rep kd fr to (lbL len) dd sj qq (cset st ab) na).1.1 < 2 ^ 31 by omega) (show k < 62 by omega), ht, hw1]
  unfold f_X7_part_b34
  rw [group7 hCB.2.1 c2.2.2.2.1 hAI.2.1 (show k < 10 by omega) (show w < 4 by omega), bsm, bitc7 S hcl]
  rfl
theorem k_part_n (h : CI S sp ns nr na ne nm lt len fr to sj dr ab st lby se trn txt kd dd qq) {k : Nat} {p : Int32} (hk : k < ns) (ht : (rep kd fr to (lbL len) dd sj qq (cset st ab) na).1.1.testBit k = false) : f_X7_part (nI k) p S = some (S, (4, 0)) := by
  have h0 := h
  obtain ⟨⟨g1, g2⟩, ⟨c1, c2, c3, c4, c5⟩⟩ := h
  obtain ⟨gW, gA, gT, gK, gL, gB⟩ := g2
  have hna := gT.1
  have hns := gW.2.1
  have hnr := gW.1
  obtain ⟨hAI, hAs, hVlt, hVs⟩ := rep_ok (set := cset st ab) gW gA na (Nat.le_refl _)
  have hth := AI_th gW hAI
  have hfo := fok_lt hAI.2.1 gW.1
  have hV62 : (rep kd fr to (lbL len) dd sj qq (cset st ab) na).2 < 2 ^ 62 := Nat.lt_of_lt_of_le hVlt (Nat.pow_le_pow_right (by omega) (by omega))
  obtain ⟨⟨b, b', hRB, hCB⟩, hV⟩ := c3
  have hob : oc b = some 0 := HL_oc (Or.inl ⟨rfl, rfl⟩) (RB_lo hRB)
  unfold f_X7_part
  simp only [rSh_y c2.1 hk (by omega), bsm, if_true, hRB.1, rf_some hob, rOn hCB.1 (show (rep kd fr to (lbL len) dd sj qq (cset st ab) na).1.1 < 2 ^ 31 by omega) (show k < 62 by omega), ht]
  rfl
theorem k_broken (h : CI S sp ns nr na ne nm lt len fr to sj dr ab st lby se trn txt kd dd qq) : f_X7_broken S = some (nI (fb_ct (fun k => (rep kd fr to (lbL len) dd sj qq (cset st ab) na).2.testBit (lby k)) nr)) := by
  have h0 := h
  obtain ⟨⟨g1, g2⟩, ⟨c1, c2, c3, c4, c5⟩⟩ := h
  obtain ⟨gW, gA, gT, gK, gL, gB⟩ := g2
  have hna := gT.1
  have hns := gW.2.1
  have hnr := gW.1
  obtain ⟨hAI, hAs, hVlt, hVs⟩ := rep_ok (set := cset st ab) gW gA na (Nat.le_refl _)
  have hth := AI_th gW hAI
  have hfo := fok_lt hAI.2.1 gW.1
  have hV62 : (rep kd fr to (lbL len) dd sj qq (cset st ab) na).2 < 2 ^ 62 := Nat.lt_of_lt_of_le hVlt (Nat.pow_le_pow_right (by omega) (by omega))
  obtain ⟨⟨b, b', hRB, hCB⟩, hV⟩ := c3
  have hob : oc b = some 0 := HL_oc (Or.inl ⟨rfl, rfl⟩) (RB_lo hRB)
  have hc : f_X7_broken S = some (nI (fb_ct (fun a => (rep kd fr to (lbL len) dd sj qq (cset st ab) na).2.testBit a && decide (dd a = 3)) 60)) := by
    unfold f_X7_broken f_X7_broken_b4
    refine fx_run 60 (fun i => (nI (fb_ct (fun a => (rep kd fr to (lbL len) dd sj qq (cset st ab) na).2.testBit a && decide (dd a = 3)) i), nI i)) ?_ ?_ (FU_gt (by omega)) rfl
    · intro i rec hi
      unfold F_X7_broken_b4 f_X7_broken_b39
      dsimp only
      rw [if_neg (le60n hi), hV, has7 S hV62 (by omega), bsm, ifb, nI_1, nI_1, fb_ct_succ]
      cases hv : (rep kd fr to (lbL len) dd sj qq (cset st ab) na).2.testBit i with
      | false => rw [if_neg (by decide)]; rfl
      | true =>
        have hin : i < na := by
          rcases Nat.lt_or_ge i na with h | h
          · exact h
          · rw [V_out hVlt h] at hv; exact absurd hv (by decide)
        have hd : f_X6_deedOf (nI i) S = some (dd i) := by
          unfold f_X6_deedOf
          rw [read7 S 10 (by show i < 60; omega) (by decide), bsm, (c2.2.2.2.2.1 i hin).1]
        rw [if_pos rfl, hd, bsm]
        by_cases e : dd i = 3
        · rw [if_pos e]; simp [e]
        · rw [if_neg e]; simp [e]
    · intro rec
      unfold F_X7_broken_b4
      dsimp only
      rw [if_pos (by decide)]
  rw [hc, ct_ext (n := na) (fun k hk => by rw [V_out hVlt hk]; rfl) (by omega), gB]
/-- whether a rule holds: in force; or not in force, both shapes there, no tie; or not to be told -/
theorem k_holds_f (h : CI S sp ns nr na ne nm lt len fr to sj dr ab st lby se trn txt kd dd qq) {k : Nat} (hk : k < nr) (hf : (rep kd fr to (lbL len) dd sj qq (cset st ab) na).1.2.1.testBit k = true) : f_X7_holds (nI k) S = some (S, (0, bI true)) := by
  have h0 := h
  obtain ⟨⟨g1, g2⟩, ⟨c1, c2, c3, c4, c5⟩⟩ := h
  obtain ⟨gW, gA, gT, gK, gL, gB⟩ := g2
  have hna := gT.1
  have hns := gW.2.1
  have hnr := gW.1
  obtain ⟨hAI, hAs, hVlt, hVs⟩ := rep_ok (set := cset st ab) gW gA na (Nat.le_refl _)
  have hth := AI_th gW hAI
  have hfo := fok_lt hAI.2.1 gW.1
  have hV62 : (rep kd fr to (lbL len) dd sj qq (cset st ab) na).2 < 2 ^ 62 := Nat.lt_of_lt_of_le hVlt (Nat.pow_le_pow_right (by omega) (by omega))
  obtain ⟨⟨b, b', hRB, hCB⟩, hV⟩ := c3
  have hob : oc b = some 0 := HL_oc (Or.inl ⟨rfl, rfl⟩) (RB_lo hRB)
  obtain ⟨hHI, -, -⟩ := rep_more (set := cset st ab) gW gA na (Nat.le_refl _)
  obtain ⟨r1, r2, r3, r4, r5⟩ := c2.2.2.2.1.2 k hk
  have e7 : f_X7_read 7 (nI k) S = some (nI (fr k)) := by rw [read7 S 7 (by show k < 12; omega) (by decide), r2]
  have e8 : f_X7_read 8 (nI k) S = some (nI (to k)) := by rw [read7 S 8 (by show k < 12; omega) (by decide), r3]
  have e6 : f_X7_read 6 (nI k) S = some (kd k) := by rw [read7 S 6 (by show k < 12; omega) (by decide), r1]
  obtain ⟨ha, hc⟩ := hAI.2.2.1 k hf
  obtain ⟨r, hr, ok, rfl, hok⟩ := fits7 hob hCB c2.2.2.2.1 hk ha hc (fun _ => hf)
  have hok1 : ok = true := hok.mpr (fun w hw hab => by
    have hlk : lkf (rep kd fr to (lbL len) dd sj qq (cset st ab) na).1.2.1 kd w k = true := by unfold lkf; rw [hf, hab]; rfl
    by_cases h2 : w < 2
    · exact i32_sub'.mpr (hHI k w h2 hlk)
    · have := hAI.2.2.2.2.1 k w (by omega) hlk
      have hg : gpA (rep kd fr to (lbL len) dd sj qq (cset st ab) na).1.2.2.1 (rep kd fr to (lbL len) dd sj qq (cset st ab) na).1.2.2.2 kd fr w k = 0 := by
        have h01 : kd k = 0 ∨ kd k = 1 := by
          unfold abt at hab
          rw [if_neg (by omega), if_neg (by omega)] at hab
          by_cases e2 : w = 2
          · rw [if_pos e2] at hab; exact Or.inl (of_decide_eq_true hab)
          · rw [if_neg e2] at hab; exact Or.inr (of_decide_eq_true hab)
        unfold gpA
        rcases h01 with e | e <;> rw [e, if_neg (by decide), if_neg (by decide)]
      rw [hg]
      exact i32_by0.mpr this)
  subst hok1
  have hcls : f_X7_holds (nI k) S = f_X7_holds_b93 (nI k) S := by
    unfold f_X7_holds
    simp only [rRu_y c2.2.1 hk (by omega), bsm, if_true, hRB.1, rf_some hob, e6, e7, e8, rOn hCB.1 (show (rep kd fr to (lbL len) dd sj qq (cset st ab) na).1.1 < 2 ^ 31 by omega) (show fr k < 62 by omega), rOn hCB.1 (show (rep kd fr to (lbL len) dd sj qq (cset st ab) na).1.1 < 2 ^ 31 by omega) (show to k < 62 by omega), ha, hc, hCB.2.1, hasI7 S (show (rep kd fr to (lbL len) dd sj qq (cset st ab) na).1.2.1 < 2 ^ 31 by omega) (show k < 62 by omega), ifb, hf]
    by_cases e : kd k = 6 <;> simp [e]
  rw [hcls]
  unfold f_X7_holds_b93
  rw [hRB.1, rf_some hob, hr, bsm, nz_bI, if_pos rfl]
theorem k_holds_y (h : CI S sp ns nr na ne nm lt len fr to sj dr ab st lby se trn txt kd dd qq) {k : Nat} (hk : k < nr) (ha : (rep kd fr to (lbL len) dd sj qq (cset st ab) na).1.1.testBit (fr k) = true) (hc : (rep kd fr to (lbL len) dd sj qq (cset st ab) na).1.1.testBit (to k) = true) (h6 : kd k ≠ 6) : ∃ v, f_X7_holds (nI k) S = some (S, (0, bI v)) := by
  have h0 := h
  obtain ⟨⟨g1, g2⟩, ⟨c1, c2, c3, c4, c5⟩⟩ := h
  obtain ⟨gW, gA, gT, gK, gL, gB⟩ := g2
  have hna := gT.1
  have hns := gW.2.1
  have hnr := gW.1
  obtain ⟨hAI, hAs, hVlt, hVs⟩ := rep_ok (set := cset st ab) gW gA na (Nat.le_refl _)
  have hth := AI_th gW hAI
  have hfo := fok_lt hAI.2.1 gW.1
  have hV62 : (rep kd fr to (lbL len) dd sj qq (cset st ab) na).2 < 2 ^ 62 := Nat.lt_of_lt_of_le hVlt (Nat.pow_le_pow_right (by omega) (by omega))
  obtain ⟨⟨b, b', hRB, hCB⟩, hV⟩ := c3
  have hob : oc b = some 0 := HL_oc (Or.inl ⟨rfl, rfl⟩) (RB_lo hRB)
  obtain ⟨r1, r2, r3, r4, r5⟩ := c2.2.2.2.1.2 k hk
  have e7 : f_X7_read 7 (nI k) S = some (nI (fr k)) := by rw [read7 S 7 (by show k < 12; omega) (by decide), r2]
  have e8 : f_X7_read 8 (nI k) S = some (nI (to k)) := by rw [read7 S 8 (by show k < 12; omega) (by decide), r3]
  have e6 : f_X7_read 6 (nI k) S = some (kd k) := by rw [read7 S 6 (by show k < 12; omega) (by decide), r1]
  obtain ⟨r, hr, ok, rfl, hok⟩ := fits7 hob hCB c2.2.2.2.1 hk ha hc (fun q => absurd q h6)
  refine ⟨ok, ?_⟩
  have hcls : f_X7_holds (nI k) S = f_X7_holds_b93 (nI k) S := by
    unfold f_X7_holds
    simp only [rRu_y c2.2.1 hk (by omega), bsm, if_true, hRB.1, rf_some hob, e6, e7, e8, rOn hCB.1 (show (rep kd fr to (lbL len) dd sj qq (cset st ab) na).1.1 < 2 ^ 31 by omega) (show fr k < 62 by omega), rOn hCB.1 (show (rep kd fr to (lbL len) dd sj qq (cset st ab) na).1.1 < 2 ^ 31 by omega) (show to k < 62 by omega), ha, hc, hCB.2.1, hasI7 S (show (rep kd fr to (lbL len) dd sj qq (cset st ab) na).1.2.1 < 2 ^ 31 by omega) (show k < 62 by omega), ifb, if_neg h6]
  rw [hcls]
  unfold f_X7_holds_b93
  rw [hRB.1, rf_some hob, hr, bsm, nz_bI, if_pos rfl]
theorem k_holds_n (h : CI S sp ns nr na ne nm lt len fr to sj dr ab st lby se trn txt kd dd qq) {k : Nat} (hk : k < nr) (hf : (rep kd fr to (lbL len) dd sj qq (cset st ab) na).1.2.1.testBit k = false) (hn : (rep kd fr to (lbL len) dd sj qq (cset st ab) na).1.1.testBit (fr k) = false ∨ (rep kd fr to (lbL len) dd sj qq (cset st ab) na).1.1.testBit (to k) = false ∨ kd k = 6) : f_X7_holds (nI k) S = some (S, (4, 0)) := by
  have h0 := h
  obtain ⟨⟨g1, g2⟩, ⟨c1, c2, c3, c4, c5⟩⟩ := h
  obtain ⟨gW, gA, gT, gK, gL, gB⟩ := g2
  have hna := gT.1
  have hns := gW.2.1
  have hnr := gW.1
  obtain ⟨hAI, hAs, hVlt, hVs⟩ := rep_ok (set := cset st ab) gW gA na (Nat.le_refl _)
  have hth := AI_th gW hAI
  have hfo := fok_lt hAI.2.1 gW.1
  have hV62 : (rep kd fr to (lbL len) dd sj qq (cset st ab) na).2 < 2 ^ 62 := Nat.lt_of_lt_of_le hVlt (Nat.pow_le_pow_right (by omega) (by omega))
  obtain ⟨⟨b, b', hRB, hCB⟩, hV⟩ := c3
  have hob : oc b = some 0 := HL_oc (Or.inl ⟨rfl, rfl⟩) (RB_lo hRB)
  obtain ⟨r1, r2, r3, r4, r5⟩ := c2.2.2.2.1.2 k hk
  have e7 : f_X7_read 7 (nI k) S = some (nI (fr k)) := by rw [read7 S 7 (by show k < 12; omega) (by decide), r2]
  have e8 : f_X7_read 8 (nI k) S = some (nI (to k)) := by rw [read7 S 8 (by show k < 12; omega) (by decide), r3]
  have e6 : f_X7_read 6 (nI k) S = some (kd k) := by rw [read7 S 6 (by show k < 12; omega) (by decide), r1]
  unfold f_X7_holds
  cases ha : (rep kd fr to (lbL len) dd sj qq (cset st ab) na).1.1.testBit (fr k) with
  | false =>
    simp only [rRu_y c2.2.1 hk (by omega), bsm, if_true, hRB.1, rf_some hob, e7, rOn hCB.1 (show (rep kd fr to (lbL len) dd sj qq (cset st ab) na).1.1 < 2 ^ 31 by omega) (show fr k < 62 by omega), ha]
    rfl
  | true =>
    cases hc : (rep kd fr to (lbL len) dd sj qq (cset st ab) na).1.1.testBit (to k) with
    | false =>
      simp only [rRu_y c2.2.1 hk (by omega), bsm, if_true, hRB.1, rf_some hob, e7, e8, rOn hCB.1 (show (rep kd fr to (lbL len) dd sj qq (cset st ab) na).1.1 < 2 ^ 31 by omega) (show fr k < 62 by omega), rOn hCB.1 (show (rep kd fr to (lbL len) dd sj qq (cset st ab) na).1.1 < 2 ^ 31 by omega) (show to k < 62 by omega), ha, hc]
      rfl
    | true =>
      have h6 : kd k = 6 := by
        rcases hn with q | q | q
        · rw [ha] at q; exact absurd q (by decide)
        · rw [hc] at q; exact absurd q (by decide)
        · exact q
      simp only [rRu_y c2.2.1 hk (by omega), bsm, if_true, hRB.1, rf_some hob, e6, e7, e8, rOn hCB.1 (show (rep kd fr to (lbL len) dd sj qq (cset st ab) na).1.1 < 2 ^ 31 by omega) (show fr k < 62 by omega), rOn hCB.1 (show (rep kd fr to (lbL len) dd sj qq (cset st ab) na).1.1 < 2 ^ 31 by omega) (show to k < 62 by omega), ha, hc, hCB.2.1, hasI7 S (show (rep kd fr to (lbL len) dd sj qq (cset st ab) na).1.2.1 < 2 ^ 31 by omega) (show k < 62 by omega), ifb, hf, h6]
      simp
/-! all acts anew -/
theorem QF_redo {S' : HS} (hF : FRc 17 24 S S') (hB : ∃ c c', RB S' 17 24 c c') : QF S S' := by
  obtain ⟨f1, f2⟩ := hF
  exact ⟨fun x p _ _ => f1 x (by omega), fun x p => (f2 x p).1, fun x p => (f2 x p).2, fun _ => hB, fun h => by rw [f1 35 (by omega)]; exact h⟩
theorem QF_wT {f : Nat → Int32} {n : Int32} (hc : (∀ i, ch (S.1 35 i) = true) → ∀ i, ch (f i) = true) : QF S (wT S f n) := by
  refine ⟨fun x _ h1 h2 => wT_o h1 h2, fun _ _ => rfl, fun _ _ => rfl, fun h => BN_fr rfl h, fun h => ?_⟩
  rw [wT_f]
  exact hc h
theorem CI_CE (h : CI S sp ns nr na ne nm lt len fr to sj dr ab st lby se trn txt kd dd qq) : CE S na nr ns kd fr to (lbL len) dd sj qq := ⟨h.2.2.1.2.2.2.1, HS1_lb h.2.2.1.2.2.1, h.2.2.1.2.2.2.2.1⟩
theorem redo_CI (h : CI S sp ns nr na ne nm lt len fr to sj dr ab st lby se trn txt kd dd qq) {set : Nat} (hset : ∀ k, set.testBit k = true → k < na) : Ok (f_X3_redo 17 (lN set) S) (fun S' => QF S S' ∧ ∃ b b', RB S' 17 24 b b' ∧ CB S' b kd (rep kd fr to (lbL len) dd sj qq set na).1) := by
  have h0 := h
  obtain ⟨⟨g1, g2⟩, ⟨c1, c2, c3, c4, c5⟩⟩ := h
  obtain ⟨gW, gA, gT, gK, gL, gB⟩ := g2
  have hna := gT.1
  have hns := gW.2.1
  have hnr := gW.1
  obtain ⟨b, b', hB⟩ := c4
  refine Ok.mono (redo7 (Or.inr ⟨rfl, rfl⟩) hB (CI_CE h0) gW gA gT.1 hset) ?_
  rintro S' ⟨hF, ⟨b, b', h1, h2⟩, -⟩
  exact ⟨QF_redo hF ⟨b, b', h1⟩, b, b', h1, h2⟩
theorem k_anew (h : CI S sp ns nr na ne nm lt len fr to sj dr ab st lby se trn txt kd dd qq) {k w : Nat} (hk : k < ns) (hw : w < 4) (ht : (rep kd fr to (lbL len) dd sj qq (cset st ab) na).1.1.testBit k = true) : Ok (f_X7_numberAnew (nI k) (nI w) S) (fun o => o.2 = (0, (rep kd fr to (lbL len) dd sj qq (cset st ab) na).1.2.2.1 k w) ∧ QF S o.1) := by
  have hc4 := h
  have h0 := h
  obtain ⟨⟨g1, g2⟩, ⟨c1, c2, c3, c4, c5⟩⟩ := h
  obtain ⟨gW, gA, gT, gK, gL, gB⟩ := g2
  have hna := gT.1
  have hns := gW.2.1
  have hnr := gW.1
  obtain ⟨hAI, hAs, hVlt, hVs⟩ := rep_ok (set := cset st ab) gW gA na (Nat.le_refl _)
  have hth := AI_th gW hAI
  obtain ⟨S1, hS1, hQ, b, b', hRB, hCB⟩ := redo_CI hc4 (set := cset st ab) (fun k hk => cset_lt gT hk)
  have hob : oc b = some 0 := HL_oc (Or.inr ⟨rfl, rfl⟩) (RB_lo hRB)
  refine ⟨(S1, (0, (rep kd fr to (lbL len) dd sj qq (cset st ab) na).1.2.2.1 k w)), ?_, rfl, hQ⟩
  unfold f_X7_numberAnew
  simp only [rSh_y c2.1 hk (by omega), bsm, if_true, rWh_y hw, counting7 c2.2.2.2.2.2 gT, hS1, hRB.1, rf_some hob, rOn hCB.1 (show (rep kd fr to (lbL len) dd sj qq (cset st ab) na).1.1 < 2 ^ 31 by omega) (show k < 62 by omega), ht, numB7 hob hCB (show k < 10 by omega) hw ht]
/-! exports that are made -/
theorem made_y (h : CI S sp ns nr na ne nm lt len fr to sj dr ab st lby se trn txt kd dd qq) {e : Nat} (he : e < nm) : f_X7_requireMade (nI e) S = some (S, (0, 0)) := by
  have h0 := h
  obtain ⟨⟨g1, g2⟩, ⟨c1, c2, c3, c4, c5⟩⟩ := h
  obtain ⟨gW, gA, gT, gK, gL, gB⟩ := g2
  have hna := gT.1
  have hns := gW.2.1
  have hnr := gW.1
  obtain ⟨s1, s2, s3, s4, s5⟩ := g1
  obtain ⟨x1, x2, x3, x4, x5⟩ := c5
  rcases rMa x1 x2 (by omega) s3 (nI e) with ⟨e', he', q, hr⟩ | ⟨e', he1, he', q, hr⟩ | ⟨hn, hr⟩
  · exact hr
  · have := (nI_eq (show e < 2 ^ 31 by omega) (show e' < 2 ^ 31 by omega)).mp q
    omega
  · rcases hn with q | q
    · exact absurd q (nI_pos (by omega))
    · exact absurd (lt_nI (show e < ne by omega) (by omega)) q
theorem text_ok (h : CI S sp ns nr na ne nm lt len fr to sj dr ab st lby se trn txt kd dd qq) {e : Nat} (he : e < nm) : (TX (rep kd fr to (lbL len) dd sj qq (se e) na).1 len trn txt).length ≤ 328 ∧ S.1 32 e = nI (TX (rep kd fr to (lbL len) dd sj qq (se e) na).1 len trn txt).length ∧ (∀ j, j < (TX (rep kd fr to (lbL len) dd sj qq (se e) na).1 len trn txt).length → S.1 33 (328 * e + j) = nI ((TX (rep kd fr to (lbL len) dd sj qq (se e) na).1 len trn txt).getD j 0)) ∧ ∀ j, j < (TX (rep kd fr to (lbL len) dd sj qq (se e) na).1 len trn txt).length → ch (nI ((TX (rep kd fr to (lbL len) dd sj qq (se e) na).1 len trn txt).getD j 0)) = true := by
  have h0 := h
  obtain ⟨⟨g1, g2⟩, ⟨c1, c2, c3, c4, c5⟩⟩ := h
  obtain ⟨gW, gA, gT, gK, gL, gB⟩ := g2
  have hna := gT.1
  have hns := gW.2.1
  have hnr := gW.1
  obtain ⟨s1, s2, s3, s4, s5⟩ := g1
  obtain ⟨x1, x2, x3, x4, x5⟩ := c5
  obtain ⟨-, z2, z3⟩ := x3 e (by omega)
  exact ⟨TX_len (rep_ok (set := se e) gW gA na (Nat.le_refl _)).1 hns (fun k => (c2.2.2.1.1 k).1), z2, z3, fun j hj => by rw [← z3 j hj]; exact x4 _⟩
theorem k_length (h : CI S sp ns nr na ne nm lt len fr to sj dr ab st lby se trn txt kd dd qq) {e : Nat} (he : e < nm) : f_X7_length (nI e) S = some (S, (0, nI (TX (rep kd fr to (lbL len) dd sj qq (se e) na).1 len trn txt).length)) := by
  obtain ⟨t1, t2, t3, t4⟩ := text_ok h he
  have hr := made_y h he
  have : e < 10 := by have := h.1.1.2.2.1; have := h.1.1.2.2.2.1; omega
  unfold f_X7_length f_X2_charsOf
  simp only [hr, bsm, if_true, read7 S 32 (show e < alen 32 by show e < 10; omega) (by decide), t2]
theorem k_charAt (h : CI S sp ns nr na ne nm lt len fr to sj dr ab st lby se trn txt kd dd qq) {e j : Nat} (he : e < nm) (hj : j < (TX (rep kd fr to (lbL len) dd sj qq (se e) na).1 len trn txt).length) : f_X7_charAt (nI e) (nI j) S = some (S, (0, nI ((TX (rep kd fr to (lbL len) dd sj qq (se e) na).1 len trn txt).getD j 0))) := by
  obtain ⟨t1, t2, t3, t4⟩ := text_ok h he
  have hr := made_y h he
  have h10 : e < 10 := by have := h.1.1.2.2.1; have := h.1.1.2.2.2.1; omega
  have x4 := h.2.2.2.2.2.2.2.2.1
  unfold f_X7_charAt f_X2_charsOf
  simp only [hr, bsm, if_true, if_neg (nI_pos (show j < 2 ^ 31 by omega)), read7 S 32 (show e < alen 32 by show e < 10; omega) (by decide), t2, if_pos (lt_nI hj (show _ < 2 ^ 31 by omega)), sign2 (show e < 10 by omega) (show j < 328 by omega) (x4 _), x4]
  rw [t3 j hj]
theorem k_charAt_n (h : CI S sp ns nr na ne nm lt len fr to sj dr ab st lby se trn txt kd dd qq) {e : Nat} (he : e < nm) : f_X7_charAt (nI e) (nI (TX (rep kd fr to (lbL len) dd sj qq (se e) na).1 len trn txt).length) S = some (S, (4, 0)) := by
  obtain ⟨t1, t2, t3, t4⟩ := text_ok h he
  have hr := made_y h he
  have h10 : e < 10 := by have := h.1.1.2.2.1; have := h.1.1.2.2.2.1; omega
  unfold f_X7_charAt f_X2_charsOf f_X7_charAt_b21
  simp only [hr, bsm, if_true, if_neg (nI_pos (show (TX (rep kd fr to (lbL len) dd sj qq (se e) na).1 len trn txt).length < 2 ^ 31 by omega)), read7 S 32 (show e < alen 32 by show e < 10; omega) (by decide), t2, if_neg (show ¬ nI (TX (rep kd fr to (lbL len) dd sj qq (se e) na).1 len trn txt).length < nI (TX (rep kd fr to (lbL len) dd sj qq (se e) na).1 len trn txt).length from Int32.lt_irrefl)]
theorem k_charAnew (h : CI S sp ns nr na ne nm lt len fr to sj dr ab st lby se trn txt kd dd qq) {e j : Nat} (he : e < nm) (hj : j < (TX (rep kd fr to (lbL len) dd sj qq (se e) na).1 len trn txt).length) : Ok (f_X7_charAnew (nI e) (nI j) S) (fun o => o.2 = (0, nI ((TX (rep kd fr to (lbL len) dd sj qq (se e) na).1 len trn txt).getD j 0)) ∧ QF S o.1) := by
  obtain ⟨t1, t2, t3, t4⟩ := text_ok h he
  have hr := made_y h he
  have hc := h
  have h0 := h
  obtain ⟨⟨g1, g2⟩, ⟨c1, c2, c3, c4, c5⟩⟩ := h
  obtain ⟨gW, gA, gT, gK, gL, gB⟩ := g2
  have hna := gT.1
  have hns := gW.2.1
  have hnr := gW.1
  obtain ⟨s1, s2, s3, s4, s5⟩ := g1
  obtain ⟨x1, x2, x3, x4, x5⟩ := c5
  obtain ⟨z1, -, -⟩ := x3 e (by omega)
  obtain ⟨hAI, -, -, -⟩ := rep_ok (set := se e) gW gA na (Nat.le_refl _)
  obtain ⟨S1, hS1, hQ1, b, b', hRB, hCB⟩ := redo_CI hc (set := se e) (fun k hk => s5 e (by omega) k hk)
  have hI1 := CI_q hc hQ1
  have hob : oc b = some 0 := HL_oc (Or.inr ⟨rfl, rfl⟩) (RB_lo hRB)
  obtain ⟨⟨S2, hS2, f, hf, hf1, hf2⟩, -⟩ := show7 hob hI1.2.2.1.2.2.1 hns hnr hAI hCB
  have hS2f : S2.1 35 = f := by rw [hf]; exact wT_f
  have hS2n : S2.1 34 1 = nI (TX (rep kd fr to (lbL len) dd sj qq (se e) na).1 len trn txt).length := by rw [hf]; exact wT_n
  have hsg : f_X1_signOf (nI j) S2 = some (nI ((TX (rep kd fr to (lbL len) dd sj qq (se e) na).1 len trn txt).getD j 0)) := by
    rw [sign1 (show j < 328 by omega) (by rw [hS2f, hf1 j hj]; exact t4 j hj), hS2f, hf1 j hj]
  refine ⟨(S2, (0, nI ((TX (rep kd fr to (lbL len) dd sj qq (se e) na).1 len trn txt).getD j 0))), ?_, rfl, hQ1.tr (by rw [hf]; exact QF_wT hf2)⟩
  unfold f_X7_charAnew
  simp only [hr, bsm, if_true, acts2 (show e < 10 by omega), z1, hS1, hRB.1, rf_some hob, hS2, if_neg (nI_pos (show j < 2 ^ 31 by omega)), hS2n, if_pos (lt_nI hj (show _ < 2 ^ 31 by omega)), hsg, t4 j hj]
end
