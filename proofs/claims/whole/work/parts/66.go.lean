/-! a drawer goes back, or on -/
section
variable {S : HS} {sp ns nr na ne nm : Nat} {lt len fr to sj dr ab st lby se : Nat → Nat} {trn : Nat → Bool} {txt : Nat → Nat → Nat} {kd dd : Nat → Int32} {qq : Nat → Nat → Int32}
def stA (st : Nat → Nat) (d s : Nat) : Nat → Nat := fun x => if x = d then s else st x
theorem stA_TWF (hT : TWF na dr ab st) {d s : Nat} (hs : s ≤ na) (hd : ∀ j, s = j + 1 → dr j = d) : TWF na dr ab (stA st d s) := by
  refine ⟨hT.1, hT.2.1, fun x hx => ?_⟩
  unfold stA
  by_cases e : x = d
  · rw [if_pos e, e]; exact ⟨hs, hd⟩
  · rw [if_neg e]; exact hT.2.2 x hx
/-- the class: a drawer stands, all acts that count are done anew -/
theorem go7 (h : I0 S sp ns nr na ne nm lt len fr to sj dr ab st lby se trn txt kd dd qq) {d s : Nat} (hd : d < 4) (hs : s ≤ na) (hds : ∀ j, s = j + 1 → dr j = d) : Ok ((f_X6_stand (nI d) (cI s) S).bind (fun o42 => (f_X6_counting o42).bind (fun o53 => (f_X3_redo 16 o53 o42).bind (fun o56 => (f_J13_bitCount_95d88 (o56.2.1 16 3) o56).bind (fun o66 => some ((o56, ((0 : Nat), o66)) : XO)))))) (fun o => o.2.1 = 0 ∧ o.2.2 = nI (fb_ct (fun k => (rep kd fr to (lbL len) dd sj qq (cset (stA st d s) ab) na).2.testBit k) na) ∧ OC o.1 ns nr na len trn txt kd fr to dd sj qq dr ab (stA st d s) ∧ BC o.1 kd (rep kd fr to (lbL len) dd sj qq (cset (stA st d s) ab) na).1 (rep kd fr to (lbL len) dd sj qq (cset (stA st d s) ab) na).2 ∧ (∀ x, x < 2 ∨ 24 ≤ x → o.1.1 x = S.1 x) ∧ (∀ x, x ≠ 16 → o.1.2.1 x = S.2.1 x ∧ o.1.2.2 x = S.2.2 x)) := by
  have h0 := h
  obtain ⟨⟨g1, g2⟩, ⟨c1, c2, c3, c4, c5⟩, -⟩ := h
  obtain ⟨gW, gA, gT, -⟩ := g2
  have hna := gT.1
  obtain ⟨k1, k2, k3, k4, k5, k6⟩ := c2
  obtain ⟨⟨b, b', hRB, hCB⟩, hV⟩ := c3
  have gT' := stA_TWF gT (d := d) hs hds
  have hst : f_X6_stand (nI d) (cI s) S = some (sI S 15 d (cI s)) := by
    unfold f_X6_stand
    rw [put7 S 15 (cI s) (show d < alen 15 from hd) (by decide), bsm]
  rw [hst, bsm]
  generalize hU : sI S 15 d (cI s) = U
  have uf : ∀ x, x ≠ 15 → U.1 x = S.1 x := fun x hx => by rw [← hU]; exact sI_o hx
  have u2 : U.2 = S.2 := by rw [← hU]; rfl
  have uC : CT U na dr ab (stA st d s) := by
    refine ⟨by rw [uf 9 (by omega)]; exact k6.1, by rw [uf 13 (by omega), uf 14 (by omega)]; exact k6.2.1, fun x hx => ?_⟩
    unfold stA
    rw [← hU]
    by_cases e : x = d
    · rw [if_pos e, e, sI_at]
    · rw [if_neg e, sI_k e]; exact k6.2.2 x hx
  have uO : OC U ns nr na len trn txt kd fr to dd sj qq dr ab (stA st d s) := by
    refine ⟨by rw [uf 2 (by omega)]; exact k1, by rw [uf 5 (by omega)]; exact k2, ?_, ?_, fun a ha => ?_, uC⟩
    · unfold HS1 at k3 ⊢
      rw [uf 2 (by omega), uf 3 (by omega), uf 4 (by omega)]; exact k3
    · unfold RC at k4 ⊢
      rw [uf 6 (by omega), uf 7 (by omega), uf 8 (by omega)]; exact k4
    · have := k5 a ha
      unfold TA at this ⊢
      rw [uf 10 (by omega), uf 11 (by omega), uf 12 (by omega)]; exact this
  have uCE : CE U na nr ns kd fr to (lbL len) dd sj qq := ⟨uO.2.2.2.1, HS1_lb uO.2.2.1, uO.2.2.2.2.1⟩
  rw [counting7 uC gT', bsm]
  refine Ok.bind (redo7 (Or.inl ⟨rfl, rfl⟩) (RB_fr (by rw [u2]) hRB) uCE gW gA hna (fun k hk => cset_lt gT' hk)) ?_
  rintro S3 ⟨⟨f1, f2⟩, ⟨c, c', hB, hC⟩, h3⟩
  obtain ⟨-, -, hVlt, -⟩ := rep_ok (set := cset (stA st d s) ab) gW gA na (Nat.le_refl _)
  rw [h3, bitcL S3 (Nat.lt_of_lt_of_le hVlt (Nat.pow_le_pow_right (by omega) (by omega))), bsm]
  refine ⟨_, rfl, rfl, ?_, OC_fr (fun x p q => f1 x (by omega)) uO, ⟨⟨c, c', hB, hC⟩, h3⟩, fun x hx => ?_, fun x hx => ⟨?_, ?_⟩⟩
  · dsimp only
    rw [ct_ext (n := na) (fun k hk => V_out hVlt hk) (by omega)]
  · rw [f1 x (by omega), uf x (by omega)]
  · rw [(f2 x hx).2, u2]
  · rw [(f2 x hx).1, u2]
/-- the model -/
theorem go8 (h : I0 S sp ns nr na ne nm lt len fr to sj dr ab st lby se trn txt kd dd qq) {T : HS} (hT : ∀ x, 36 ≤ x → T.1 x = S.1 x) {d s : Nat} (hd : d < 4) (hs : s ≤ na) (hds : ∀ j, s = j + 1 → dr j = d) : Ok (f_X8_doesAnew (sI (sI T 36 36 0) 52 d (cI s))) (fun r => r.1.1 36 36 = 0 ∧ r.1.2 = T.2 ∧ r.2 = nI (fb_ct (fun k => (rep kd fr to (lbL len) dd sj qq (cset (stA st d s) ab) na).2.testBit k) na) ∧ OM r.1 ns nr na len trn txt kd fr to dd sj qq dr ab (stA st d s) lby ∧ BM r.1 kd na (rep kd fr to (lbL len) dd sj qq (cset (stA st d s) ab) na).1 (rep kd fr to (lbL len) dd sj qq (cset (stA st d s) ab) na).2 ∧ SM r.1 sp lt ∧ EM r.1 ne nm (fun e => (rep kd fr to (lbL len) dd sj qq (se e) na).1) ∧ ∀ x, x < 36 → r.1.1 x = T.1 x) := by
  obtain ⟨⟨g1, g2⟩, -, ⟨m1, m2, m3, m4⟩⟩ := h
  obtain ⟨gW, gA, gT, -⟩ := g2
  have hna := gT.1
  obtain ⟨k1, k2, k3, k4, k5⟩ := m2
  have gT' := stA_TWF gT (d := d) hs hds
  generalize hU : sI (sI T 36 36 0) 52 d (cI s) = U
  have uf : ∀ x, 36 ≤ x → x ≠ 36 → x ≠ 52 → U.1 x = S.1 x := fun x p q r => by rw [← hU, sI_o r, sI_o q, hT x p]
  have ul : ∀ x, x < 36 → U.1 x = T.1 x := fun x p => by rw [← hU, sI_o (by omega), sI_o (by omega)]
  have uk : ∀ k, k ≠ 36 → U.1 36 k = S.1 36 k := fun k hk => by rw [← hU, sI_o (by omega), th_k hk, hT 36 (by omega)]
  have u36 : U.1 36 36 = 0 := by rw [← hU, sI_o (by omega), th_at]
  have u2 : U.2 = T.2 := by rw [← hU]; rfl
  have uT : MT U na dr ab (stA st d s) := by
    refine ⟨by rw [uk 12 (by omega)]; exact k5.1, by rw [uf 46 (by omega) (by omega) (by omega), uf 47 (by omega) (by omega) (by omega)]; exact k5.2.1, fun x hx => ?_⟩
    unfold stA
    rw [← hU]
    by_cases e : x = d
    · rw [if_pos e, e, sI_at]
    · rw [if_neg e, sI_k e, sI_o (by omega), hT 52 (by omega)]; exact k5.2.2 x hx
  have uM : MC U nr nr ns kd fr to (lbL len) := MC_fr2 (uf 38 (by omega) (by omega) (by omega)) (fun x p q => uf x (by omega) (by omega) (by omega)) (uk 2 (by omega)) (uk 7 (by omega)) k2
  have uTM : ∀ a, a < na → TM U a (dd a) (sj a) (qq a) := fun a ha => TM_fr2 (fun x p q => uf x (by omega) (by omega) (by omega)) (k4 a ha)
  refine Ok.mono (does8 uM gW uT gT' gA uTM) ?_
  rintro r ⟨⟨f1, f2, f3⟩, hB, h51, hr2⟩
  refine ⟨by rw [f2 36 (by omega) (by omega) (by omega) (by omega) (by omega), u36], by rw [f3, u2], hr2, ⟨?_, ?_, ?_, fun a ha => ?_, ?_⟩, ⟨hB, h51⟩, ?_, ?_, fun x hx => ?_⟩
  · exact HM1_fr (fun x p q => by rw [f1 x (by omega) (by omega) (by omega) (by omega) (by omega) (by omega), uf x (by omega) (by omega) (by omega)]) k1
  · exact MC_fr2 (f1 38 (by omega) (by omega) (by omega) (by omega) (by omega) (by omega)) (fun x p q => f1 x (by omega) (by omega) (by omega) (by omega) (by omega) (by omega)) (f2 2 (by omega) (by omega) (by omega) (by omega) (by omega)) (f2 7 (by omega) (by omega) (by omega) (by omega) (by omega)) uM
  · rw [f1 45 (by omega) (by omega) (by omega) (by omega) (by omega) (by omega), uf 45 (by omega) (by omega) (by omega)]; exact k3
  · exact TM_fr2 (fun x p q => f1 x (by omega) (by omega) (by omega) (by omega) (by omega) (by omega)) (uTM a ha)
  · exact MT_fr2 (fun x p => f1 x (by omega) (by omega) (by omega) (by omega) (by omega) (by omega)) (f2 12 (by omega) (by omega) (by omega) (by omega) (by omega)) uT
  · exact SM_fr (by rw [f2 0 (by omega) (by omega) (by omega) (by omega) (by omega), uk 0 (by omega)]) (by rw [f1 37 (by omega) (by omega) (by omega) (by omega) (by omega) (by omega), uf 37 (by omega) (by omega) (by omega)]) m1
  · exact EM_fr (fun x p q => by rw [f1 x (by omega) (by omega) (by omega) (by omega) (by omega) (by omega), uf x (by omega) (by omega) (by omega)]) (fun k hk => by rw [f2 k (by omega) (by omega) (by omega) (by omega) (by omega), uk k (by omega)]) m4
  · rw [f1 x (by omega) (by omega) (by omega) (by omega) (by omega) (by omega), ul x hx]
/-- both together -/
theorem go_J (h : I0 S sp ns nr na ne nm lt len fr to sj dr ab st lby se trn txt kd dd qq) {d s : Nat} (hd : d < 4) (hs : s ≤ na) (hds : ∀ j, s = j + 1 → dr j = d) {l : List (Nat × Int32)} {x : Option XO} {y : HS → Option (HS × Int32)} (hx : x = ((f_X6_stand (nI d) (cI s) S).bind (fun o42 => (f_X6_counting o42).bind (fun o53 => (f_X3_redo 16 o53 o42).bind (fun o56 => (f_J13_bitCount_95d88 (o56.2.1 16 3) o56).bind (fun o66 => some ((o56, ((0 : Nat), o66)) : XO)))))) ) (hy : ∀ T : HS, (∀ x, 36 ≤ x → T.1 x = S.1 x) → y T = f_X8_doesAnew (sI (sI T 36 36 0) 52 d (cI s))) : J (wrp l x) y := by
  have h0 := h
  refine J_ok ?_
  rw [hx]
  refine Ok.mono (go7 h0 hd hs hds) ?_
  rintro ⟨S3, c, v⟩ ⟨e1, e2, k1, k2, k3, k4⟩
  dsimp only at e1 e2 k1 k2 k3 k4 ⊢
  subst e1 e2
  refine ⟨rfl, ?_⟩
  generalize hv : fb_ct (fun k => (rep kd fr to (lbL len) dd sj qq (cset (stA st d s) ab) na).2.testBit k) na = v
  generalize hT : sL S3 60 0 (nI v).toInt64 = T
  have hT1 : T.1 = S3.1 := by rw [← hT]; rfl
  have hT2 : T.2.2 = S3.2.2 := by rw [← hT]; rfl
  have hT3 : ∀ x, x ≠ 60 → T.2.1 x = S3.2.1 x := fun x hx => by
    rw [← hT]
    unfold sL
    simp [hx]
  have hT6 : T.2.1 60 0 = (nI v).toInt64 := by rw [← hT]; exact sL_60
  have hTf : ∀ x, 36 ≤ x → T.1 x = S.1 x := fun x hx => by rw [hT1, k3 x (by omega)]
  rw [hy T hTf]
  refine Ok.mono (go8 h0 hTf hd hs hds) ?_
  rintro r ⟨r1, r2, r3, r4, r5, r6, r7, r8⟩
  refine ⟨r1, by rw [r2]; exact hT6, by rw [r3, hv], ?_⟩
  obtain ⟨⟨g1, g2⟩, ⟨c1, c2, c3, c4, c5⟩, -⟩ := h
  have c5' := c5.2.2.2.2
  exact I0_inv (st := stA st d s) ⟨⟨g1, g2.1, g2.2.1, stA_TWF g2.2.2.1 hs hds, g2.2.2.2⟩, ⟨SC_fr (fun x hx => by rw [r8 x (by omega), hT1, k3 x (by omega)]) c1, OC_fr (fun x p q => by rw [r8 x (by omega), hT1]) k1, BC_fr (fun x p q => by rw [r8 x (by omega), hT1]) (by rw [r2, hT3 16 (by omega)]) (by rw [r2, hT2]) k2, BN_fr (by rw [r2, hT2, (k4 17 (by omega)).2]) c4, EC_fr (fun x p => by rw [r8 x (by omega), hT1, k3 x (by omega)]) (by rw [r8 35 (by omega), hT1, k3 35 (by omega)]; exact c5') (by rw [r2, hT3 31 (by omega), (k4 31 (by omega)).1]) c5⟩, ⟨r6, r4, r5, r7⟩⟩
theorem fbr_brn {d : Nat} {p : Int32} {j : Nat} : ∀ n, fbr dr ab st d p n = j + 1 → j < n ∧ brn dr ab st d j = true
  | 0, h => absurd h (by show ¬ 0 = j + 1; omega)
  | n + 1, h => by
    rw [fbr] at h
    split at h
    · next q =>
      have : j = n := by omega
      subst this
      exact ⟨by omega, q.1⟩
    · have := fbr_brn n h
      exact ⟨by omega, this.2⟩
end
theorem j_back {S : HS} (h : Inv S) (p : Int32) : J (f_L_back p S) (f_X8_back p) := by
  obtain ⟨sp, ns, nr, na, ne, nm, lt, len, fr, to, sj, dr, ab, st, lby, se, trn, txt, kd, dd, qq, h⟩ := h
  have hI := I0_inv h
  have h0 := h
  obtain ⟨⟨g1, g2⟩, ⟨c1, c2, c3, c4, c5⟩, ⟨m1, m2, m3, m4⟩⟩ := h
  obtain ⟨gW, gA, gT, gK, gL, gB⟩ := g2
  have hna := gT.1
  have hns := gW.2.1
  have hnr := gW.1
  rw [wr_back]
  rcases dr_or p with ⟨d, hd, rfl⟩ | ⟨hn, hb⟩
  · have hk := gT.2.2 d hd
    have hC := c2.2.2.2.2.2
    have hM := m2.2.2.2.2
    cases hs : st d with
    | zero =>
      refine J_ex (S1 := S) (v := 0) (c := 3) (k := 2) (w := 0) ?_ (by decide) (by decide) (fun v => rfl) ?_ hI
      · unfold f_X7_back
        simp only [rDr_y hd, bsm, if_true, stand7 S hd, hC.2.2 d hd, hs, if_pos (show cI 0 = (-1 : Int32) from rfl)]
      · unfold f_X8_back f_X8_back_b27
        simp only [isDr8, isDr_yes hd, bsm, ob, if_pos (ib_nI hd (by omega)), nI_cl (show d < 2 ^ 31 by omega), hM.2.2 d hd, hs, if_pos (show cI 0 = (-1 : Int32) from rfl), can8, d20, zb]
    | succ j =>
      rw [hs] at hk
      have hj : j < na := by omega
      have hab := gT.2.1 j hj
      have hne : ¬ cI (j + 1) = -1 := fun q => absurd ((cI_m1 (by omega)).mp q) (by omega)
      have hdj := hk.2 j rfl
      refine go_J h0 (d := d) (s := ab j) hd (by omega) (fun i hi => by rw [hab.2.2 i hi, hdj]) ?_ (fun T hT => ?_)
      · unfold f_X7_back
        have h14 : f_X6_aboveOf (cI (j + 1)) S = some (cI (ab j)) := by
          rw [show cI (j + 1) = nI j from rfl, above7 S (show j < 60 by omega), (hC.2.1 j hj).2]
        simp only [rDr_y hd, bsm, if_true, stand7 S hd, hC.2.2 d hd, hs, if_neg hne, h14]
      · have t52 : T.1 52 d = cI (j + 1) := by rw [hT 52 (by omega), hM.2.2 d hd, hs]
        have u52 : (sI T 36 36 0).1 52 d = nI j := by rw [th_o (by omega)]; exact t52
        have u47 : (sI T 36 36 0).1 47 j = cI (ab j) := by rw [th_o (by omega), hT 47 (by omega)]; exact (hM.2.1 j hj).2
        unfold f_X8_back f_X8_back_b27
        simp only [isDr8, isDr_yes hd, bsm, ob, if_pos (ib_nI hd (by omega)), nI_cl (show d < 2 ^ 31 by omega), t52, if_neg hne, can8, d00, decide_true, u52, if_pos (ib_nI (show j < 60 by omega) (by omega)), nI_cl (show j < 2 ^ 31 by omega), u47]
        cases f_X8_doesAnew (sI (sI T 36 36 0) 52 d (cI (ab j))) <;> rfl
  · refine J_ex (S1 := S) (v := 0) (c := 1) (k := 1) (w := 0) ?_ (by decide) (by decide) (fun v => rfl) ?_ hI
    · unfold f_X7_back
      rw [rDr_n hn]
      rfl
    · unfold f_X8_back f_X8_back_b27
      simp only [isDr8, hb, bsm, zb, can8, d10]
theorem j_on {S : HS} (h : Inv S) (p1 p2 : Int32) : J (f_L_on p1 p2 S) (f_X8_on p1 p2) := by
  obtain ⟨sp, ns, nr, na, ne, nm, lt, len, fr, to, sj, dr, ab, st, lby, se, trn, txt, kd, dd, qq, h⟩ := h
  have hI := I0_inv h
  have h0 := h
  obtain ⟨⟨g1, g2⟩, ⟨c1, c2, c3, c4, c5⟩, ⟨m1, m2, m3, m4⟩⟩ := h
  obtain ⟨gW, gA, gT, gK, gL, gB⟩ := g2
  have hna := gT.1
  have hns := gW.2.1
  have hnr := gW.1
  rw [wr_on]
  rcases dr_or p1 with ⟨d, hd, rfl⟩ | ⟨hn, hb⟩
  · have hC := c2.2.2.2.2.2
    have hM := m2.2.2.2.2
    have hle := fbr_le (dr := dr) (ab := ab) (st := st) (d := d) (p := p2) na
    have h8 : ∀ T : HS, (∀ x, 36 ≤ x → T.1 x = S.1 x) → f_X8_on (nI d) p2 T = f_X8_on_b21 (nI d) p2 T (cI (fbr dr ab st d p2 na)) := by
      intro T hT
      have tM : MT T na dr ab st := MT_fr2 (fun x p => hT x (by omega)) (by rw [hT 36 (by omega)]) hM
      unfold f_X8_on f_X8_on_b20
      by_cases hp : p2 < 0
      · simp only [isDr8, isDr_yes hd, bsm, ob, if_pos hp, fbr_nat hp (show na < 1000 by omega)]
        rfl
      · simp only [isDr8, isDr_yes hd, bsm, ob, if_neg hp, branchOf8 tM gT hd p2]
    cases hs : fbr dr ab st d p2 na with
    | zero =>
      refine J_ex (S1 := S) (v := 0) (c := 1) (k := 1) (w := 0) ?_ (by decide) (by decide) (fun v => rfl) ?_ hI
      · unfold f_X7_on
        simp only [rDr_y hd, bsm, if_true, branchOf7 hC gT hd p2, hs, if_pos (show cI 0 = (-1 : Int32) from rfl)]
      · rw [h8 S (fun _ _ => rfl), hs]
        unfold f_X8_on_b21 f_X8_on_b33
        simp only [if_pos (show cI 0 = (-1 : Int32) from rfl), can8, bsm, d10, zb]
    | succ j =>
      obtain ⟨hj, hbr⟩ := fbr_brn na hs
      have hne : ¬ cI (j + 1) = -1 := fun q => absurd ((cI_m1 (by omega)).mp q) (by omega)
      have hdj : dr j = d := by
        unfold brn at hbr
        rw [Bool.and_eq_true] at hbr
        exact of_decide_eq_true hbr.1
      refine go_J h0 (d := d) (s := j + 1) hd (by omega) (fun i hi => by rw [show i = j by omega]; exact hdj) ?_ (fun T hT => ?_)
      · unfold f_X7_on
        simp only [rDr_y hd, bsm, if_true, branchOf7 hC gT hd p2, hs, if_neg hne]
      · rw [h8 T hT, hs]
        unfold f_X8_on_b21 f_X8_on_b33
        simp only [if_neg hne, can8, bsm, d00, decide_true, ob, if_pos (ib_nI hd (by omega)), nI_cl (show d < 2 ^ 31 by omega)]
        cases f_X8_doesAnew (sI (sI T 36 36 0) 52 d (cI (j + 1))) <;> rfl
  · refine J_ex (S1 := S) (v := 0) (c := 1) (k := 1) (w := 0) ?_ (by decide) (by decide) (fun v => rfl) ?_ hI
    · unfold f_X7_on
      rw [rDr_n hn]
      rfl
    · unfold f_X8_on f_X8_on_b20 f_X8_on_b21 f_X8_on_b33
      simp only [isDr8, hb, bsm, zb, if_true, can8, d10]
