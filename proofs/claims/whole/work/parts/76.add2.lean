/-! addBox and addLabel -/
theorem nI_ne2 {n m : Nat} (hn : n < 2 ^ 31) (hm : m < 2 ^ 31) (h : n ≠ m) : ¬ nI n = nI m := fun q => h ((nI_eq hn hm).mp q)
theorem j_addBox {S : HS} (h : Inv S) (p1 p2 p3 p4 p5 : Int32) : J (f_L_addBox p1 p2 p3 p4 p5 S) (f_X8_addBox p1 p2 p3 p4 p5) := by
  obtain ⟨sp, ns, nr, na, ne, nm, lt, len, fr, to, sj, dr, ab, st, lby, se, trn, txt, kd, dd, qq, h⟩ := h
  have hI := I0_inv h
  have h0 := h
  obtain ⟨⟨g1, g2⟩, ⟨c1, c2, c3, c4, c5⟩, ⟨m1, m2, m3, m4⟩⟩ := h
  obtain ⟨gW, gA, gT, gK, gL, gB⟩ := g2
  have hna := gT.1
  have hns := gW.2.1
  have hnr := gW.1
  rw [wr_addBox]
  have hsh := m2.2.1.2.1
  have hm12 := m2.2.2.2.2.1
  have hy0 : ∀ T : HS, f_X8_addBox p1 p2 p3 p4 p5 T = f_X8_addBox_b23 p1 p2 p3 p4 p5 T (bI (rngB p2 0 && rngB p3 1 && (rngB p4 2 && rngB p5 3))) := by
    intro T
    unfold f_X8_addBox f_X8_addBox_b22
    rw [isPl8, isSz8, bsm, bsm, ifb, ifb]
    cases rngB p2 0 && rngB p3 1 <;> cases rngB p4 2 && rngB p5 3 <;> rfl
  have hb69 : ∀ (T : HS) (v : Int32), v ≠ 0 → f_X8_addBox_b69 p1 p2 p3 p4 p5 T v = some (sI T 36 36 v, 0) := by
    intro T v hv
    unfold f_X8_addBox_b69
    rw [can8, bsm, decide_eq_false hv]
    rfl
  rcases dr_or p1 with ⟨w, hw, rfl⟩ | ⟨hn1, hb⟩
  rotate_left
  · refine J_ex (S1 := S) (v := 0) (c := 1) (k := 1) (w := 0) (by unfold f_X7_addBox; rw [rDr_n hn1]; rfl) (by decide) (by decide) (fun v => rfl) ?_ hI
    rw [hy0]
    unfold f_X8_addBox_b23
    rw [isDr8, hb, bsm, zb, hb69 _ 1 (by decide)]
  have hy1 : ∀ T : HS, f_X8_addBox (nI w) p2 p3 p4 p5 T = if (rngB p2 0 && rngB p3 1 && (rngB p4 2 && rngB p5 3)) = true then (if T.1 36 2 = (10 : Int32) then some (sI T 36 36 3, 0) else if T.1 36 12 = (60 : Int32) then some (sI T 36 36 3, 0) else f_X8_addBox_b69 (nI w) p2 p3 p4 p5 T 0) else some (sI T 36 36 2, 0) := by
    intro T
    rw [hy0]
    unfold f_X8_addBox_b23 f_X8_addBox_b64
    rw [isDr8, isDr_yes hw, bsm, ob, ifb, hb69 _ 3 (by decide), hb69 _ 2 (by decide)]
  cases hg1 : rngB p2 0 && rngB p3 1 with
  | false =>
    refine J_ex (S1 := S) (v := 0) (c := 2) (k := 2) (w := 0) ?_ (by decide) (by decide) (fun v => rfl) (by rw [hy1, hg1]; rfl) hI
    unfold f_X7_addBox
    simp only [rDr_y hw, bsm, if_true, rPl, hg1]
    rfl
  | true =>
    cases hg2 : rngB p4 2 && rngB p5 3 with
    | false =>
      refine J_ex (S1 := S) (v := 0) (c := 2) (k := 2) (w := 0) ?_ (by decide) (by decide) (fun v => rfl) (by rw [hy1, hg1, hg2]; rfl) hI
      unfold f_X7_addBox
      simp only [rDr_y hw, bsm, if_true, rPl, hg1, rSz, hg2]
      rfl
    | true =>
      have hy2 : ∀ T : HS, f_X8_addBox (nI w) p2 p3 p4 p5 T = if T.1 36 2 = (10 : Int32) then some (sI T 36 36 3, 0) else if T.1 36 12 = (60 : Int32) then some (sI T 36 36 3, 0) else f_X8_addBox_b69 (nI w) p2 p3 p4 p5 T 0 := fun T => by
        rw [hy1, hg1, hg2]
        rfl
      rcases Nat.lt_or_ge ns 10 with h10 | h10
      · have hns10 : ¬ nI ns = (10 : Int32) := nI_ne2 (m := 10) (by omega) (by decide) (by omega)
        rw [Bool.and_eq_true] at hg1 hg2
        refine add_J h0 (c := 0) (t := 0) (tb := false) (q := fun v => if v = 0 then p2 else if v = 1 then p3 else if v = 2 then p4 else p5) h10 (by omega) (by decide) (fun v hv => ?_) (fun q => absurd q (by omega)) hw ?_ (fun T hT e => ?_) (fun T hT e => ?_)
        · match v, hv with
          | 0, _ => exact hg1.1
          | 1, _ => exact hg1.2
          | 2, _ => exact hg2.1
          | 3, _ => exact hg2.2
        · have hg1' : (rngB p2 0 && rngB p3 1) = true := by rw [hg1.1, hg1.2]; rfl
          have hg2' : (rngB p4 2 && rngB p5 3) = true := by rw [hg2.1, hg2.2]; rfl
          unfold f_X7_addBox
          simp only [rDr_y hw, bsm, if_true, rPl, hg1', rSz, hg2', c2.1, if_pos (show nI ns < (10 : Int32) from lt_nI (n := 10) h10 (by decide))]
          rfl
        · rw [hy2, hT 36 (by omega), hsh, hm12, e, if_neg hns10, if_pos (show nI 60 = (60 : Int32) from rfl)]
        · have h60 : ¬ nI na = (60 : Int32) := nI_ne2 (m := 60) (by omega) (by decide) (by omega)
          have t2 : (sI T 36 36 0).1 36 2 = nI ns := by rw [th_k (by omega), hT 36 (by omega)]; exact hsh
          refine ⟨sI (sI T 36 36 0) 38 ns 0, ⟨fun x a b c d e => ?_, fun k hk => ?_, ?_, fun k hk => ⟨?_, ?_, ?_, fun i hi => ?_⟩, rfl⟩, fun k hk => ?_, ?_⟩
          · rw [sI_o b, sI_o a]
          · rw [sI_o (by omega), th_k hk]
          · rw [sI_o (by omega), th_at]
          · rw [sI_k (by omega), sI_o (by omega)]
          · rw [sI_o (by omega), sI_o (by omega)]
          · rw [sI_o (by omega), sI_o (by omega)]
          · rw [sI_o (by omega), sI_o (by omega)]
          · by_cases ek : k = ns
            · subst ek
              unfold lbL
              rw [exF_at, sI_at]
              exact ⟨rfl, by omega, fun q => absurd q (by omega)⟩
            · have hH := m2.1 k (by omega)
              unfold lbL at hH ⊢
              rw [exF_ne ek, exF_ne ek, exF_ne ek, sI_k ek, sI_o (by omega), sI_o (by omega), sI_o (by omega), sI_o (by omega), sI_o (by omega), sI_o (by omega), sI_o (by omega), hT 38 (by omega), hT 39 (by omega), hT 40 (by omega), hT 41 (by omega)]
              exact hH
          · have hn : vp_nar .boolean (0 : Int32) = 0 := by decide
            rw [hy2, hT 36 (by omega), hsh, hm12, if_neg hns10, if_neg h60]
            unfold f_X8_addBox_b69
            simp only [can8, bsm, d00, decide_true, ob, t2, if_pos (ib_nI h10 (show 10 < 2 ^ 31 by omega)), nI_cl (show ns < 2 ^ 31 by omega), hn]
            show (f_X8_adds (nI w) p2 p3 p4 p5 (sI (sI T 36 36 0) 38 ns 0)).bind _ = f_X8_adds (nI w) p2 p3 p4 p5 (sI (sI T 36 36 0) 38 ns 0)
            cases f_X8_adds (nI w) p2 p3 p4 p5 (sI (sI T 36 36 0) 38 ns 0) <;> rfl
      · have e10 : ns = 10 := by omega
        refine J_ex (S1 := S) (v := 0) (c := 3) (k := 3) (w := 0) ?_ (by decide) (by decide) (fun v => rfl) (by rw [hy2, hsh, e10, if_pos (show nI 10 = (10 : Int32) from rfl)]) hI
        unfold f_X7_addBox
        simp only [rDr_y hw, bsm, if_true, rPl, hg1, rSz, hg2, c2.1, e10, if_neg (show ¬ nI 10 < (10 : Int32) from by decide)]
theorem rng_sp : ∀ s, s < 6 → s ≠ 0 → rngB (nI (2 * s)) 2 = true := by decide +kernel
theorem nz_bo {p : Int32} (h : nz p = true) : vp_nar .boolean p = p ∧ p = bI (decide (p ≠ 0)) := by
  unfold nz at h
  rw [Bool.or_eq_true, decide_eq_true_eq, decide_eq_true_eq] at h
  rcases h with h | h <;> rw [h] <;> decide
/-- the model's loop over letters -/
theorem lab_s {T U : HS} {w ns sp i : Nat} {p2 p3 p4 : Int32} (hns : ns < 10) (hi : i < sp) (hsp : sp ≤ 5) (u0 : U.1 36 0 = nI sp) (u2 : U.1 36 2 = nI ns) (u37 : U.1 37 = T.1 37) (rec : HS × Int32 → Option (HS × Int32)) : F_X8_addLabel_b99 (nI w) p2 p3 p4 rec (sA U 41 (put_ (T.1 37) (T.1 41) (5 * ns) i), nI i) = rec (sA U 41 (put_ (T.1 37) (T.1 41) (5 * ns) (i + 1)), nI (i + 1)) := by
  have e0 : (sA U 41 (put_ (T.1 37) (T.1 41) (5 * ns) i)).1 36 0 = nI sp := by rw [sA_o (by omega)]; exact u0
  have e2 : (sA U 41 (put_ (T.1 37) (T.1 41) (5 * ns) i)).1 36 2 = nI ns := by rw [sA_o (by omega)]; exact u2
  have e37 : (sA U 41 (put_ (T.1 37) (T.1 41) (5 * ns) i)).1 37 i = T.1 37 i := by rw [sA_o (by omega), u37]
  have i1 : (5 : Int32) * nI ns + nI i = nI (5 * ns + i) := by
    rw [show (5 : Int32) = nI 5 from rfl, pk_mul, nI_add]
  unfold F_X8_addLabel_b99
  dsimp only
  rw [e0, if_neg (nlt_le hi (by omega)), if_pos (ib_nI (show i < 5 by omega) (by omega)), e2, i1, if_pos (ib_nI (show 5 * ns + i < 50 by omega) (by omega)), nI_cl (by omega), nI_cl (by omega), e37, sA_sI, put_s, nI_1]
theorem lab_e {U : HS} {w sp : Nat} {p2 p3 p4 : Int32} (u0 : U.1 36 0 = nI sp) (rec : HS × Int32 → Option (HS × Int32)) : F_X8_addLabel_b99 (nI w) p2 p3 p4 rec (U, nI sp) = f_X8_adds (nI w) p2 p3 (nI (2 * sp)) 2 U := by
  have i2 : (2 : Int32) * nI sp = nI (2 * sp) := by rw [show (2 : Int32) = nI 2 from rfl, pk_mul]
  unfold F_X8_addLabel_b99
  dsimp only
  rw [u0, if_pos (nle_nI _), i2]
  cases f_X8_adds (nI w) p2 p3 (nI (2 * sp)) 2 U <;> rfl
theorem lab_l {T U : HS} {w ns sp : Nat} {p2 p3 p4 : Int32} (hns : ns < 10) (hsp : sp ≤ 5) (u0 : U.1 36 0 = nI sp) (u2 : U.1 36 2 = nI ns) (u37 : U.1 37 = T.1 37) (u41 : U.1 41 = T.1 41) : f_X8_addLabel_b99 (nI w) p2 p3 p4 U 0 = f_X8_adds (nI w) p2 p3 (nI (2 * sp)) 2 (sA U 41 (put_ (T.1 37) (T.1 41) (5 * ns) sp)) := by
  unfold f_X8_addLabel_b99
  refine fx_run sp (fun i => (sA U 41 (put_ (T.1 37) (T.1 41) (5 * ns) i), nI i)) (fun i rec hi => lab_s hns hi hsp u0 u2 u37 rec) (fun rec => lab_e ?_ rec) (FU_gt (by omega)) ?_
  · rw [sA_o (by omega)]; exact u0
  · rw [put_0, ← u41, sA_self]
    rfl
def qL (a b c d : Int32) : Nat → Int32 := fun v => if v = 0 then a else if v = 1 then b else if v = 2 then c else d
theorem nbn {α β : Type} (f : α → Option β) : (none : Option α).bind f = none := rfl
theorem qL_0 (a b c d : Int32) : qL a b c d 0 = a := rfl
theorem qL_1 (a b c d : Int32) : qL a b c d 1 = b := rfl
theorem qL_2 (a b c d : Int32) : qL a b c d 2 = c := rfl
theorem qL_3 (a b c d : Int32) : qL a b c d 3 = d := rfl
theorem j_addLabel {S : HS} (h : Inv S) (p1 p2 p3 p4 : Int32) (h4 : nz p4 = true) : J (f_L_addLabel p1 p2 p3 p4 S) (f_X8_addLabel p1 p2 p3 p4) := by
  obtain ⟨sp, ns, nr, na, ne, nm, lt, len, fr, to, sj, dr, ab, st, lby, se, trn, txt, kd, dd, qq, h⟩ := h
  have hI := I0_inv h
  have h0 := h
  obtain ⟨⟨g1, g2⟩, ⟨c1, c2, c3, c4, c5⟩, ⟨m1, m2, m3, m4⟩⟩ := h
  obtain ⟨gW, gA, gT, gK, gL, gB⟩ := g2
  have hna := gT.1
  have hns := gW.2.1
  have hnr := gW.1
  rw [wr_addLabel]
  have hsh := m2.2.1.2.1
  have hm12 := m2.2.2.2.2.1
  obtain ⟨s1, s2, s3, s4, s5⟩ := g1
  have hb54 : ∀ (T : HS) (v : Int32), v ≠ 0 → f_X8_addLabel_b54 p1 p2 p3 p4 T v = some (sI T 36 36 v, 0) := by
    intro T v hv
    unfold f_X8_addLabel_b54
    rw [can8, bsm, decide_eq_false hv]
    rfl
  rcases dr_or p1 with ⟨w, hw, rfl⟩ | ⟨hn1, hb⟩
  rotate_left
  · refine J_ex (S1 := S) (v := 0) (c := 1) (k := 1) (w := 0) (by unfold f_X7_addLabel; rw [rDr_n hn1]; rfl) (by decide) (by decide) (fun v => rfl) ?_ hI
    unfold f_X8_addLabel
    rw [isDr8, hb, bsm, zb, hb54 _ 1 (by decide)]
  have hy1 : ∀ T : HS, f_X8_addLabel (nI w) p2 p3 p4 T = if (rngB p2 0 && rngB p3 1) = true then (if T.1 36 0 = 0 then some (sI T 36 36 3, 0) else if T.1 36 2 = (10 : Int32) then some (sI T 36 36 3, 0) else if T.1 36 12 = (60 : Int32) then some (sI T 36 36 3, 0) else f_X8_addLabel_b54 (nI w) p2 p3 p4 T 0) else some (sI T 36 36 2, 0) := by
    intro T
    unfold f_X8_addLabel f_X8_addLabel_b49
    rw [isDr8, isDr_yes hw, bsm, ob, isPl8, bsm, ifb, hb54 _ 3 (by decide), hb54 _ 2 (by decide)]
  cases hg1 : rngB p2 0 && rngB p3 1 with
  | false =>
    refine J_ex (S1 := S) (v := 0) (c := 2) (k := 2) (w := 0) ?_ (by decide) (by decide) (fun v => rfl) (by rw [hy1, hg1]; rfl) hI
    unfold f_X7_addLabel
    simp only [rDr_y hw, bsm, if_true, rPl, hg1]
    rfl
  | true =>
    have hy2 : ∀ T : HS, f_X8_addLabel (nI w) p2 p3 p4 T = if T.1 36 0 = 0 then some (sI T 36 36 3, 0) else if T.1 36 2 = (10 : Int32) then some (sI T 36 36 3, 0) else if T.1 36 12 = (60 : Int32) then some (sI T 36 36 3, 0) else f_X8_addLabel_b54 (nI w) p2 p3 p4 T 0 := fun T => by
      rw [hy1, hg1]
      rfl
    have hsp0 : nI sp = 0 ↔ sp = 0 := nI_0iff (by omega)
    by_cases hsp : sp = 0
    · refine J_ex (S1 := S) (v := 0) (c := 3) (k := 3) (w := 0) ?_ (by decide) (by decide) (fun v => rfl) (by rw [hy2, m1.1, if_pos (hsp0.mpr hsp)]) hI
      unfold f_X7_addLabel f_X7_addLabel_b34
      simp only [rDr_y hw, bsm, if_true, rPl, hg1, c1.1, if_pos (hsp0.mpr hsp)]
    have hspn : ¬ nI sp = 0 := fun q => hsp (hsp0.mp q)
    rcases Nat.lt_or_ge ns 10 with h10 | h10
    · have hns10 : ¬ nI ns = (10 : Int32) := nI_ne2 (m := 10) (by omega) (by decide) (by omega)
      rw [Bool.and_eq_true] at hg1
      have i2 : (2 : Int32) * nI sp = nI (2 * sp) := by rw [show (2 : Int32) = nI 2 from rfl, pk_mul]
      refine add_J h0 (c := sp) (t := p4) (tb := decide (p4 ≠ 0)) (q := qL p2 p3 (nI (2 * sp)) 2) h10 (Nat.le_refl _) rfl (fun v hv => ?_) (fun _ => qL_3 _ _ _ _) hw ?_ (fun T hT e => ?_) (fun T hT e => ?_)
      · match v, hv with
        | 0, _ => rw [qL_0]; exact hg1.1
        | 1, _ => rw [qL_1]; exact hg1.2
        | 2, _ => rw [qL_2]; exact rng_sp sp (by omega) hsp
        | 3, _ =>
          rw [qL_3]
          decide
      · have hg1' : (rngB p2 0 && rngB p3 1) = true := by rw [hg1.1, hg1.2]; rfl
        have e60 : ∀ D : HS, (f_X6_draft (0 : Int32) (nI ns) p2 p3 (nI (2 * sp)) (2 : Int32) S) = some D → D.1 0 1 = nI sp := by
          intro D hDe
          obtain ⟨D', hD', hDF, -⟩ := draft6 c2.2.2.2.2.2.1 hna 0 ns (qL p2 p3 (nI (2 * sp)) 2)
          rw [qL_0, qL_1, qL_2, qL_3] at hD'
          have : some D' = some D := by rw [← hDe]; exact hD'.symm
          cases this
          rw [hDF.1 0 (by omega) (by omega) (by omega)]
          exact c1.1
        rw [qL_0, qL_1, qL_2, qL_3]
        unfold f_X7_addLabel
        simp only [rDr_y hw, bsm, if_true, rPl, hg1', c1.1, if_neg hspn, c2.1, if_pos (show nI ns < (10 : Int32) from lt_nI (n := 10) h10 (by decide)), i2]
        cases hDe : f_X6_draft (0 : Int32) (nI ns) p2 p3 (nI (2 * sp)) (2 : Int32) S with
        | none => rw [nbn, nbn]
        | some D =>
          rw [bsm, bsm, e60 D hDe]
      · rw [hy2, hT 36 (by omega), hsh, hm12, m1.1, e, if_neg hspn, if_neg hns10, if_pos (show nI 60 = (60 : Int32) from rfl)]
      · have h60 : ¬ nI na = (60 : Int32) := nI_ne2 (m := 60) (by omega) (by decide) (by omega)
        have t2 : (sI T 36 36 0).1 36 2 = nI ns := by rw [th_k (by omega), hT 36 (by omega)]; exact hsh
        have t0 : (sI T 36 36 0).1 36 0 = nI sp := by rw [th_k (by omega), hT 36 (by omega)]; exact m1.1
        have hnz := nz_bo h4
        have hn1 : vp_nar .boolean (1 : Int32) = 1 := by decide
        generalize hU : sI (sI (sI (sI T 36 36 0) 38 ns 1) 39 ns p4) 40 ns (nI sp) = U
        have u36 : ∀ k, U.1 36 k = (sI T 36 36 0).1 36 k := fun k => by rw [← hU, sI_o (by omega), sI_o (by omega), sI_o (by omega)]
        have u37 : U.1 37 = T.1 37 := by rw [← hU, sI_o (by omega), sI_o (by omega), sI_o (by omega), sI_o (by omega)]
        have u41 : U.1 41 = T.1 41 := by rw [← hU, sI_o (by omega), sI_o (by omega), sI_o (by omega), sI_o (by omega)]
        have hput : ∀ t, t < 5 * ns → put_ (T.1 37) (T.1 41) (5 * ns) sp t = T.1 41 t := fun t ht => put_out (by omega)
        refine ⟨sA U 41 (put_ (T.1 37) (T.1 41) (5 * ns) sp), ⟨fun x a b c d e => ?_, fun k hk => ?_, ?_, fun k hk => ⟨?_, ?_, ?_, fun i hi => ?_⟩, ?_⟩, fun k hk => ?_, ?_⟩
        · rw [sA_o e, ← hU, sI_o d, sI_o c, sI_o b, sI_o a]
        · rw [sA_o (by omega), u36, th_k hk]
        · rw [sA_o (by omega), u36, th_at]
        · rw [sA_o (by omega), ← hU, sI_o (by omega), sI_o (by omega), sI_k (by omega), sI_o (by omega)]
        · rw [sA_o (by omega), ← hU, sI_o (by omega), sI_k (by omega), sI_o (by omega), sI_o (by omega)]
        · rw [sA_o (by omega), ← hU, sI_k (by omega), sI_o (by omega), sI_o (by omega), sI_o (by omega)]
        · rw [sA_at, hput _ (by omega)]
        · rw [← hU]; rfl
        · by_cases ek : k = ns
          · subst ek
            unfold lbL
            rw [exF_at, exF_at, exF_at, sA_o (by omega), sA_o (by omega), sA_o (by omega), sA_at, ← hU, sI_o (by omega), sI_o (by omega), sI_at, sI_o (by omega), sI_at, sI_at]
            have hsp' : decide (0 < sp) = true := decide_eq_true (by omega)
            refine ⟨by rw [hsp']; rfl, by omega, fun _ => ⟨hnz.2, rfl, fun i hi => ⟨?_, s2 i hi⟩⟩⟩
            rw [put_in hi, hT 37 (by omega)]
            exact m1.2 i hi
          · have hH := m2.1 k (by omega)
            have e38 : (sA U 41 (put_ (T.1 37) (T.1 41) (5 * ns) sp)).1 38 k = S.1 38 k := by
              rw [sA_o (by omega), ← hU, sI_o (by omega), sI_o (by omega), sI_k ek, sI_o (by omega), hT 38 (by omega)]
            have e39 : (sA U 41 (put_ (T.1 37) (T.1 41) (5 * ns) sp)).1 39 k = S.1 39 k := by
              rw [sA_o (by omega), ← hU, sI_o (by omega), sI_k ek, sI_o (by omega), sI_o (by omega), hT 39 (by omega)]
            have e40 : (sA U 41 (put_ (T.1 37) (T.1 41) (5 * ns) sp)).1 40 k = S.1 40 k := by
              rw [sA_o (by omega), ← hU, sI_k ek, sI_o (by omega), sI_o (by omega), sI_o (by omega), hT 40 (by omega)]
            unfold lbL at hH ⊢
            rw [exF_ne ek, exF_ne ek, exF_ne ek, e38, e39, e40]
            refine ⟨hH.1, hH.2.1, fun q => ⟨(hH.2.2 q).1, (hH.2.2 q).2.1, fun i hi => ?_⟩⟩
            have hl5 := hH.2.1
            rw [sA_at, hput _ (by omega), hT 41 (by omega)]
            exact (hH.2.2 q).2.2 i hi
        · have hr : f_X8_addLabel_b54 (nI w) p2 p3 p4 T 0 = f_X8_addLabel_b99 (nI w) p2 p3 p4 U 0 := by
            have a1 : (sI (sI T 36 36 0) 38 ns 1).1 36 2 = nI ns := by rw [sI_o (by omega)]; exact t2
            have a2 : (sI (sI (sI T 36 36 0) 38 ns 1) 39 ns p4).1 36 2 = nI ns := by rw [sI_o (by omega)]; exact a1
            have a3 : (sI (sI (sI T 36 36 0) 38 ns 1) 39 ns p4).1 36 0 = nI sp := by rw [sI_o (by omega), sI_o (by omega)]; exact t0
            unfold f_X8_addLabel_b54
            rw [can8, bsm]
            dsimp only
            rw [if_neg (by decide), t2, if_pos (ib_nI h10 (show 10 < 2 ^ 31 by omega)), nI_cl (show ns < 2 ^ 31 by omega), hn1, a1, if_pos (ib_nI h10 (show 10 < 2 ^ 31 by omega)), nI_cl (show ns < 2 ^ 31 by omega), hnz.1, a2, if_pos (ib_nI h10 (show 10 < 2 ^ 31 by omega)), nI_cl (show ns < 2 ^ 31 by omega), a3, hU]
          rw [hy2, hT 36 (by omega), hsh, hm12, m1.1, if_neg hspn, if_neg hns10, if_neg h60, hr]
          rw [qL_0, qL_1, qL_2, qL_3]
          exact lab_l h10 s1 (by rw [u36]; exact t0) (by rw [u36]; exact t2) u37 u41
    · have e10 : ns = 10 := by omega
      refine J_ex (S1 := S) (v := 0) (c := 3) (k := 3) (w := 0) ?_ (by decide) (by decide) (fun v => rfl) (by rw [hy2, m1.1, hsh, e10, if_neg hspn, if_pos (show nI 10 = (10 : Int32) from rfl)]) hI
      unfold f_X7_addLabel f_X7_addLabel_b34
      simp only [rDr_y hw, bsm, if_true, rPl, hg1, c1.1, if_neg hspn, c2.1, e10, if_neg (show ¬ nI 10 < (10 : Int32) from by decide)]
