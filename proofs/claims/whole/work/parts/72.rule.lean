/-! rules are dropped and laid -/
section
variable {S T R F : HS} {sp ns nr na ne nm V : Nat} {lt len fr to sj dr ab st lby se : Nat → Nat} {trn : Nat → Bool} {txt : Nat → Nat → Nat} {kd dd : Nat → Int32} {qq : Nat → Nat → Int32} {w s : Nat} {d : Int32} {q : Nat → Int32} {A B : AB} {X : Nat → List Nat}
theorem n1z : ¬ (1 : Int32) = 0 := by decide
theorem cm8 {D U : HS} {ok : Bool} (h12 : D.1 36 12 = nI na) (hna : na < 60) (ht : f_X8_tries (nI na) D = some (U, bI ok)) : f_X8_canMake D = some (U, bI ok) := by
  unfold f_X8_canMake f_X8_canMake_b24 f_X8_canMake_b25
  rw [h12, if_neg (le60n hna), ht, bsm, nz_0, nz_1, if_pos rfl, if_pos rfl]
  cases ok <;> rfl
theorem dp8_n {p1 p2 : Int32} (hru : T.1 36 7 = nI nr) (hnr : nr ≤ 12) (hn : (p1 < 0 ∨ ¬ p1 < 4) ∨ (p2 < 0 ∨ ¬ p2 < nI nr)) : f_X8_drop p1 p2 T = some (sI T 36 36 1, 0) := by
  unfold f_X8_drop f_X8_drop_b19 f_X8_drop_b20 f_X8_drop_b38 f_X8_drop_b39 f_X8_drop_b63 f_X8_drop_b82
  rcases dr_or p1 with ⟨w, hw, rfl⟩ | ⟨-, hb⟩
  · have h2 : p2 < 0 ∨ ¬ p2 < nI nr := by
      rcases hn with h | h
      · rcases h with h | h
        · exact absurd h (nI_pos (by omega))
        · exact absurd (show nI w < (4 : Int32) from lt_nI (n := 4) hw (by decide)) h
      · exact h
    simp only [isDr8, isDr_yes hw, bsm, ob, zb, isRu8 hru, isN_no h2 (show nr < 2 ^ 31 by omega), if_true, can8, d10]
  · simp only [isDr8, hb, bsm, zb, if_true, can8, d10]
theorem dp8_60 (hru : T.1 36 7 = nI nr) (hnr : nr ≤ 12) (hw : w < 4) (hs : s < nr) (h12 : T.1 36 12 = nI 60) : f_X8_drop (nI w) (nI s) T = some (sI T 36 36 2, 0) := by
  unfold f_X8_drop f_X8_drop_b20 f_X8_drop_b38 f_X8_drop_b39 f_X8_drop_b63 f_X8_drop_b82
  simp only [isDr8, isDr_yes hw, bsm, ob, zb, isRu8 hru, isN_yes hs (show nr < 2 ^ 31 by omega), if_neg n1z, h12, if_pos (show (60 : Int32) ≤ nI 60 from by decide), if_true, can8, d20]
theorem dp8_t (hru : T.1 36 7 = nI nr) (hnr : nr ≤ 12) (hw : w < 4) (hs : s < nr) (h12 : T.1 36 12 = nI na) (hna : na < 60) {U : HS} {ok : Bool} (ht : f_X8_tries (nI na) (wrS T na (nI w) 4 (nI s) 0 0 0 0) = some (U, bI ok)) : f_X8_drop (nI w) (nI s) T = if ok = true then (f_X8_makes (sI U 36 36 0)).bind (fun o91 => (f_X8_size (o91.1.1 36 22) o91.1).bind (fun o99 => some (o91.1, o99))) else some (sI U 36 36 2, 0) := by
  have hcm : f_X8_canMake (wrS T na (nI w) 4 (nI s) 0 0 0 0) = some (U, bI ok) := cm8 (by rw [wrS_o (by omega)]; exact h12) hna ht
  unfold f_X8_drop f_X8_drop_b20 f_X8_drop_b39 f_X8_drop_b63 f_X8_drop_b82
  simp only [isDr8, isDr_yes hw, bsm, ob, zb, isRu8 hru, isN_yes hs (show nr < 2 ^ 31 by omega), if_neg n1z, h12, if_neg (le60n hna), writes8 h12 hna, hcm, can8]
  cases ok with
  | true => simp only [ob, d00, decide_true, if_true]
  | false =>
    simp only [zb, d20]
    rfl
theorem OC_DF {D : HS} (hDF : DF S D na) (h : OC S ns nr na len trn txt kd fr to dd sj qq dr ab st) : OC D ns nr na len trn txt kd fr to dd sj qq dr ab st := by
  obtain ⟨k1, k2, k3, k4, k5, k6⟩ := h
  have o : ∀ x, x ≠ 10 → x ≠ 11 → x ≠ 12 → D.1 x = S.1 x := hDF.1
  refine ⟨by rw [o 2 (by omega) (by omega) (by omega)]; exact k1, by rw [o 5 (by omega) (by omega) (by omega)]; exact k2, ?_, ?_, fun a ha => DF_TA hDF ha (k5 a ha), ?_⟩
  · unfold HS1 at k3 ⊢
    rw [o 2 (by omega) (by omega) (by omega), o 3 (by omega) (by omega) (by omega), o 4 (by omega) (by omega) (by omega)]; exact k3
  · unfold RC at k4 ⊢
    rw [o 6 (by omega) (by omega) (by omega), o 7 (by omega) (by omega) (by omega), o 8 (by omega) (by omega) (by omega)]; exact k4
  · unfold CT at k6 ⊢
    rw [o 9 (by omega) (by omega) (by omega), o 13 (by omega) (by omega) (by omega), o 14 (by omega) (by omega) (by omega), o 15 (by omega) (by omega) (by omega)]; exact k6
theorem sL_all {U : HS} {v : Int64} : (sL U 60 0 v).1 = U.1 ∧ (sL U 60 0 v).2.2 = U.2.2 ∧ (∀ x, x ≠ 60 → (sL U 60 0 v).2.1 x = U.2.1 x) ∧ (sL U 60 0 v).2.1 60 0 = v := by
  refine ⟨rfl, rfl, fun x hx => ?_, sL_60⟩
  unfold sL
  simp [hx]
end
theorem j_drop {S : HS} (h : Inv S) (p1 p2 : Int32) : J (f_L_drop p1 p2 S) (f_X8_drop p1 p2) := by
  obtain ⟨sp, ns, nr, na, ne, nm, lt, len, fr, to, sj, dr, ab, st, lby, se, trn, txt, kd, dd, qq, h⟩ := h
  have hI := I0_inv h
  have h0 := h
  obtain ⟨⟨g1, g2⟩, ⟨c1, c2, c3, c4, c5⟩, ⟨m1, m2, m3, m4⟩⟩ := h
  obtain ⟨gW, gA, gT, gK, gL, gB⟩ := g2
  have hna := gT.1
  have hns := gW.2.1
  have hnr := gW.1
  rw [wr_drop]
  have hru := m2.2.1.1
  rcases in_or p2 nr (by omega) with ⟨s, hs, rfl⟩ | hn2
  · rcases dr_or p1 with ⟨w, hw, rfl⟩ | ⟨hn1, -⟩
    · obtain ⟨hAI, -, -, -⟩ := rep_ok (set := cset st ab) gW gA na (Nat.le_refl _)
      have hD : DW nr ns kd 4 s (fun _ => 0) := Or.inr (Or.inr (Or.inr (Or.inr ⟨rfl, hs⟩)))
      have hX : XE ns nr ns nr len len trn trn txt txt kd kd fr fr to to := ⟨Nat.le_refl _, Nat.le_refl _, fun _ _ => ⟨rfl, rfl, rfl⟩, fun _ _ => ⟨rfl, rfl, rfl⟩⟩
      obtain ⟨D, hDr, hDF, hTA⟩ := draft6 c2.2.2.2.2.2.1 hna 4 s (fun _ => 0)
      have hx : f_X7_drop (nI w) (nI s) S = (f_X7_doDraft (nI w) D).bind (fun o25 => if o25.2.1 = 0 then rf (o25.1.2.2 16 1) 0 (fun b32 => (f_J6_bitCount_0f7a4 (o25.1.1 b32 6) o25.1).bind (fun o38 => some (o25.1, ((0 : Nat), o38)))) else some (o25.1, (o25.2.1, (0 : Int32)))) := by
        unfold f_X7_drop
        simp only [rDr_y hw, bsm, if_true, rRu_y c2.2.1 hs (show nr < 2 ^ 31 by omega), hDr]
      rw [hx]
      have df : ∀ x, x < 2 ∨ 16 ≤ x → D.1 x = S.1 x := fun x p => hDF.1 x (by omega) (by omega) (by omega)
      have cO := OC_DF hDF c2
      have hTM : ∀ T, TM (wrS T na (nI w) 4 (nI s) 0 0 0 0) na 4 s (fun _ => 0) := fun T => wrS_new ⟨fun e => absurd e (by decide), fun e => absurd e (by decide), fun e => absurd e (by decide)⟩
      rcases cact h0 hX gW hD hw df hDF.2.2 cO hTA cO.2.2.2.1 cO.2.2.1 with ⟨e, hx, hID⟩ | ⟨e, hst, r, hr, e2, hIr, -⟩ | ⟨e, B, hst, r, hr, e2, k1, k2, k3, k4, k5, k6, k7, ⟨b, kB, kC⟩, -⟩
      · exact J_ex (S1 := D) (v := 0) (c := 3) (k := 2) (w := 0) (by rw [hx]; rfl) (by decide) (by decide) (fun v => rfl) (dp8_60 hID.2.2.2.1.2.1.1 hnr hw hs (by rw [hID.2.2.2.1.2.2.2.2.1, e])) (I0_inv hID)
      · refine J_exO (c := 3) (k := 2) (by decide) (by decide) (fun _ _ => rfl) ⟨(r.1, (3, 0)), by rw [hr, bsm, e2]; rfl, rfl, ?_⟩
        dsimp only
        obtain ⟨w12, w1, w2, w3, w4, -⟩ := wr_I0 hIr (fun _ _ => rfl) (nI w) 4 (nI s) 0 0 0 0
        obtain ⟨U, hU, u2, u3, u4⟩ := mbad hIr hX gW hD e hst w2.2.1 (hTM r.1) w1 w2 w3 w4
        obtain ⟨v1, v2, v3, v4⟩ := u4 2
        rw [dp8_t hIr.2.2.2.1.2.1.1 hnr hw hs w12 e (ok := false) hU, if_neg (by decide)]
        refine ⟨_, rfl, th_at, ?_⟩
        obtain ⟨i0, ⟨i1, i2, i3, i4, i5⟩, -⟩ := hIr
        obtain ⟨z1, z2, z3, z4, z5⟩ := cls_mv (R := r.1) (F := sI U 36 36 2) (sp := sp) (ns := ns) (nr := nr) (na := na) (ne := ne) (nm := nm) (V := (rep kd fr to (lbL len) dd sj qq (cset st ab) na).2) (lt := lt) (len := len) (fr := fr) (to := to) (sj := sj) (dr := dr) (ab := ab) (st := st) (se := se) (trn := trn) (txt := txt) (kd := kd) (dd := dd) (qq := qq) (A := (rep kd fr to (lbL len) dd sj qq (cset st ab) na).1) (X := fun e => TX (rep kd fr to (lbL len) dd sj qq (se e) na).1 len trn txt) (fun x p => by rw [sI_o (by omega), u3 x p, wrS_o (by omega)]) (fun x p => by show U.2.1 x = _; rw [u2]; rfl) (by show U.2.2 = _; rw [u2]; rfl)
        exact I0_inv ⟨i0, ⟨z1 i1, z2 i2, z3 i3, z4 i4, z5 i5⟩, ⟨v1, v2, v3, v4⟩⟩
      · have hB2 : B.2.1 < 2 ^ 12 := by
          have := (Does4.mp (stp_does hst)).2.2.1
          rw [this]
          exact clr_lt (fok_lt hAI.2.1 hnr)
        have hob : oc b = some 0 := HL_oc (Or.inl ⟨rfl, rfl⟩) (RB_lo kB)
        refine J_ok ⟨(r.1, (0, nI (fb_ct (fun i => B.2.1.testBit i) 12))), by rw [hr, bsm, e2]; dsimp only; rw [if_pos rfl, kB.1, rf_some hob, kC.2.1, bitc7 _ hB2, bsm], rfl, ?_⟩
        dsimp only
        obtain ⟨hT1, hT2, hT3, hT6⟩ := sL_all (U := r.1) (v := (nI (fb_ct (fun i => B.2.1.testBit i) 12)).toInt64)
        generalize sL r.1 60 0 (nI (fb_ct (fun i => B.2.1.testBit i) 12)).toInt64 = T at hT1 hT2 hT3 hT6 ⊢
        have hTf : ∀ x, 36 ≤ x → T.1 x = S.1 x := fun x p => by rw [hT1, k1 x p]
        obtain ⟨w12, w1, w2, w3, w4, w5⟩ := wr_I0 h0 hTf (nI w) 4 (nI s) 0 0 0 0
        obtain ⟨tr, fl, tx, ty, ht, hgo⟩ := mgood h0 hX gW hD (fun e => absurd e (by decide)) (fun e => absurd e (by decide)) e hw hst w2.2.2.2.2 w5 w3.2 w3.1 w2.2.1 (hTM T) w1 w4
        obtain ⟨F, hF, -, f2, f3, f4, f5, f6, f7, f8, f9, f10, f11⟩ := hgo _ rfl
        rw [dp8_t (by rw [hTf 36 (by omega)]; exact hru) hnr hw hs w12 e (ok := true) ht, if_pos rfl, hF, bsm, f4, size8 _ hB2, bsm]
        refine ⟨_, rfl, f2, by rw [f3]; exact hT6, rfl, ?_⟩
        have fc : ∀ x, x < 36 → F.1 x = r.1.1 x := fun x p => by
          rw [f5 x (by omega) (by omega) (by omega) (by omega) (by omega) (by omega) (by omega) (by omega), wrS_o (by omega), hT1]
        obtain ⟨z1, z2, z3, z4, z5⟩ := cls_mv (R := r.1) (F := F) (sp := sp) (ns := ns) (nr := nr) (na := na + 1) (ne := ne) (nm := nm) (V := (rep kd fr to (lbL len) dd sj qq (cset st ab) na).2) (lt := lt) (len := len) (fr := fr) (to := to) (sj := exF sj na s) (dr := exF dr na w) (ab := exF ab na (st w)) (st := stA st w (na + 1)) (se := se) (trn := trn) (txt := txt) (kd := kd) (dd := exF dd na 4) (qq := exF qq na (fun _ => 0)) (A := B) (X := fun e => TX (rep kd fr to (lbL len) dd sj qq (se e) na).1 len trn txt) fc (fun x p => by rw [f3, wrS_2]; exact hT3 x p) (by rw [f3, wrS_2]; exact hT2)
        refine I0_next (lby' := lby) g1 ⟨gW, gA, gT, gK, gL, gB⟩ hX gW hw e hD (fun e => absurd e (by decide)) (fun e => absurd e (by decide)) gK (fun k hk => by have := gL k hk; omega) (fun v => ?_) hst (z1 k2) (z2 k3) (z3 k4) (z4 k5) (z5 k6) f7 ⟨?_, f11, ?_, fun a0 ha => ?_, f10⟩ f9 f8
        · rw [fb_ct_succ, exF_at, ← gB v]
          have : decide ((4 : Int32) = 3) = false := by decide
          rw [this, Bool.and_false]
          refine Eq.trans (Nat.add_zero _) (fb_ct_cong (fun k hk => ?_))
          rw [exF_ne (by omega)]
        · exact HM1_fr (fun x p p2 => f5 x (by omega) (by omega) (by omega) (by omega) (by omega) (by omega) (by omega) (by omega)) w2.1
        · rw [f5 45 (by omega) (by omega) (by omega) (by omega) (by omega) (by omega) (by omega) (by omega)]
          exact w2.2.2.1
        · have hfr : ∀ x, 48 ≤ x → x < 51 → F.1 x = (wrS T na (nI w) 4 (nI s) 0 0 0 0).1 x := fun x p p2 => f5 x (by omega) (by omega) (by omega) (by omega) (by omega) (by omega) (by omega) (by omega)
          by_cases ea : a0 = na
          · rw [ea, exF_at, exF_at, exF_at]
            exact TM_fr2 hfr (hTM T)
          · rw [exF_ne ea, exF_ne ea, exF_ne ea]
            exact TM_fr2 hfr (w2.2.2.2.1 a0 (by omega))
    · exact J_ex (S1 := S) (v := 0) (c := 1) (k := 1) (w := 0) (by unfold f_X7_drop; rw [rDr_n hn1]; rfl) (by decide) (by decide) (fun v => rfl) (dp8_n hru hnr (Or.inl hn1)) hI
  · rcases dr_or p1 with ⟨w, hw, rfl⟩ | ⟨hn1, -⟩
    · refine J_ex (S1 := S) (v := 0) (c := 1) (k := 1) (w := 0) ?_ (by decide) (by decide) (fun v => rfl) (dp8_n hru hnr (Or.inr hn2)) hI
      unfold f_X7_drop
      simp only [rDr_y hw, bsm, if_true, rRu_n c2.2.1 hn2]
      rfl
    · exact J_ex (S1 := S) (v := 0) (c := 1) (k := 1) (w := 0) (by unfold f_X7_drop; rw [rDr_n hn1]; rfl) (by decide) (by decide) (fun v => rfl) (dp8_n hru hnr (Or.inl hn1)) hI
