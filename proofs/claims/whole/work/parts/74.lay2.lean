/-! a rule is laid, by both -/
theorem KK_7 : ∀ m, m < 7 → KK (nI m) := by
  intro m hm
  match m, hm with
  | 0, _ => exact Or.inl (Or.inl rfl)
  | 1, _ => exact Or.inl (Or.inr (Or.inl rfl))
  | 2, _ => exact Or.inl (Or.inr (Or.inr (Or.inl rfl)))
  | 3, _ => exact Or.inl (Or.inr (Or.inr (Or.inr (Or.inl rfl))))
  | 4, _ => exact Or.inl (Or.inr (Or.inr (Or.inr (Or.inr (Or.inl rfl)))))
  | 5, _ => exact Or.inl (Or.inr (Or.inr (Or.inr (Or.inr (Or.inr rfl)))))
  | 6, _ => exact Or.inr rfl
theorem kd7 (p : Int32) : (∃ m, m < 7 ∧ p = nI m ∧ ¬ p < 0 ∧ ¬ (6 : Int32) < p ∧ (!(decide (p < 0)) && !(decide ((6 : Int32) < p))) = true) ∨ ((p < 0 ∨ (6 : Int32) < p) ∧ (!(decide (p < 0)) && !(decide ((6 : Int32) < p))) = false) := by
  by_cases h1 : p < 0
  · exact Or.inr ⟨Or.inl h1, by simp [h1]⟩
  · by_cases h2 : (6 : Int32) < p
    · exact Or.inr ⟨Or.inr h2, by simp [h2]⟩
    · have h3 : p < nI 7 := by
        have : p ≤ 6 := Int32.not_lt.mp h2
        rw [Int32.le_iff_toInt_le, show (6 : Int32).toInt = 6 from by decide] at this
        rw [Int32.lt_iff_toInt_lt, toInt_nI (by omega)]
        omega
      obtain ⟨m, hm, rfl⟩ := nI_ofp (n := 7) (by decide) h1 h3
      exact Or.inl ⟨m, hm, rfl, h1, h2, by simp [h1, h2]⟩
theorem j_lay {S : HS} (h : Inv S) (p1 p2 p3 p4 : Int32) : J (f_L_lay p1 p2 p3 p4 S) (f_X8_lay p1 p2 p3 p4) := by
  obtain ⟨sp, ns, nr, na, ne, nm, lt, len, fr, to, sj, dr, ab, st, lby, se, trn, txt, kd, dd, qq, h⟩ := h
  have hI := I0_inv h
  have h0 := h
  obtain ⟨⟨g1, g2⟩, ⟨c1, c2, c3, c4, c5⟩, ⟨m1, m2, m3, m4⟩⟩ := h
  obtain ⟨gW, gA, gT, gK, gL, gB⟩ := g2
  have hna := gT.1
  have hns := gW.2.1
  have hnr := gW.1
  rw [wr_lay]
  have hsh := m2.2.1.2.1
  have hru := m2.2.1.1
  have hm12 := m2.2.2.2.2.1
  rcases dr_or p1 with ⟨w, hw, rfl⟩ | ⟨hn1, -⟩
  rotate_left
  · exact J_ex (S1 := S) (v := 0) (c := 1) (k := 1) (w := 0) (by unfold f_X7_lay; rw [rDr_n hn1]; rfl) (by decide) (by decide) (fun v => rfl) (ly8_n hsh hns (Or.inl hn1)) hI
  rcases in_or p3 ns (by omega) with ⟨a, ha, rfl⟩ | hn3
  rotate_left
  · refine J_ex (S1 := S) (v := 0) (c := 1) (k := 1) (w := 0) ?_ (by decide) (by decide) (fun v => rfl) (ly8_n hsh hns (Or.inr (Or.inl hn3))) hI
    unfold f_X7_lay
    simp only [rDr_y hw, bsm, if_true, rSh_n c2.1 hn3]
    rfl
  rcases in_or p4 ns (by omega) with ⟨c, hc, rfl⟩ | hn4
  rotate_left
  · refine J_ex (S1 := S) (v := 0) (c := 1) (k := 1) (w := 0) ?_ (by decide) (by decide) (fun v => rfl) (ly8_n hsh hns (Or.inr (Or.inr hn4))) hI
    unfold f_X7_lay
    simp only [rDr_y hw, bsm, if_true, rSh_y c2.1 ha (show ns < 2 ^ 31 by omega), rSh_n c2.1 hn4]
    rfl
  have hx0 : f_X7_lay (nI w) p2 (nI a) (nI c) S = if p2 < 0 then some (S, (2, 0)) else if (6 : Int32) < p2 then some (S, (2, 0)) else if nI a = nI c then some (S, (2, 0)) else if nI nr < (12 : Int32) then (f_X6_draft (3 : Int32) (nI nr) (0 : Int32) (0 : Int32) (0 : Int32) (0 : Int32) S).bind (fun o79 => (f_X4_draft p2 (nI a) (nI c) o79).bind (fun o90 => (f_X7_doDraft (nI w) o90).bind (fun o95 => if o95.2.1 = 0 then some ((sI o95.1 5 0 ((o95.1.1 5 0) + (1 : Int32))), ((0 : Nat), nI nr)) else some (o95.1, (o95.2.1, (0 : Int32)))))) else some (S, (3, (0 : Int32))) := by
    unfold f_X7_lay f_X7_lay_b32
    simp only [rDr_y hw, bsm, if_true, rSh_y c2.1 ha (show ns < 2 ^ 31 by omega), rSh_y c2.1 hc (show ns < 2 ^ 31 by omega), c2.2.1]
  have hy0 : ∀ T : HS, (∀ x, 36 ≤ x → T.1 x = S.1 x) → f_X8_lay (nI w) p2 (nI a) (nI c) T = f_X8_lay_b29 (nI w) p2 (nI a) (nI c) T 1 := fun T hT => ly8_b (by rw [hT 36 (by omega)]; exact hsh) hns hw ha hc
  rcases kd7 p2 with ⟨m, hm, rfl, hp0, hp6, hpb⟩ | ⟨hp, hpb⟩
  rotate_left
  · refine J_ex (S1 := S) (v := 0) (c := 2) (k := 2) (w := 0) ?_ (by decide) (by decide) (fun v => rfl) (by rw [hy0 S (fun _ _ => rfl)]; exact ly8_g (Or.inl hpb)) hI
    rw [hx0]
    by_cases h1 : p2 < 0
    · rw [if_pos h1]
    · rw [if_neg h1, if_pos (hp.resolve_left h1)]
  by_cases hac : a = c
  · refine J_ex (S1 := S) (v := 0) (c := 2) (k := 2) (w := 0) ?_ (by decide) (by decide) (fun v => rfl) (by rw [hy0 S (fun _ _ => rfl)]; exact ly8_g (Or.inr (by rw [hac]))) hI
    rw [hx0, if_neg hp0, if_neg hp6, if_pos (by rw [hac])]
  have hac' : ¬ nI a = nI c := fun q => hac ((nI_eq (by omega) (by omega)).mp q)
  rw [hx0, if_neg hp0, if_neg hp6, if_neg hac']
  have hy1 : ∀ T : HS, (∀ x, 36 ≤ x → T.1 x = S.1 x) → f_X8_lay (nI w) (nI m) (nI a) (nI c) T = f_X8_lay_b52 (nI w) (nI m) (nI a) (nI c) T 1 1 := fun T hT => by rw [hy0 T hT, ly8_k hpb hac']
  rcases Nat.lt_or_ge nr 12 with h12 | h12
  rotate_left
  · have e : nr = 12 := by omega
    refine J_ex (S1 := S) (v := 0) (c := 3) (k := 3) (w := 0) ?_ (by decide) (by decide) (fun v => rfl) (by rw [hy1 S (fun _ _ => rfl)]; exact ly8_f hru hnr hm12 hna (Or.inl e)) hI
    rw [e, if_neg (by decide)]
  rw [if_pos (show nI nr < (12 : Int32) from lt_nI (n := 12) h12 (by decide))]
  have hD : DW (nr + 1) ns (exF kd nr (nI m)) 3 nr (fun _ => 0) := Or.inr (Or.inr (Or.inr (Or.inl ⟨rfl, by omega, by rw [exF_at]; exact KK_7 m hm⟩)))
  have hX : XE ns nr ns (nr + 1) len len trn trn txt txt kd (exF kd nr (nI m)) fr (exF fr nr a) to (exF to nr c) := ⟨Nat.le_refl _, by omega, fun _ _ => ⟨rfl, rfl, rfl⟩, fun k hk => ⟨exF_ne (by omega), exF_ne (by omega), exF_ne (by omega)⟩⟩
  have hRW : RW (nr + 1) ns (exF kd nr (nI m)) (exF fr nr a) (exF to nr c) := by
    refine ⟨by omega, hns, fun k hk => ?_⟩
    by_cases e : k = nr
    · rw [e, exF_at, exF_at]; exact ⟨ha, hc⟩
    · rw [exF_ne e, exF_ne e]; exact gW.2.2 k (by omega)
  obtain ⟨D1, hDr, hDF, hTA⟩ := draft6 c2.2.2.2.2.2.1 hna 3 nr (fun _ => 0)
  have cO1 := OC_DF hDF c2
  obtain ⟨rc1, rc2⟩ := RC_ru (k := nI m) cO1.2.2.2.1 h12 (show a < 10 by omega) (show c < 10 by omega)
  rw [hDr, bsm, draft4 cO1.2.1 h12, bsm]
  generalize hDD : sI (sI (sI D1 6 nr (nI m)) 7 nr (nI a)) 8 nr (nI c) = D at rc1 rc2
  have d1 : ∀ x, x ≠ 6 → x ≠ 7 → x ≠ 8 → D.1 x = D1.1 x := fun x p q r => by rw [← hDD, sI_o r, sI_o q, sI_o p]
  have d2 : D.2 = S.2 := by rw [← hDD]; exact hDF.2.2
  have df : ∀ x, x < 2 ∨ 16 ≤ x → D.1 x = S.1 x := fun x p => by rw [d1 x (by omega) (by omega) (by omega), hDF.1 x (by omega) (by omega) (by omega)]
  have hTA' : na < 60 → TA D na 3 nr (fun _ => 0) := fun e => by
    have := hTA e
    unfold TA at this ⊢
    rw [d1 10 (by omega) (by omega) (by omega), d1 11 (by omega) (by omega) (by omega), d1 12 (by omega) (by omega) (by omega)]
    exact this
  have cO : OC D ns nr na len trn txt kd fr to dd sj qq dr ab st := by
    obtain ⟨k1, k2, k3, k4, k5, k6⟩ := cO1
    refine ⟨by rw [d1 2 (by omega) (by omega) (by omega)]; exact k1, by rw [d1 5 (by omega) (by omega) (by omega)]; exact k2, ?_, rc2, fun a ha => ?_, ?_⟩
    · unfold HS1 at k3 ⊢
      rw [d1 2 (by omega) (by omega) (by omega), d1 3 (by omega) (by omega) (by omega), d1 4 (by omega) (by omega) (by omega)]; exact k3
    · have := k5 a ha
      unfold TA at this ⊢
      rw [d1 10 (by omega) (by omega) (by omega), d1 11 (by omega) (by omega) (by omega), d1 12 (by omega) (by omega) (by omega)]; exact this
    · unfold CT at k6 ⊢
      rw [d1 9 (by omega) (by omega) (by omega), d1 13 (by omega) (by omega) (by omega), d1 14 (by omega) (by omega) (by omega), d1 15 (by omega) (by omega) (by omega)]; exact k6
  have hTM : ∀ T, TM (wrS T na (nI w) 3 (nI nr) 0 0 0 0) na 3 nr (fun _ => 0) := fun T => wrS_new ⟨fun e => absurd e (by decide), fun e => absurd e (by decide), fun e => absurd e (by decide)⟩
  have hMC : ∀ T : HS, (∀ x, 36 ≤ x → T.1 x = S.1 x) → MC (wrS (rlS T nr na (nI m) (nI a) (nI c)) na (nI w) 3 (nI nr) 0 0 0 0) nr (nr + 1) ns (exF kd nr (nI m)) (exF fr nr a) (exF to nr c) (lbL len) := fun T hT => MC_fr2 (wrS_o (by omega)) (fun x p q => wrS_o (by omega)) (by rw [wrS_o (by omega)]) (by rw [wrS_o (by omega)]) (MC_ru (MC_fr2 (hT 38 (by omega)) (fun x p _ => hT x (by omega)) (by rw [hT 36 (by omega)]) (by rw [hT 36 (by omega)]) m2.2.1) h12 (show a < 10 by omega) (show c < 10 by omega))
  have hrl : ∀ T : HS, (∀ x, 36 ≤ x → T.1 x = S.1 x) → ∀ x, 36 ≤ x → (rlS T nr na (nI m) (nI a) (nI c)).1 x = (rlS S nr na (nI m) (nI a) (nI c)).1 x := by
    intro T hT x hx
    by_cases e : x = 42 ∨ x = 43 ∨ x = 44 ∨ x = 45
    · funext j
      obtain ⟨r1, r2, r3, r4⟩ := rlS_r (T := T) (nr := nr) (na := na) (k := nI m) (a := nI a) (c := nI c) (j := j)
      obtain ⟨s1, s2, s3, s4⟩ := rlS_r (T := S) (nr := nr) (na := na) (k := nI m) (a := nI a) (c := nI c) (j := j)
      rcases e with rfl | rfl | rfl | rfl
      · rw [r1, s1, hT 42 (by omega)]
      · rw [r2, s2, hT 43 (by omega)]
      · rw [r3, s3, hT 44 (by omega)]
      · rw [r4, s4, hT 45 (by omega)]
    · rw [rlS_o (by omega), rlS_o (by omega), hT x hx]
  rcases cact h0 hX hRW hD hw df d2 cO hTA' rc1 cO.2.2.1 with ⟨e, hx, hID⟩ | ⟨e, hst, r, hr, e2, hIr, kr⟩ | ⟨e, B, hst, r, hr, e2, k1, k2, k3, k4, k5, k6, k7, -, -⟩
  · exact J_ex (S1 := D) (v := 0) (c := 3) (k := 3) (w := 0) (by rw [hx]; rfl) (by decide) (by decide) (fun v => rfl) (by rw [hy1 D (fun x p => df x (by omega))]; exact ly8_f hID.2.2.2.1.2.1.1 hnr hID.2.2.2.1.2.2.2.2.1 hna (Or.inr e)) (I0_inv hID)
  · refine J_exO (c := 3) (k := 3) (by decide) (by decide) (fun _ _ => rfl) ⟨(r.1, (3, 0)), by rw [hr, bsm, e2]; rfl, rfl, ?_⟩
    dsimp only
    obtain ⟨w12, w1, w2, w3, w4, -⟩ := wr_I0 (I0_ru (k := nI m) (n := na) (a := nI a) (c := nI c) h0) (hrl r.1 kr) (nI w) 3 (nI nr) 0 0 0 0
    obtain ⟨U, hU, u2, u3, u4⟩ := mbad h0 hX hRW hD e hst (hMC r.1 kr) (hTM _) w1 w2 w3 w4
    obtain ⟨v1, v2, v3, v4⟩ := u4 3
    rw [hy1 r.1 kr, ly8_t hIr.2.2.2.1.2.1.1 h12 hIr.2.2.2.1.2.2.2.2.1 e (ok := false) hU, if_neg (by decide)]
    refine ⟨_, rfl, th_at, ?_⟩
    obtain ⟨i0, ⟨i1, i2, i3, i4, i5⟩, -⟩ := hIr
    obtain ⟨z1, z2, z3, z4, z5⟩ := cls_mv (R := r.1) (F := sI U 36 36 3) (sp := sp) (ns := ns) (nr := nr) (na := na) (ne := ne) (nm := nm) (V := (rep kd fr to (lbL len) dd sj qq (cset st ab) na).2) (lt := lt) (len := len) (fr := fr) (to := to) (sj := sj) (dr := dr) (ab := ab) (st := st) (se := se) (trn := trn) (txt := txt) (kd := kd) (dd := dd) (qq := qq) (A := (rep kd fr to (lbL len) dd sj qq (cset st ab) na).1) (X := fun e => TX (rep kd fr to (lbL len) dd sj qq (se e) na).1 len trn txt) (fun x p => by rw [sI_o (by omega), u3 x p, wrS_o (by omega), rlS_o (by omega)]) (fun x p => by show U.2.1 x = _; rw [u2]; rfl) (by show U.2.2 = _; rw [u2]; rfl)
    exact I0_inv ⟨i0, ⟨z1 i1, z2 i2, z3 i3, z4 i4, z5 i5⟩, ⟨v1, v2, v3, v4⟩⟩
  · have k35 : r.1.1 5 0 = nI nr := k3.2.1
    refine J_ok ⟨(sI r.1 5 0 (nI (nr + 1)), (0, nI nr)), by rw [hr, bsm, e2]; dsimp only; rw [if_pos rfl, k35, nI_1], rfl, ?_⟩
    dsimp only
    obtain ⟨hT1, hT2, hT3, hT6⟩ := sL_all (U := sI r.1 5 0 (nI (nr + 1))) (v := (nI nr).toInt64)
    generalize sL (sI r.1 5 0 (nI (nr + 1))) 60 0 (nI nr).toInt64 = T at hT1 hT2 hT3 hT6 ⊢
    have hTf : ∀ x, 36 ≤ x → T.1 x = S.1 x := fun x p => by rw [hT1, sI_o (by omega), k1 x p]
    obtain ⟨w12, w1, w2, w3, w4, w5⟩ := wr_I0 (I0_ru (k := nI m) (n := na) (a := nI a) (c := nI c) h0) (hrl T hTf) (nI w) 3 (nI nr) 0 0 0 0
    obtain ⟨tr, fl, tx, ty, ht, hgo⟩ := mgood h0 hX hRW hD (fun e => absurd e (by decide)) (fun e => absurd e (by decide)) e hw hst w2.2.2.2.2 w5 w3.2 w3.1 (hMC T hTf) (hTM _) w1 w4
    obtain ⟨F, hF, -, f2, f3, -, f5, f6, f7, f8, f9, f10, f11⟩ := hgo _ rfl
    have hF7 : F.1 36 7 = nI nr := by rw [f6 7 (by omega)]; exact w2.2.1.1
    rw [hy1 T hTf, ly8_t (by rw [hTf 36 (by omega)]; exact hru) h12 (by rw [hTf 36 (by omega)]; exact hm12) e (ok := true) ht, if_pos rfl, hF, bsm]
    dsimp only
    rw [hF7, nI_1, sI_at, show (1 : Int32) = nI 1 from rfl, pk_sub (by omega), show nr + 1 - 1 = nr by omega]
    refine ⟨_, rfl, by rw [sI_k (by omega)]; exact f2, by show F.2.1 60 0 = _; rw [f3]; exact hT6, rfl, ?_⟩
    have fc : ∀ x, x < 36 → (sI F 36 7 (nI (nr + 1))).1 x = (sI r.1 5 0 (nI (nr + 1))).1 x := fun x p => by
      rw [sI_o (by omega), f5 x (by omega) (by omega) (by omega) (by omega) (by omega) (by omega) (by omega) (by omega), wrS_o (by omega), rlS_o (by omega), hT1]
    have fo : ∀ x, x ≠ 36 → (sI F 36 7 (nI (nr + 1))).1 x = F.1 x := fun x p => sI_o p
    have fk : ∀ k, k ≠ 7 → (sI F 36 7 (nI (nr + 1))).1 36 k = F.1 36 k := fun k p => sI_k p
    obtain ⟨z1, z2, z3, z4, z5⟩ := cls_mv (R := sI r.1 5 0 (nI (nr + 1))) (F := sI F 36 7 (nI (nr + 1))) (sp := sp) (ns := ns) (nr := nr + 1) (na := na + 1) (ne := ne) (nm := nm) (V := (rep kd fr to (lbL len) dd sj qq (cset st ab) na).2) (lt := lt) (len := len) (fr := exF fr nr a) (to := exF to nr c) (sj := exF sj na nr) (dr := exF dr na w) (ab := exF ab na (st w)) (st := stA st w (na + 1)) (se := se) (trn := trn) (txt := txt) (kd := exF kd nr (nI m)) (dd := exF dd na 3) (qq := exF qq na (fun _ => 0)) (A := B) (X := fun e => TX (rep kd fr to (lbL len) dd sj qq (se e) na).1 len trn txt) fc (fun x p => by show F.2.1 x = _; rw [f3, wrS_2]; exact hT3 x p) (by show F.2.2 = _; rw [f3, wrS_2]; exact hT2)
    have r5 : ∀ x, x ≠ 5 → (sI r.1 5 0 (nI (nr + 1))).1 x = r.1.1 x := fun x p => sI_o p
    refine I0_next (lby' := exF lby nr na) g1 ⟨gW, gA, gT, gK, gL, gB⟩ hX hRW hw e hD (fun e => absurd e (by decide)) (fun e => absurd e (by decide)) (fun k hk => ?_) (fun k hk => ?_) (fun v => ?_) hst (z1 (SC_fr (fun x p => r5 x (by omega)) k2)) (z2 ⟨?_, sI_at, ?_, ?_, fun a0 ha0 => ?_, ?_⟩) (z3 (BC_fr (fun x p _ => r5 x (by omega)) rfl rfl k4)) (z4 (BN_fr rfl k5)) (z5 (EC_fr (fun x p => r5 x (by omega)) (by rw [r5 35 (by omega)]; exact k6.2.2.2.2) rfl k6)) (SM_fr (fk 0 (by omega)) (fo 37 (by omega)) f7) ⟨?_, ?_, fun k hk => ?_, fun a0 ha0 => ?_, MT_fr2 (fun x p => fo x (by omega)) (fk 12 (by omega)) f10⟩ (BM_fr (fo 51 (by omega)) (fun x p _ => fo x (by omega)) (fun k _ => fk k (by omega)) f9) (EM_fr (fun x p _ => fo x (by omega)) (fun k _ => fk k (by omega)) f8)
    · by_cases ek : k = nr
      · rw [ek, exF_at, exF_at, exF_at]
        exact ⟨KK_7 m hm, hac⟩
      · rw [exF_ne ek, exF_ne ek, exF_ne ek]
        exact gK k (by omega)
    · by_cases ek : k = nr
      · rw [ek, exF_at]; omega
      · rw [exF_ne ek]
        have := gL k (by omega)
        omega
    · rw [fb_ct_succ, fb_ct_succ, exF_at, exF_at]
      have e1 : fb_ct (fun a => v a && decide (exF dd na 3 a = 3)) na = fb_ct (fun a => v a && decide (dd a = 3)) na := fb_ct_cong (fun k hk => by rw [exF_ne (by omega)])
      have e3 : fb_ct (fun k => v (exF lby nr na k)) nr = fb_ct (fun k => v (lby k)) nr := fb_ct_cong (fun k hk => by rw [exF_ne (by omega)])
      have e4 : decide ((3 : Int32) = 3) = true := by decide
      rw [e1, e3, gB v, e4, Bool.and_true]
    · rw [r5 2 (by omega)]; exact k3.1
    · have k33 := k3.2.2.1
      unfold HS1 at k33 ⊢
      rw [r5 2 (by omega), r5 3 (by omega), r5 4 (by omega)]; exact k33
    · have k33 := k3.2.2.2.1
      unfold RC at k33 ⊢
      rw [r5 6 (by omega), r5 7 (by omega), r5 8 (by omega)]; exact k33
    · have k33 := k3.2.2.2.2.1 a0 ha0
      unfold TA at k33 ⊢
      rw [r5 10 (by omega), r5 11 (by omega), r5 12 (by omega)]; exact k33
    · have k33 := k3.2.2.2.2.2
      unfold CT at k33 ⊢
      rw [r5 9 (by omega), r5 13 (by omega), r5 14 (by omega), r5 15 (by omega)]; exact k33
    · refine HM1_fr (fun x p q => ?_) w2.1
      rw [fo x (by omega)]
      exact f5 x (by omega) (by omega) (by omega) (by omega) (by omega) (by omega) (by omega) (by omega)
    · obtain ⟨n1, n2, n3, n4, n5, n6, n7⟩ := f11
      refine ⟨sI_at, by rw [fk 2 (by omega)]; exact n2, Nat.le_refl _, n4, n5, ?_, by rw [fo 38 (by omega)]; exact n7⟩
      rw [fo 42 (by omega), fo 43 (by omega), fo 44 (by omega)]
      exact n6
    · rw [fo 45 (by omega), f5 45 (by omega) (by omega) (by omega) (by omega) (by omega) (by omega) (by omega) (by omega), wrS_o (by omega)]
      obtain ⟨-, -, -, r4⟩ := rlS_r (T := T) (nr := nr) (na := na) (k := nI m) (a := nI a) (c := nI c) (j := k)
      rw [r4]
      by_cases ek : k = nr
      · rw [if_pos ek, ek, exF_at]
      · rw [if_neg ek, exF_ne ek, hTf 45 (by omega)]
        exact m2.2.2.1 k (by omega)
    · have hfr : ∀ x, 48 ≤ x → x < 51 → (sI F 36 7 (nI (nr + 1))).1 x = (wrS (rlS T nr na (nI m) (nI a) (nI c)) na (nI w) 3 (nI nr) 0 0 0 0).1 x := fun x p p2 => by
        rw [fo x (by omega)]
        exact f5 x (by omega) (by omega) (by omega) (by omega) (by omega) (by omega) (by omega) (by omega)
      by_cases ea : a0 = na
      · rw [ea, exF_at, exF_at, exF_at]
        exact TM_fr2 hfr (hTM _)
      · rw [exF_ne ea, exF_ne ea, exF_ne ea]
        exact TM_fr2 hfr (w2.2.2.2.1 a0 (by omega))
