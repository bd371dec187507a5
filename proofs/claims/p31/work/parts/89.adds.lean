/-! shapes are added -/
theorem rng61 : ∀ a, a < 61 → rngB (nI a - 30) 0 = true ∧ rngB (nI a - 30) 1 = true := by decide +kernel
theorem rng12 : ∀ a, a < 14 → rngB (1 + nI a) 2 = true ∧ rngB (1 + nI a) 3 = true := by decide +kernel
section
variable {S : HS} {sp ns nr na ne nm : Nat} {lt len fr to sj dr ab st lby se : Nat → Nat} {trn : Nat → Bool} {txt : Nat → Nat → Nat} {kd dd : Nat → Int32} {qq : Nat → Nat → Int32} {w : Nat}
theorem LI_ns (hL : LI S na ns nr ne nm kd dd fr to dr ab st lby) : LI (sI S 38 1 (nI (ns + 1))) na (ns + 1) nr ne nm kd dd fr to dr ab st lby := by
  obtain ⟨l1, l2, l3, l4, l5, l6, l7, l8⟩ := hL
  refine ⟨fun k hk => ?_, fun j hj => ?_, ?_, ?_, ?_, ?_, ?_, fun x hx => ?_⟩
  · rw [sI_o (by omega)]; exact l1 k hk
  · rw [sI_o (by omega)]; exact l2 j hj
  · rw [sI_k (by omega)]; exact l3
  · rw [sI_at]
  · rw [sI_k (by omega)]; exact l5
  · rw [sI_k (by omega)]; exact l6
  · rw [sI_k (by omega)]; exact l7
  · rw [sI_o (by omega)]; exact l8 x hx
theorem adds_no {p1 p2 p3 p7 x8 x9 x10 x12 : Int32} (hC : CI S sp ns nr na ne nm lt len fr to sj dr ab st lby se trn txt kd dd qq) (hL : LI S na ns nr ne nm kd dd fr to dr ab st lby) (hX : WX na len sj dd qq) : Ok (f_L_adds_b128 p1 p2 p3 p7 S x8 x9 x10 0 x12 (-5008)) (fun o => o.2 = 1 ∧ BI o.1 sp) := by
  unfold f_L_adds_b128 f_L_adds_b148
  rw [if_pos rfl, if_pos rfl, nz_1, if_pos rfl]
  exact ⟨_, rfl, rfl, ns, nr, na, ne, nm, lt, len, fr, to, sj, dr, ab, st, lby, se, trn, txt, kd, dd, qq, ⟨hC, hL⟩, hX⟩
theorem adds_yes {S1 : HS} {p2 p3 p7 x10 x12 : Int32} {q : Nat → Int32} {c : Nat} {trn' : Nat → Bool} {txt' : Nat → Nat → Nat} (hC : CI S1 sp (ns + 1) nr (na + 1) ne nm lt (exF len ns c) fr to (exF sj na ns) (exF dr na w) (exF ab na (st w)) (stA st w (na + 1)) lby se trn' txt' kd (exF dd na 0) (exF qq na q)) (hL : LI S1 na ns nr ne nm kd dd fr to dr ab st lby) (hX : WX na len sj dd qq) (hXq : 0 < c → q 2 = nI (2 * c)) (hsj : ∀ a, a < na → dd a = 0 → sj a < ns) (hw : w < 4) (hna : na < 60) (hst : st w ≤ na) (hns : ns < 10)
    (hth : (rep kd fr to (lbL (exF len ns c)) (exF dd na 0) (exF sj na ns) (exF qq na q) (cset (stA st w (na + 1)) (exF ab na (st w))) (na + 1)).1.1.testBit ns = true) (hnm : ∀ v, v < 4 → (rep kd fr to (lbL (exF len ns c)) (exF dd na 0) (exF sj na ns) (exF qq na q) (cset (stA st w (na + 1)) (exF ab na (st w))) (na + 1)).1.2.2.1 ns v = q v)
    (hx : x10 = 0 ∧ q 2 = 2 * p7 ∧ q 3 = 2 ∨ x10 = 1 ∧ q 2 = x12) : Ok (f_L_adds_b128 (nI w) p2 p3 p7 S1 (q 0) (q 1) x10 1 x12 (nI ns)) (fun o => o.2 = 1 ∧ BI o.1 sp) := by
  obtain ⟨S2, hm, m1, m2, m3, m4⟩ := k_makes (d := 0) (c := 1) hL hw hna hst rfl
  have h381 : S2.1 38 1 = nI ns := m4.2.2.2.1
  have hL3 := LI_ns m4
  have hC3 : CI (sI S2 38 1 (nI (ns + 1))) sp (ns + 1) nr (na + 1) ne nm lt (exF len ns c) fr to (exF sj na ns) (exF dr na w) (exF ab na (st w)) (stA st w (na + 1)) lby se trn' txt' kd (exF dd na 0) (exF qq na q) := CI_lw hC (fun x hx => by rw [sI_o (by omega)]; exact m1 x hx) m2
  have hX3 : WX (na + 1) (exF len ns c) (exF sj na ns) (exF dd na 0) (exF qq na q) := by
    intro a ha h0 hl
    by_cases e : a = na
    · subst e
      rw [exF_at, exF_at] at hl ⊢
      rw [exF_at]
      exact hXq hl
    · rw [exF_ne e] at h0 hl ⊢
      rw [exF_ne e]
      have := hsj a (by omega) h0
      rw [exF_ne (by omega)] at hl ⊢
      exact hX a (by omega) h0 hl
  have n0 := k_number_y hC3 (k := ns) (w := 0) (by omega) (by omega) hth
  have n1 := k_number_y hC3 (k := ns) (w := 1) (by omega) (by omega) hth
  have n2 := k_number_y hC3 (k := ns) (w := 2) (by omega) (by omega) hth
  have n3 := k_number_y hC3 (k := ns) (w := 3) (by omega) (by omega) hth
  have ht := k_isThere hC3 (k := ns) (by omega)
  rw [hth] at ht
  rw [hnm 0 (by omega)] at n0
  rw [hnm 1 (by omega)] at n1
  rw [hnm 2 (by omega)] at n2
  rw [hnm 3 (by omega)] at n3
  have e1 : nI (ns + 1) - (1 : Int32) = nI ns := by rw [show (1 : Int32) = nI 1 from rfl, pk_sub (by omega)]; rfl
  have hfin : ∀ o : HS, o = sI S2 38 1 (nI (ns + 1)) → Ok (f_L_adds_b252 (nI w) p2 p3 p7 o) (fun o => o.2 = 1 ∧ BI o.1 sp) := by
    rintro o rfl
    unfold f_L_adds_b252 f_L_adds_b257
    rw [nz_1, if_pos rfl]
    exact ⟨_, rfl, rfl, _, _, _, _, _, _, _, _, _, _, _, _, _, _, _, _, _, _, _, _, ⟨hC3, hL3⟩, hX3⟩
  unfold f_L_adds_b128
  rw [if_neg (by decide), hm, bsm, if_pos ib15, if_pos ib15, if_pos ib15, cl1, h381, nI_1, sI_at, e1, if_pos rfl, ht, bsm]
  dsimp only
  rw [if_pos rfl, if_neg (show ¬ bI true = 0 by decide), show (0 : Int32) = nI 0 from rfl, n0, bsm]
  dsimp only
  rw [if_pos rfl, if_pos rfl, show (1 : Int32) = nI 1 from rfl, n1, bsm]
  dsimp only
  rw [if_pos rfl, if_pos rfl, show (2 : Int32) = nI 2 from rfl, n2, bsm]
  dsimp only
  rw [if_pos rfl]
  unfold f_L_adds_b233
  rcases hx with ⟨rfl, h2, h3⟩ | ⟨rfl, h2⟩
  · rw [if_pos (show (0 : Int32) = nI 0 from rfl), if_pos (show q 2 = nI 2 * p7 from h2), if_pos (show (0 : Int32) = 0 from rfl), show (3 : Int32) = nI 3 from rfl, n3, bsm]
    dsimp only
    rw [if_pos rfl, if_pos h3]
    exact hfin _ rfl
  · rw [if_neg (show ¬ (1 : Int32) = nI 0 by decide), if_pos h2, if_neg (show ¬ (1 : Int32) = 0 by decide)]
    exact hfin _ rfl
theorem DW_add (h : CI S sp ns nr na ne nm lt len fr to sj dr ab st lby se trn txt kd dd qq) {a : Nat} (ha : a < na) (h0 : dd a = 0) : sj a < ns := by
  have := (h.1.2.2.1.1 a ha).1
  rcases this with ⟨-, h1, -⟩ | ⟨e, -⟩ | ⟨e, -⟩ | ⟨e, -⟩ | ⟨e, -⟩
  · exact h1
  all_goals rw [h0] at e; exact absurd e (by decide)
theorem k_addb {p2 p3 p7 x8 x9 x12 h5 : Int32} (h : CL S sp ns nr na ne nm lt len fr to sj dr ab st lby se trn txt kd dd qq) (hX : WX na len sj dd qq) (hw : w < 4) (g0 : rngB x8 0 = true) (g1 : rngB x9 1 = true) (g2 : rngB x12 2 = true) (g3 : rngB h5 3 = true) {t0 : Int32} (ht : t0 = 1 ∧ ns < 10 ∧ na < 60 ∨ t0 = 0 ∧ (ns = 10 ∨ na = 60)) : Ok ((f_L_asks 0 (nI w) x8 x9 x12 h5 S).bind (fun o => f_L_adds_b128 (nI w) p2 p3 p7 o.1 x8 x9 1 t0 x12 o.2.2)) (fun o => o.2 = 1 ∧ BI o.1 sp) := by
  obtain ⟨hC, hL⟩ := h
  have hT := hC.1.2.2.2.1
  rw [asks0]
  have hg1 : (rngB x8 0 && rngB x9 1) = true := by rw [g0, g1]; rfl
  have hg2 : (rngB x12 2 && rngB h5 3) = true := by rw [g2, g3]; rfl
  rcases ht with ⟨rfl, hns, hna⟩ | ⟨rfl, hno⟩
  · rcases k_box hC hw hns hg1 hg2 with ⟨e, -⟩ | ⟨-, B, hD, hrep, hok⟩
    · omega
    · obtain ⟨⟨S1, e1, v1⟩, hr, hv, hs, hC1⟩ := hok
      dsimp only at hv hs hC1
      obtain ⟨rfl, rfl⟩ := Prod.mk.inj hv
      rw [hr, awr_0, bsm]
      obtain ⟨d1, d2, d3, d4⟩ := Does0.mp hD
      have hbit : B.1.testBit ns = true := by rw [d1, fb_bit_set, decide_eq_true rfl, Bool.or_true]
      refine adds_yes (q := fun v => if v = 0 then x8 else if v = 1 then x9 else if v = 2 then x12 else h5) (c := 0) hC1 (LI_fr (fun x hx _ => hs x hx) hL) hX (fun q => absurd q (by omega)) (fun a ha h0 => DW_add hC ha h0) hw hna (hT.2.2 w hw).1 hns ?_ ?_ (Or.inr ⟨rfl, rfl⟩)
      · rw [hrep]; exact hbit
      · intro v hv
        rw [hrep]
        dsimp only
        rw [d3 ns v hbit hv, if_pos rfl]
  · have hfail : Ok (f_X7_addBox (nI w) x8 x9 x12 h5 S) (fun o => o.2 = (3, 0) ∧ CI o.1 sp ns nr na ne nm lt len fr to sj dr ab st lby se trn txt kd dd qq ∧ ∀ x, 36 ≤ x → o.1.1 x = S.1 x) := by
      have hns := hC.1.2.1.2.1
      by_cases e10 : ns = 10
      · exact ⟨_, k_box_n hC hw e10 hg1 hg2, rfl, hC, fun _ _ => rfl⟩
      · rcases k_box hC hw (by omega) hg1 hg2 with ⟨-, q⟩ | ⟨e, -⟩
        · exact q
        · omega
    obtain ⟨⟨S1, e1, v1⟩, hr, hv, hC1, hs⟩ := hfail
    dsimp only at hv hs hC1
    obtain ⟨rfl, rfl⟩ := Prod.mk.inj hv
    rw [hr, awr_3, bsm]
    exact adds_no hC1 (LI_fr (fun x hx _ => hs x hx) hL) hX
theorem k_addl {p2 p3 x8 x9 x12 b : Int32} (h : CL S sp ns nr na ne nm lt len fr to sj dr ab st lby se trn txt kd dd qq) (hX : WX na len sj dd qq) (hw : w < 4) (g0 : rngB x8 0 = true) (g1 : rngB x9 1 = true) {t0 : Int32} (ht : t0 = 1 ∧ ns < 10 ∧ na < 60 ∧ sp ≠ 0 ∨ t0 = 0 ∧ (ns = 10 ∨ na = 60 ∨ sp = 0)) : Ok ((f_L_asks 1 (nI w) x8 x9 b 0 S).bind (fun o => f_L_adds_b128 (nI w) p2 p3 (nI sp) o.1 x8 x9 0 t0 x12 o.2.2)) (fun o => o.2 = 1 ∧ BI o.1 sp) := by
  obtain ⟨hC, hL⟩ := h
  have hT := hC.1.2.2.2.1
  rw [asks1]
  have hg1 : (rngB x8 0 && rngB x9 1) = true := by rw [g0, g1]; rfl
  rcases ht with ⟨rfl, hns, hna, hsp⟩ | ⟨rfl, hno⟩
  · rcases k_label hC hw hns hsp (p4 := if b ≤ 0 then 0 else 1) hg1 with ⟨e, -⟩ | ⟨-, B, hD, hrep, hok⟩
    · omega
    · obtain ⟨⟨S1, e1, v1⟩, hr, hv, hs, hC1⟩ := hok
      dsimp only at hv hs hC1
      obtain ⟨rfl, rfl⟩ := Prod.mk.inj hv
      rw [hr, awr_0, bsm]
      obtain ⟨d1, d2, d3, d4⟩ := Does0.mp hD
      have hbit : B.1.testBit ns = true := by rw [d1, fb_bit_set, decide_eq_true rfl, Bool.or_true]
      have r := adds_yes (p2 := p2) (p3 := p3) (x12 := x12) (x10 := 0) (p7 := nI sp) (q := qL x8 x9 (nI (2 * sp)) 2) (c := sp) hC1 (LI_fr (fun x hx _ => hs x hx) hL) hX (fun q => qL_2 _ _ _ _) (fun a ha h0 => DW_add hC ha h0) hw hna (hT.2.2 w hw).1 hns (by rw [hrep]; exact hbit) (fun v hv => by
        rw [hrep]
        dsimp only
        rw [d3 ns v hbit hv, if_pos rfl]) (Or.inl ⟨rfl, by rw [qL_2, show (2 : Int32) = nI 2 from rfl, pk_mul], qL_3 _ _ _ _⟩)
      rw [qL_0, qL_1] at r
      exact r
  · have hfail : Ok (f_X7_addLabel (nI w) x8 x9 (if b ≤ 0 then 0 else 1) S) (fun o => o.2 = (3, 0) ∧ CI o.1 sp ns nr na ne nm lt len fr to sj dr ab st lby se trn txt kd dd qq ∧ ∀ x, 36 ≤ x → o.1.1 x = S.1 x) := by
      have hns := hC.1.2.1.2.1
      by_cases e10 : sp = 0 ∨ ns = 10
      · exact ⟨_, k_label_n hC hw e10 hg1, rfl, hC, fun _ _ => rfl⟩
      · rcases k_label hC hw (show ns < 10 by omega) (show sp ≠ 0 by omega) (p4 := if b ≤ 0 then 0 else 1) hg1 with ⟨-, q⟩ | ⟨e, -⟩
        · exact q
        · omega
    obtain ⟨⟨S1, e1, v1⟩, hr, hv, hC1, hs⟩ := hfail
    dsimp only at hv hs hC1
    obtain ⟨rfl, rfl⟩ := Prod.mk.inj hv
    rw [hr, awr_3, bsm]
    exact adds_no hC1 (LI_fr (fun x hx _ => hs x hx) hL) hX
theorem k_adds {X Y : Nat} (h : BI S sp) (hw : w < 4) (hX : X < 2 ^ 31) (hY : Y < 2 ^ 31) : Ok (f_L_adds (nI w) (nI X) (nI Y) (nI sp) S) (fun o => o.2 = 1 ∧ BI o.1 sp) := by
  obtain ⟨ns, nr, na, ne, nm, lt, len, fr, to, sj, dr, ab, st, lby, se, trn, txt, kd, dd, qq, hCL, hWX⟩ := h
  have hns := hCL.1.1.2.1.2.1
  have hna := hCL.1.1.2.2.2.1.1
  have hsp5 := hCL.1.1.1.1
  have dX61 : nI X / (61 : Int32) = nI (X / 61) := pk_div (d := 61) hX (by decide) (by decide)
  have dX183 : nI X / (183 : Int32) = nI (X / 183) := pk_div (d := 183) hX (by decide) (by decide)
  have dY61 : nI Y / (61 : Int32) = nI (Y / 61) := pk_div (d := 61) hY (by decide) (by decide)
  have bX61 : X / 61 < 2 ^ 31 := Nat.lt_of_le_of_lt (Nat.div_le_self _ _) hX
  have bX183 : X / 183 < 2 ^ 31 := Nat.lt_of_le_of_lt (Nat.div_le_self _ _) hX
  have bY61 : Y / 61 < 2 ^ 31 := Nat.lt_of_le_of_lt (Nat.div_le_self _ _) hY
  have rX61 : nI X - nI X / (61 : Int32) * (61 : Int32) = nI (X % 61) := pk_rem (d := 61) hX (by decide) (by decide)
  have rY61 : nI Y - nI Y / (61 : Int32) * (61 : Int32) = nI (Y % 61) := pk_rem (d := 61) hY (by decide) (by decide)
  have r3 : nI (X / 61) - nI (X / 61) / (3 : Int32) * (3 : Int32) = nI (X / 61 % 3) := pk_rem (d := 3) bX61 (by decide) (by decide)
  have r12 : nI (Y / 61) - nI (Y / 61) / (12 : Int32) * (12 : Int32) = nI (Y / 61 % 12) := pk_rem (d := 12) bY61 (by decide) (by decide)
  have r9 : nI (X / 183) - nI (X / 183) / (9 : Int32) * (9 : Int32) = nI (X / 183 % 9) := pk_rem (d := 9) bX183 (by decide) (by decide)
  have g0 := (rng61 (X % 61) (Nat.mod_lt _ (by omega))).1
  have g1 := (rng61 (Y % 61) (Nat.mod_lt _ (by omega))).2
  have g2 := (rng12 (Y / 61 % 12) (by omega)).1
  have g3 := (rng12 (X / 183 % 9) (by omega)).2
  have hb : ∀ t0, (t0 = 1 ∧ ns < 10 ∧ na < 60 ∨ t0 = 0 ∧ (ns = 10 ∨ na = 60)) → Ok (f_L_adds_b67 (nI w) (nI X) (nI Y) (nI sp) S (nI (X % 61) - 30) (nI (Y % 61) - 30) 1 t0) (fun o => o.2 = 1 ∧ BI o.1 sp) := by
    intro t0 ht
    unfold f_L_adds_b67
    rw [k0 (by decide), k0 (by decide), if_neg (by decide), k0 (by decide), k0 (by decide), dY61, r12, dX183, r9]
    exact k_addb hCL hWX hw g0 g1 g2 g3 ht
  have hl : ∀ t0, (t0 = 1 ∧ ns < 10 ∧ na < 60 ∧ sp ≠ 0 ∨ t0 = 0 ∧ (ns = 10 ∨ na = 60 ∨ sp = 0)) → Ok (f_L_adds_b67 (nI w) (nI X) (nI Y) (nI sp) S (nI (X % 61) - 30) (nI (Y % 61) - 30) 0 t0) (fun o => o.2 = 1 ∧ BI o.1 sp) := by
    intro t0 ht
    unfold f_L_adds_b67
    rw [k0 (by decide), k0 (by decide), if_pos rfl, k0 (by decide), k0 (by decide)]
    exact k_addl hCL hWX hw g0 g1 ht
  unfold f_L_adds f_L_adds_b32 f_L_adds_b62 f_L_adds_b66
  rw [k0 (by decide), k0 (by decide), k0 (by decide), k0 (by decide), if_pos ib15, if_pos ib05, cl1, cl0, hCL.2.2.2.2.1, hCL.2.2.2.1, rX61, rY61, dX61, r3]
  rw [if_pos ib15, if_pos ib05]
  have c10 : (10 : Int32) ≤ nI ns ↔ ns = 10 := by rw [show (10 : Int32) = nI 10 from rfl, nI_leI (by omega) (by omega)]; omega
  have c60 : (60 : Int32) ≤ nI na ↔ na = 60 := by rw [show (60 : Int32) = nI 60 from rfl, nI_leI (by omega) (by omega)]; omega
  have csp : nI sp ≤ 0 ↔ sp = 0 := lb_le (by omega)
  by_cases hk : nI (X / 61 % 3) ≤ 0
  · rw [if_pos hk]
    by_cases e1 : ns = 10
    · rw [if_pos (c10.mpr e1)]
      exact hl 0 (Or.inr ⟨rfl, Or.inl e1⟩)
    · rw [if_neg (fun q => e1 (c10.mp q))]
      by_cases e2 : na = 60
      · rw [if_pos (c60.mpr e2)]
        exact hl 0 (Or.inr ⟨rfl, Or.inr (Or.inl e2)⟩)
      · rw [if_neg (fun q => e2 (c60.mp q)), if_pos rfl]
        by_cases e3 : sp = 0
        · rw [if_pos (csp.mpr e3)]
          exact hl 0 (Or.inr ⟨rfl, Or.inr (Or.inr e3)⟩)
        · rw [if_neg (fun q => e3 (csp.mp q))]
          exact hl 1 (Or.inl ⟨rfl, by omega, by omega, e3⟩)
  · rw [if_neg hk]
    by_cases e1 : ns = 10
    · rw [if_pos (c10.mpr e1)]
      exact hb 0 (Or.inr ⟨rfl, Or.inl e1⟩)
    · rw [if_neg (fun q => e1 (c10.mp q))]
      by_cases e2 : na = 60
      · rw [if_pos (c60.mpr e2)]
        exact hb 0 (Or.inr ⟨rfl, Or.inr e2⟩)
      · rw [if_neg (fun q => e2 (c60.mp q)), if_neg (by decide)]
        exact hb 1 (Or.inl ⟨rfl, by omega, by omega⟩)
end
