/-! the other acts -/
theorem rng81 : ∀ a, a < 81 → rngB (nI a - 40) 0 = true ∧ rngB (nI a - 40) 1 = true := by decide +kernel
theorem rng1999 : ∀ a, a < 1999 → rngB (nI a - 999) 0 = true := by decide +kernel
theorem nI_le0 {v : Nat} (h : v < 2 ^ 31) : (0 : Int32) ≤ nI v := Int32.not_lt.mp (nI_pos h)
section
variable {S : HS} {sp ns nr na ne nm : Nat} {lt len fr to sj dr ab st lby se : Nat → Nat} {trn : Nat → Bool} {txt : Nat → Nat → Nat} {kd dd : Nat → Int32} {qq : Nat → Nat → Int32} {w : Nat}
theorem acts_yes {S1 : HS} {p1 p3 p4 : Int32} {v nr' s : Nat} {d : Int32} {q : Nat → Int32} {fr' to' lby' : Nat → Nat} {kd' : Nat → Int32} (hC : CI S1 sp ns nr' (na + 1) ne nm lt len fr' to' (exF sj na s) (exF dr na w) (exF ab na (st w)) (stA st w (na + 1)) lby' se trn txt kd' (exF dd na d) (exF qq na q)) (hL : LI S1 na ns nr' ne nm kd' dd fr' to' dr ab st lby') (hX : WX na len sj dd qq) (hd : d ≠ 0) (hw : w < 4) (hna : na < 60) (hst : st w ≤ na) (hv : v < 2 ^ 31) (hV : (rep kd' fr' to' (lbL len) (exF dd na d) (exF sj na s) (exF qq na q) (cset (stA st w (na + 1)) (exF ab na (st w))) (na + 1)).2.testBit na = false) : Ok (f_L_acts_b519 p1 (nI w) p3 p4 S1 (nI v) 1) (fun o => o.2 = 1 ∧ BI o.1 sp) := by
  obtain ⟨S2, hm, m1, m2, m3, m4⟩ := k_makes (d := d) (c := 0) hL hw hna hst (if_neg hd).symm
  have hC2 := CI_lw hC m1 m2
  have h380 : S2.1 38 0 = nI (na + 1) := m4.2.2.1
  have e1 : nI (na + 1) - (1 : Int32) = nI na := by rw [show (1 : Int32) = nI 1 from rfl, pk_sub (by omega)]; rfl
  have hvd := k_isVoid hC2 (k := na) (by omega)
  rw [hV] at hvd
  unfold f_L_acts_b519 f_L_acts_b619
  rw [if_pos (nI_le0 hv), hm, bsm, if_neg (by decide), if_pos ib05, cl0, h380, if_neg (by rw [show (60 : Int32) = nI 60 from rfl, nI_ltI (by omega) (by omega)]; omega), k_acts hC2, bsm, if_pos ib05, if_pos rfl, if_pos ib05, e1, hvd, bsm]
  dsimp only
  rw [if_pos rfl, if_pos (show bI false = 0 from rfl), nz_1, if_pos rfl]
  exact ⟨_, rfl, rfl, _, _, _, _, _, _, _, _, _, _, _, _, _, _, _, _, _, _, _, _, ⟨hC2, m4⟩, WX_x hX hd⟩
theorem acts_no {p1 p2 p3 p4 : Int32} (h : CL S sp ns nr na ne nm lt len fr to sj dr ab st lby se trn txt kd dd qq) (hn : ∀ k j, k < ns → j < 4 → S.1 40 (4 * k + j) = nv (rep kd fr to (lbL len) dd sj qq (cset st ab) na).1 k j) (hX : WX na len sj dd qq) : Ok (f_L_acts_b519 p1 p2 p3 p4 S (-5008) 1) (fun o => o.2 = 1 ∧ BI o.1 sp) := by
  have hd := k_differs h.1 h.2.2.2.2.1 hn
  rw [dfN_same] at hd
  unfold f_L_acts_b519 f_L_acts_b564
  rw [if_neg (by decide), if_pos rfl, if_neg (by decide), hd, bsm]
  dsimp only
  rw [if_pos (show nI 0 = (0 : Int32) from rfl), k_acts h.1, bsm, if_pos ib05, cl0, h.2.2.2.1, if_pos rfl, nz_1, if_pos rfl]
  exact ⟨_, rfl, rfl, ns, nr, na, ne, nm, lt, len, fr, to, sj, dr, ab, st, lby, se, trn, txt, kd, dd, qq, h, hX⟩
/-- the board after an act that changes numbers -/
theorem V_na (h : CI S sp ns nr na ne nm lt len fr to sj dr ab st lby se trn txt kd dd qq) {V : Nat} (e : V = (rep kd fr to (lbL len) dd sj qq (cset st ab) na).2) : V.testBit na = false := by
  have := (rep_ok (set := cset st ab) h.1.2.1 h.1.2.2.1 na (Nat.le_refl _)).2.2.1
  rw [e]
  exact Nat.testBit_lt_two_pow this
/-- what the law sees of it -/
theorem acts_df {S1 : HS} {B : AB} {sj' dr' ab' st' : Nat → Nat} {dd' : Nat → Int32} {qq' : Nat → Nat → Int32} {V : Nat} {na' : Nat} (h : CI S sp ns nr na ne nm lt len fr to sj dr ab st lby se trn txt kd dd qq) (hC1 : CI S1 sp ns nr na' ne nm lt len fr to sj' dr' ab' st' lby se trn txt kd dd' qq') (hrep : rep kd fr to (lbL len) dd' sj' qq' (cset st' ab') na' = (B, V)) (h381 : S1.1 38 1 = nI ns) (hB : B.1 = (rep kd fr to (lbL len) dd sj qq (cset st ab) na).1.1) (hn : ∀ k j, k < ns → j < 4 → S1.1 40 (4 * k + j) = nv (rep kd fr to (lbL len) dd sj qq (cset st ab) na).1 k j) : f_L_differs S1 = some (S1, nI (fb_ct (fun k => (rep kd fr to (lbL len) dd sj qq (cset st ab) na).1.1.testBit k && dfA (rep kd fr to (lbL len) dd sj qq (cset st ab) na).1 B k) 10)) := by
  have hA := (rep_ok (set := cset st ab) h.1.2.1 h.1.2.2.1 na (Nat.le_refl _)).1
  have hns := h.1.2.1.2.1
  rw [k_differs hC1 h381 hn, hrep]
  dsimp only
  rw [dfN_dfA hB hns hA.1]
theorem k_actm {p1 p3 p4 x y : Int32} {s : Nat} (h : CL S sp ns nr na ne nm lt len fr to sj dr ab st lby se trn txt kd dd qq) (hX : WX na len sj dd qq) (hn : ∀ k j, k < ns → j < 4 → S.1 40 (4 * k + j) = nv (rep kd fr to (lbL len) dd sj qq (cset st ab) na).1 k j) (hw : w < 4) (hs : s < ns) (g0 : rngB x 0 = true) (g1 : rngB y 1 = true) (hy : ((p3 / (10 : Int32)) - (p3 / (10 : Int32)) / (81 : Int32) * (81 : Int32)) - (40 : Int32) = y) : Ok (f_L_acts_b62 p1 (nI w) p3 p4 S (nI s) x) (fun o => o.2 = 1 ∧ BI o.1 sp) := by
  obtain ⟨hC, hL⟩ := h
  have hT := hC.1.2.2.2.1
  have hns := hC.1.2.1.2.1
  unfold f_L_acts_b62
  rw [k0 (by decide), k0 (by decide), hy, asks2]
  rcases k_move hC hw hs g0 g1 with hok | ⟨hna, B, hD, hrep, hok⟩
  · obtain ⟨⟨S1, e1, v1⟩, hr, hv, hC1, hf⟩ := hok
    dsimp only at hv hf hC1
    obtain ⟨rfl, rfl⟩ := Prod.mk.inj hv
    have hL1 := LI_fr (S' := S1) (fun x hx _ => hf x hx) hL
    rw [hr, awr_3, bsm]
    dsimp only
    rw [if_pos (by decide)]
    unfold f_L_acts_b133 f_L_acts_b138
    exact acts_no ⟨hC1, hL1⟩ (by rw [hf 40 (by omega)]; exact hn) hX
  · obtain ⟨⟨S1, e1, v1⟩, hr, hv, hf, hC1⟩ := hok
    dsimp only at hv hf hC1
    obtain ⟨rfl, rfl⟩ := Prod.mk.inj hv
    have hL1 := LI_fr (S' := S1) (fun x hx _ => hf x hx) hL
    obtain ⟨d0, d1, d2, d3, -, d5⟩ := Does1.mp hD
    have hct := fb_ct_le (fun k => (rep kd fr to (lbL len) dd sj qq (cset st ab) na).1.1.testBit k && dfA (rep kd fr to (lbL len) dd sj qq (cset st ab) na).1 B k) 10
    have hdf := acts_df hC hC1 hrep hL1.2.2.2.1 d1 (by rw [hf 40 (by omega)]; exact hn)
    have n0 := k_number_y hC1 hs (w := 0) (by omega) (by rw [hrep]; dsimp only; rw [d1]; exact d0)
    have n1 := k_number_y hC1 hs (w := 1) (by omega) (by rw [hrep]; dsimp only; rw [d1]; exact d0)
    rw [hrep] at n0 n1
    dsimp only at n0 n1
    rw [d5 s 0 d0 (by omega), if_pos ⟨by omega, clo_self⟩] at n0
    rw [d5 s 1 d0 (by omega), if_pos ⟨by omega, clo_self⟩] at n1
    have hby : ∀ u v : Int32, u + (v - u) = v := fun u v => by grind
    rw [hby] at n0 n1
    have n0' : f_X7_number (nI s) (0 : Int32) S1 = some (S1, (0, x)) := n0
    have n1' : f_X7_number (nI s) (1 : Int32) S1 = some (S1, (0, y)) := n1
    rw [hr, awr_0, bsm]
    dsimp only
    rw [if_neg (nI_pos (by omega)), hdf, bsm]
    dsimp only
    rw [if_pos rfl, n0', bsm]
    dsimp only
    rw [if_pos rfl, if_pos rfl, n1', bsm]
    dsimp only
    rw [if_pos rfl, if_pos rfl]
    unfold f_L_acts_b133 f_L_acts_b138
    exact acts_yes (v := fb_ct (fun k => (rep kd fr to (lbL len) dd sj qq (cset st ab) na).1.1.testBit k && dfA (rep kd fr to (lbL len) dd sj qq (cset st ab) na).1 B k) 10) hC1 hL1 hX (by decide) hw hna (hT.2.2 w hw).1 (by omega) (by rw [hrep]; exact V_na hC rfl)
theorem k_actr {p1 p3 p4 x y : Int32} {s : Nat} (h : CL S sp ns nr na ne nm lt len fr to sj dr ab st lby se trn txt kd dd qq) (hX : WX na len sj dd qq) (hn : ∀ k j, k < ns → j < 4 → S.1 40 (4 * k + j) = nv (rep kd fr to (lbL len) dd sj qq (cset st ab) na).1 k j) (hw : w < 4) (hs : s < ns) (g0 : rngB x 2 = true) (g1 : rngB y 3 = true) : Ok (f_L_acts_b179 p1 (nI w) p3 p4 S (nI s) x y) (fun o => o.2 = 1 ∧ BI o.1 sp) := by
  obtain ⟨hC, hL⟩ := h
  have hT := hC.1.2.2.2.1
  have hns := hC.1.2.1.2.1
  unfold f_L_acts_b179
  rw [asks3]
  rcases k_resize hC hw hs g0 g1 with hok | ⟨hna, B, hD, hrep, hok⟩
  · obtain ⟨⟨S1, e1, v1⟩, hr, hv, hC1, hf⟩ := hok
    dsimp only at hv hf hC1
    obtain ⟨rfl, rfl⟩ := Prod.mk.inj hv
    have hL1 := LI_fr (S' := S1) (fun x hx _ => hf x hx) hL
    rw [hr, awr_3, bsm]
    dsimp only
    rw [if_pos (by decide)]
    unfold f_L_acts_b238 f_L_acts_b243
    exact acts_no ⟨hC1, hL1⟩ (by rw [hf 40 (by omega)]; exact hn) hX
  · obtain ⟨⟨S1, e1, v1⟩, hr, hv, hf, hC1⟩ := hok
    dsimp only at hv hf hC1
    obtain ⟨rfl, rfl⟩ := Prod.mk.inj hv
    have hL1 := LI_fr (S' := S1) (fun x hx _ => hf x hx) hL
    obtain ⟨d0, d1, d2, d3, -, N1, u0, u1⟩ := Does2.mp hD
    have hct := fb_ct_le (fun k => (rep kd fr to (lbL len) dd sj qq (cset st ab) na).1.1.testBit k && dfA (rep kd fr to (lbL len) dd sj qq (cset st ab) na).1 B k) 10
    have hdf := acts_df hC hC1 hrep hL1.2.2.2.1 d1 (by rw [hf 40 (by omega)]; exact hn)
    have n0 := k_number_y hC1 hs (w := 2) (by omega) (by rw [hrep]; dsimp only; rw [d1]; exact d0)
    have n1 := k_number_y hC1 hs (w := 3) (by omega) (by rw [hrep]; dsimp only; rw [d1]; exact d0)
    rw [hrep] at n0 n1
    dsimp only at n0 n1
    have b0 : B.2.2.1 s 2 = x := by
      rw [u1.2.2.1 s 2 d0 (by omega) (by omega) (by omega), u0.2.1 s d0, if_pos clo_self]
      rfl
    have b1 : B.2.2.1 s 3 = y := by
      have := u1.2.1 s d0
      rw [if_pos clo_self] at this
      exact this
    rw [b0] at n0
    rw [b1] at n1
    rw [hr, awr_0, bsm]
    dsimp only
    rw [if_neg (nI_pos (by omega)), hdf, bsm]
    dsimp only
    rw [if_pos rfl, show (2 : Int32) = nI 2 from rfl, n0, bsm]
    dsimp only
    rw [if_pos rfl, if_pos rfl, show (3 : Int32) = nI 3 from rfl, n1, bsm]
    dsimp only
    rw [if_pos rfl, if_pos rfl]
    unfold f_L_acts_b238 f_L_acts_b243
    exact acts_yes hC1 hL1 hX (by decide) hw hna (hT.2.2 w hw).1 (by omega) (by rw [hrep]; exact V_na hC rfl)
theorem k_actl {p1 p3 p4 : Int32} {m a c : Nat} (h : CL S sp ns nr na ne nm lt len fr to sj dr ab st lby se trn txt kd dd qq) (hX : WX na len sj dd qq) (hn : ∀ k j, k < ns → j < 4 → S.1 40 (4 * k + j) = nv (rep kd fr to (lbL len) dd sj qq (cset st ab) na).1 k j) (hw : w < 4) (ha : a < ns) (hc : c < ns) (hac : a ≠ c) (hm : m < 7) {K : XO → Option (HS × Int32)} (hK : ∀ o, K o = if o.2.2 < 0 then f_L_acts_b318 p1 (nI w) p3 p4 o.1 (nI a) o.2.2 (nI c) (nI m) else if ib (2 : Int32) (5) = true then (if (12 : Int32) ≤ (o.1.1 38 (2 : Int32).toNatClampNeg) then f_L_acts_b322 p1 (nI w) p3 p4 o.1 (nI a) o.2.2 (nI c) (nI m) else if ib (2 : Int32) (5) = true then (if o.2.2 = (o.1.1 38 (2 : Int32).toNatClampNeg) then f_L_acts_b318 p1 (nI w) p3 p4 o.1 (nI a) o.2.2 (nI c) (nI m) else f_L_acts_b322 p1 (nI w) p3 p4 o.1 (nI a) o.2.2 (nI c) (nI m)) else none) else none) : Ok ((f_L_asks 4 (nI w) (nI m) (nI a) (nI c) 0 S).bind K) (fun o => o.2 = 1 ∧ BI o.1 sp) := by
  obtain ⟨hC, hL⟩ := h
  have hT := hC.1.2.2.2.1
  have hns := hC.1.2.1.2.1
  rw [asks4]
  rcases k_lay hC hw ha hc hac hm with hok | ⟨hnr, hna, B, hrep, hok⟩
  · obtain ⟨⟨S1, e1, v1⟩, hr, hv, hC1, hf⟩ := hok
    dsimp only at hv hf hC1
    obtain ⟨rfl, rfl⟩ := Prod.mk.inj hv
    have hL1 := LI_fr (S' := S1) (fun x hx _ => hf x hx) hL
    rw [hr, awr_3, bsm, hK]
    dsimp only
    rw [if_pos (by decide)]
    unfold f_L_acts_b318 f_L_acts_b323 f_L_acts_b371
    rw [if_pos (by decide)]
    exact acts_no ⟨hC1, hL1⟩ (by rw [hf 40 (by omega)]; exact hn) hX
  · obtain ⟨⟨S1, e1, v1⟩, hr, hv, hf, hC1⟩ := hok
    dsimp only at hv hf hC1
    obtain ⟨rfl, rfl⟩ := Prod.mk.inj hv
    have hL1 := LI_fr (S' := S1) (fun x hx _ => hf x hx) hL
    obtain ⟨hrow, hL2⟩ := LI_rule hL1 hm (show a < 10 by omega) (show c < 10 by omega) hna
    have h382 : S1.1 38 2 = nI nr := hL1.2.2.2.2.1
    have h380 : S1.1 38 0 = nI na := hL1.2.2.1
    have h382' : (sI S1 37 nr (nI (m + 8 * a + 128 * c + 2048 * na))).1 38 2 = nI nr := by rw [sI_o (by omega)]; exact h382
    have hC2 : CI (sI (sI S1 37 nr (nI (m + 8 * a + 128 * c + 2048 * na))) 38 2 (nI (nr + 1))) sp ns (nr + 1) (na + 1) ne nm lt len (exF fr nr a) (exF to nr c) (exF sj na nr) (exF dr na w) (exF ab na (st w)) (stA st w (na + 1)) (exF lby nr na) se trn txt (exF kd nr (nI m)) (exF dd na 3) (exF qq na (fun _ => 0)) := CI_lw hC1 (fun x hx => by rw [sI_o (by omega), sI_o (by omega)]) rfl
    rw [hr, awr_0, bsm, hK]
    dsimp only
    rw [if_neg (nI_pos (by omega)), if_pos ib25, cl2, h382, if_neg (le12n hnr), if_pos ib25, if_pos rfl]
    unfold f_L_acts_b318 f_L_acts_b323 f_L_acts_b371
    rw [if_neg (nI_pos (by omega)), if_neg (by decide), if_pos ib25, if_pos ib05, cl2, cl0, h382, if_pos (ib_nI hnr (by omega)), if_pos ib25, if_pos ib25, nI_cl (by omega), h380, hrow, h382', nI_1]
    exact acts_yes hC2 hL2 hX (by decide) hw hna (hT.2.2 w hw).1 (by omega) (by rw [hrep]; exact V_na hC rfl)
theorem k_actd {p1 p3 p4 : Int32} {j : Nat} (h : CL S sp ns nr na ne nm lt len fr to sj dr ab st lby se trn txt kd dd qq) (hX : WX na len sj dd qq) (hn : ∀ k j, k < ns → j < 4 → S.1 40 (4 * k + j) = nv (rep kd fr to (lbL len) dd sj qq (cset st ab) na).1 k j) (hw : w < 4) (hj : j < nr) : Ok ((f_L_asks 5 (nI w) (nI j) 0 0 0 S).bind (fun o => f_L_acts_b419 p1 (nI w) p3 p4 o.1 o.2.2 (nI j) (bI ((rep kd fr to (lbL len) dd sj qq (cset st ab) na).1.2.1.testBit j)) 0 0)) (fun o => o.2 = 1 ∧ BI o.1 sp) := by
  obtain ⟨hC, hL⟩ := h
  have hT := hC.1.2.2.2.1
  have hns := hC.1.2.1.2.1
  have hnr := hC.1.2.1.1
  have hna0 := hT.1
  rw [asks5]
  rcases k_drop hC hw hj with ⟨hok, hwhy⟩ | ⟨hna, B, hD, hrep, hok⟩
  · obtain ⟨⟨S1, e1, v1⟩, hr, hv, hC1, hf⟩ := hok
    dsimp only at hv hf hC1
    obtain ⟨rfl, rfl⟩ := Prod.mk.inj hv
    have hL1 := LI_fr (S' := S1) (fun x hx _ => hf x hx) hL
    obtain ⟨r, hr2, hP⟩ := acts_no (p1 := p1) (p2 := nI w) (p3 := p3) (p4 := p4) ⟨hC1, hL1⟩ (by rw [hf 40 (by omega)]; exact hn) hX
    refine ⟨r, ?_, hP⟩
    rw [hr, awr_3, bsm, ← hr2]
    unfold f_L_acts_b419
    refine fx_run nr (fun i => (S1, -5008, nI j, bI ((rep kd fr to (lbL len) dd sj qq (cset st ab) na).1.2.1.testBit j), nI (fb_ct (fun i => (rep kd fr to (lbL len) dd sj qq (cset st ab) na).1.2.1.testBit i) i), nI i)) ?_ ?_ (FU_gt (by omega)) rfl
    · intro i rec hi
      unfold F_L_acts_b419 f_L_acts_b444
      dsimp only
      rw [if_pos ib25, cl2, hL1.2.2.2.2.1, if_neg (nlt_le hi (by omega)), k_force hC1 hi, bsm]
      dsimp only
      rw [if_pos rfl, ifb, nI_1, fb_ct_succ]
      cases (rep kd fr to (lbL len) dd sj qq (cset st ab) na).1.2.1.testBit i with
      | false => rw [if_neg (by decide), i32_00, nI_1, if_neg (by decide)]; rfl
      | true => rw [if_pos rfl, nI_1, if_pos rfl]
    · intro rec
      unfold F_L_acts_b419 f_L_acts_b472 f_L_acts_b517
      dsimp only
      rw [if_pos ib25, cl2, hL1.2.2.2.2.1, if_pos (nle_nI _), if_neg (by decide), if_pos ib05, cl0, hL1.2.2.1, ifb]
      rcases hwhy with e | e
      · cases (rep kd fr to (lbL len) dd sj qq (cset st ab) na).1.2.1.testBit j with
        | false => rw [if_neg (by decide)]
        | true => rw [if_pos rfl, if_pos (by rw [e]; rfl)]
      · rw [e, if_neg (by decide)]
  · obtain ⟨⟨S1, e1, v1⟩, hr, hv, hf, hC1⟩ := hok
    dsimp only at hv hf hC1
    obtain ⟨rfl, rfl⟩ := Prod.mk.inj hv
    have hL1 := LI_fr (S' := S1) (fun x hx _ => hf x hx) hL
    obtain ⟨d0, d1, d2, d3, d4⟩ := Does4.mp hD
    have hct := fb_ct_le (fun i => B.2.1.testBit i) 12
    obtain ⟨r, hr2, hP⟩ := acts_yes (p1 := p1) (p3 := p3) (p4 := p4) (v := fb_ct (fun i => B.2.1.testBit i) 12) hC1 hL1 hX (by decide) hw hna (hT.2.2 w hw).1 (by omega) (by rw [hrep]; exact V_na hC rfl)
    refine ⟨r, ?_, hP⟩
    have hA := (rep_ok (set := cset st ab) hC.1.2.1 hC.1.2.2.1 na (Nat.le_refl _)).1
    have hfo := fok_lt hA.2.1 hnr
    have hfB : ∀ i, B.2.1.testBit i = ((rep kd fr to (lbL len) dd sj qq (cset st ab) na).1.2.1.testBit i && !decide (i = j)) := fun i => by rw [d2, clr_bit (by omega) (by omega)]
    have hdf : f_L_differs S1 = some (S1, nI 0) := by
      rw [k_differs hC1 hL1.2.2.2.1 (by rw [hf 40 (by omega)]; exact hn), hrep]
      dsimp only
      rw [dfN_aeq d1 d3]
    rw [hr, awr_0, bsm, ← hr2]
    unfold f_L_acts_b419
    refine fx_run nr (fun i => (S1, nI (fb_ct (fun i => B.2.1.testBit i) 12), nI j, bI ((rep kd fr to (lbL len) dd sj qq (cset st ab) na).1.2.1.testBit j), nI (fb_ct (fun i => B.2.1.testBit i) i), nI i)) ?_ ?_ (FU_gt (by omega)) rfl
    · intro i rec hi
      have hfi := k_force hC1 hi
      rw [hrep] at hfi
      dsimp only at hfi
      unfold F_L_acts_b419 f_L_acts_b444
      dsimp only
      generalize fb_ct (fun i => B.2.1.testBit i) 12 = vv
      rw [if_pos ib25, cl2, hL1.2.2.2.2.1, if_neg (nlt_le hi (by omega)), hfi, bsm]
      dsimp only
      rw [if_pos rfl, ifb, nI_1, fb_ct_succ]
      cases B.2.1.testBit i with
      | false => rw [if_neg (by decide), i32_00, nI_1, if_neg (by decide)]; rfl
      | true => rw [if_pos rfl, nI_1, if_pos rfl]
    · intro rec
      have hfj := k_force hC1 hj
      rw [hrep] at hfj
      dsimp only at hfj
      rw [hfB j, decide_eq_true rfl, Bool.not_true, Bool.and_false] at hfj
      have h12 : fb_ct (fun i => B.2.1.testBit i) 12 = fb_ct (fun i => B.2.1.testBit i) nr := ct_ext (fun k hk => by
        rw [hfB k]
        cases e : (rep kd fr to (lbL len) dd sj qq (cset st ab) na).1.2.1.testBit k with
        | false => rfl
        | true => exact absurd (hA.2.1 k e) (by omega)) hnr
      unfold F_L_acts_b419 f_L_acts_b517
      dsimp only
      rw [if_pos ib25, cl2, hL1.2.2.2.2.1, if_pos (nle_nI _), if_pos (nI_le0 (by omega)), d0, if_neg (show ¬ bI true = 0 by decide), if_pos (by rw [h12]), hfj, bsm]
      dsimp only
      rw [if_pos rfl, if_pos (show bI false = 0 from rfl), hdf, bsm]
      dsimp only
      rw [if_pos (show nI 0 = (0 : Int32) from rfl)]
end
