/-! a drawer goes back, or on -/
theorem stA_stA {st : Nat → Nat} {w a b : Nat} : stA (stA st w a) w b = stA st w b := by
  funext x
  unfold stA
  by_cases e : x = w
  · rw [if_pos e, if_pos e]
  · rw [if_neg e, if_neg e, if_neg e]
theorem stA_id {st : Nat → Nat} {w : Nat} : stA st w (st w) = st := by
  funext x
  unfold stA
  by_cases e : x = w
  · rw [if_pos e, e]
  · rw [if_neg e]
theorem stA_at {st : Nat → Nat} {w a : Nat} : stA st w a w = a := if_pos rfl
section
variable {S : HS} {sp ns nr na ne nm : Nat} {lt len fr to sj dr ab st lby se : Nat → Nat} {trn : Nat → Bool} {txt : Nat → Nat → Nat} {kd dd : Nat → Int32} {qq : Nat → Nat → Int32} {w : Nat}
theorem LI_st {s : Nat} (hL : LI S na ns nr ne nm kd dd fr to dr ab st lby) : LI (sI S 39 w (nI s)) na ns nr ne nm kd dd fr to dr ab (stA st w s) lby := by
  obtain ⟨l1, l2, l3, l4, l5, l6, l7, l8⟩ := hL
  refine ⟨fun k hk => ?_, fun j hj => ?_, ?_, ?_, ?_, ?_, ?_, fun x hx => ?_⟩
  · rw [sI_o (by omega)]; exact l1 k hk
  · rw [sI_o (by omega)]; exact l2 j hj
  · rw [sI_o (by omega)]; exact l3
  · rw [sI_o (by omega)]; exact l4
  · rw [sI_o (by omega)]; exact l5
  · rw [sI_o (by omega)]; exact l6
  · rw [sI_o (by omega)]; exact l7
  · unfold stA
    by_cases e : x = w
    · subst e
      rw [sI_at, if_pos rfl]
    · rw [sI_k e, if_neg e]
      exact l8 x hx
theorem fbr_some {d b : Nat} : ∀ n, b < fb_ct (brn dr ab st d) n → 0 < fbr dr ab st d (nI b) n
  | 0, h => absurd h (by show ¬ b < 0; omega)
  | n + 1, h => by
    rw [fb_ct_succ] at h
    rw [fbr]
    by_cases e : brn dr ab st d n = true ∧ nI b = nI (fb_ct (brn dr ab st d) n)
    · rw [if_pos e]; omega
    · rw [if_neg e]
      refine fbr_some n ?_
      by_cases e1 : brn dr ab st d n = true
      · rw [if_pos e1] at h
        rcases Nat.lt_succ_iff_lt_or_eq.mp h with q | q
        · exact q
        · exact absurd ⟨e1, by rw [q]⟩ e
      · rw [if_neg e1] at h
        exact h
theorem i32_pm {a c : Int32} : a - c + -1 = a - (c + 1) := by grind
/-- the branch that is chosen, as the law looks it up -/
def fbI (f : Nat) : Int32 := if f = 0 then -1 else nI f
theorem k_backs {p2 p3 : Int32} (h : CL S sp ns nr na ne nm lt len fr to sj dr ab st lby se trn txt kd dd qq) (hX : WX na len sj dd qq) (hw : w < 4) (h3 : ¬ (p2 - p2 / (3 : Int32) * (3 : Int32)) ≤ 0) : Ok (f_L_goes (nI w) p2 p3 S) (fun o => o.2 = 1 ∧ BI o.1 sp) := by
  obtain ⟨hC, hL⟩ := h
  have hT := hC.1.2.2.2.1
  have hna := hT.1
  have hsw := (hT.2.2 w hw).1
  have h39 : S.1 39 w = nI (st w) := hL.2.2.2.2.2.2.2 w hw
  unfold f_L_goes
  rw [k0 (by decide), if_neg h3, if_pos (ib_nI hw (by omega)), asks6, nI_cl (by omega), h39]
  cases hs : st w with
  | zero =>
    rw [k_back_n hC hw hs, awr_3, bsm]
    dsimp only
    unfold f_L_goes_b43
    rw [if_pos (show nI 0 = (0 : Int32) from rfl), if_pos rfl, nz_1, if_pos rfl]
    exact ⟨_, rfl, rfl, ns, nr, na, ne, nm, lt, len, fr, to, sj, dr, ab, st, lby, se, trn, txt, kd, dd, qq, ⟨hC, hL⟩, hX⟩
  | succ j =>
    obtain ⟨⟨S1, e1, v1⟩, hr, hv, hf, hC1⟩ := k_back hC hw hs
    dsimp only at hv hf hC1
    obtain ⟨rfl, rfl⟩ := Prod.mk.inj hv
    have hL1 := LI_fr (S' := S1) (fun x hx _ => hf x hx) hL
    have hs1 : nI (j + 1) - (1 : Int32) = nI j := by rw [show (1 : Int32) = nI 1 from rfl, pk_sub (by omega)]; rfl
    have hC2 : CI (sI S1 39 w (nI (ab j))) sp ns nr na ne nm lt len fr to sj dr ab (stA st w (ab j)) lby se trn txt kd dd qq := CI_lw hC1 (fun x hx => by rw [sI_o (by omega)]) rfl
    have hCL2 : CL (sI S1 39 w (nI (ab j))) sp ns nr na ne nm lt len fr to sj dr ab (stA st w (ab j)) lby se trn txt kd dd qq := ⟨hC2, LI_st hL1⟩
    rw [hr, awr_0, bsm]
    dsimp only
    rw [if_neg (fun q => by have := (nI_0iff (by omega)).mp q; omega), hs1, if_pos (ib_nI (show j < 60 by omega) (by omega)), nI_cl (by omega), hL1.1 j (by omega), pt_ab hT (by omega), bsm, if_pos (ib_nI hw (by omega)), k_voids hCL2, bsm]
    dsimp only
    rw [if_pos rfl]
    unfold f_L_goes_b77
    rw [nz_1, if_pos rfl]
    exact ⟨_, rfl, rfl, _, _, _, _, _, _, _, _, _, _, _, _, _, _, _, _, _, _, _, _, hCL2, hX⟩
theorem k_ons {p2 : Int32} {Y : Nat} (h : CL S sp ns nr na ne nm lt len fr to sj dr ab st lby se trn txt kd dd qq) (hX : WX na len sj dd qq) (hw : w < 4) (hY : Y < 2 ^ 31) (h3 : (p2 - p2 / (3 : Int32) * (3 : Int32)) ≤ 0) : Ok (f_L_goes (nI w) p2 (nI Y) S) (fun o => o.2 = 1 ∧ BI o.1 sp) := by
  obtain ⟨hC, hL⟩ := h
  have hT := hC.1.2.2.2.1
  have hT' := hT
  obtain ⟨w1, w2, w3⟩ := hT'
  have hna := hT.1
  have hsw := (hT.2.2 w hw).1
  have h39 : S.1 39 w = nI (st w) := hL.2.2.2.2.2.2.2 w hw
  have hct := fb_ct_le (brn dr ab st w) na
  unfold f_L_goes
  rw [k0 (by decide), if_pos h3, k_branches hC hw, bsm]
  dsimp only
  rw [if_pos rfl]
  by_cases hc0 : fb_ct (brn dr ab st w) na = 0
  · have z0 : fbr dr ab st w 0 na = 0 := by
      have := fbr_0 (dr := dr) (ab := ab) (st := st) (d := w) (N := na) (by omega) na (Nat.le_refl _)
      rw [hc0] at this
      exact this
    have z1 : fbr dr ab st w (-1) na = 0 := fbr_nat (by decide) (by omega)
    rw [if_pos (by rw [hc0]; rfl), asks7, k_on_n hC hw z0, awr_1, bsm]
    dsimp only
    rw [if_pos rfl, asks7, k_on_n hC hw z1, awr_1, bsm]
    dsimp only
    unfold f_L_goes_b129
    rw [if_pos rfl, nz_1, if_pos rfl]
    exact ⟨_, rfl, rfl, ns, nr, na, ne, nm, lt, len, fr, to, sj, dr, ab, st, lby, se, trn, txt, kd, dd, qq, ⟨hC, hL⟩, hX⟩
  have hcz : ¬ nI (fb_ct (brn dr ab st w) na) = 0 := fun q => hc0 ((nI_0iff (by omega)).mp q)
  have rY : nI Y - nI Y / nI (fb_ct (brn dr ab st w) na) * nI (fb_ct (brn dr ab st w) na) = nI (Y % fb_ct (brn dr ab st w) na) := pk_rem hY (by omega) (by omega)
  have lY : Y % fb_ct (brn dr ab st w) na < fb_ct (brn dr ab st w) na := Nat.mod_lt _ (by omega)
  rw [if_neg hcz, k0 hcz, rY]
  generalize Y % fb_ct (brn dr ab st w) na = b at lY ⊢
  have hfs := fbr_some na lY
  obtain ⟨j, hj⟩ : ∃ j, fbr dr ab st w (nI b) na = j + 1 := ⟨fbr dr ab st w (nI b) na - 1, by omega⟩
  obtain ⟨j1, j2, j3, hok⟩ := k_on hC hw hj
  obtain ⟨⟨S1, e1, v1⟩, hr, hv, hf, hC1⟩ := hok
  dsimp only at hv hf hC1
  obtain ⟨rfl, rfl⟩ := Prod.mk.inj hv
  have hL1 := LI_fr (S' := S1) (fun x hx _ => hf x hx) hL
  have hCL2 : CL (sI S1 39 w (nI (j + 1))) sp ns nr na ne nm lt len fr to sj dr ab (stA st w (j + 1)) lby se trn txt kd dd qq := ⟨CI_lw hC1 (fun x hx => by rw [sI_o (by omega)]) rfl, LI_st hL1⟩
  have hend : Ok (f_L_goes_b248 (nI w) p2 (nI Y) (sI S1 39 w (nI (j + 1))) (nI b) (nI (fb_ct (fun k => (rep kd fr to (lbL len) dd sj qq (cset (stA st w (j + 1)) ab) na).2.testBit k) na)) 1) (fun o => o.2 = 1 ∧ BI o.1 sp) := by
    obtain ⟨S3, hno, f40, f2, hnt⟩ := k_notes hCL2
    have hC3 := CI_lw (S' := S3) hCL2.1 (fun x hx => f40 x (by omega)) f2
    have hL3 := LI_fr (S' := S3) (fun x _ hx => f40 x (by omega)) hCL2.2
    obtain ⟨⟨S4, e4, v4⟩, hr4, hv4, hf4, hC4⟩ := k_back hC3 hw stA_at
    dsimp only at hv4 hf4 hC4
    obtain ⟨rfl, rfl⟩ := Prod.mk.inj hv4
    rw [stA_stA, j3, stA_id] at hC4 hr4
    obtain ⟨-, -, -, hok5⟩ := k_on hC4 hw hj
    obtain ⟨⟨S5, e5, v5⟩, hr5, hv5, hf5, hC5⟩ := hok5
    dsimp only at hv5 hf5 hC5
    obtain ⟨rfl, rfl⟩ := Prod.mk.inj hv5
    have hL5 := LI_fr (S' := S5) (fun x hx _ => hf5 x hx) (LI_fr (S' := S4) (fun x hx _ => hf4 x hx) hL3)
    have hdf := k_differs hC5 hL5.2.2.2.1 (A0 := (rep kd fr to (lbL len) dd sj qq (cset (stA st w (j + 1)) ab) na).1) (by rw [hf5 40 (by omega), hf4 40 (by omega)]; exact hnt)
    rw [dfN_same] at hdf
    unfold f_L_goes_b248 f_L_goes_b310
    rw [hno, bsm, if_neg (by decide), asks6, hr4, awr_0, bsm]
    dsimp only
    rw [if_neg (nI_pos (by have := fb_ct_le (fun k => (rep kd fr to (lbL len) dd sj qq (cset st ab) na).2.testBit k) na; omega)), asks7, hr5, awr_0, bsm]
    dsimp only
    rw [if_pos rfl, hdf, bsm]
    dsimp only
    rw [if_pos (show nI 0 = (0 : Int32) from rfl), nz_1, if_pos rfl]
    exact ⟨_, rfl, rfl, _, _, _, _, _, _, _, _, _, _, _, _, _, _, _, _, _, _, _, _, ⟨hC5, hL5⟩, hX⟩
  obtain ⟨r, hr2, hP⟩ := hend
  refine ⟨r, ?_, hP⟩
  unfold f_L_goes_b146
  refine fx_run na (fun i => (S, nI b, nI b - nI (fb_ct (brn dr ab st w) i), fbI (fbr dr ab st w (nI b) i), nI i)) ?_ ?_ (FU_gt (by omega)) (by
    show _ = (S, nI b, nI b - nI 0, fbI 0, nI 0)
    rw [show nI b - nI 0 = nI b by show nI b - 0 = nI b; grind]
    rfl)
  · intro i rec hi
    obtain ⟨a1, a2, a3⟩ := w2 i hi
    have hcti := fb_ct_le (brn dr ab st w) i
    unfold F_L_goes_b146 f_L_goes_b201 f_L_goes_b206
    dsimp only
    rw [if_pos ib05, cl0, hL.2.2.1, if_neg (nlt_le hi (by omega)), if_pos (ib_nI (show i < 60 by omega) (by omega)), nI_cl (by omega), hL.1 i hi, pt_dr hT hi, bsm, if_pos (ib_nI (show i < 60 by omega) (by omega)), pt_ab hT hi, bsm, if_pos (ib_nI hw (by omega)), nI_cl (by omega), h39, nI_1]
    have hb : brn dr ab st w i = (decide (dr i = w) && decide (ab i = st w)) := rfl
    have f0 : brn dr ab st w i = false → fb_ct (brn dr ab st w) (i + 1) = fb_ct (brn dr ab st w) i ∧ fbr dr ab st w (nI b) (i + 1) = fbr dr ab st w (nI b) i := by
      intro e
      refine ⟨by rw [fb_ct_succ, e]; rfl, ?_⟩
      rw [fbr, if_neg]
      rintro ⟨q, -⟩
      rw [e] at q
      exact absurd q (by decide)
    by_cases e1 : dr i = w
    · rw [if_pos (by rw [e1])]
      by_cases e2 : ab i = st w
      · rw [decide_eq_true e1, decide_eq_true e2] at hb
        have hb' : brn dr ab st w i = true := hb
        have f1 : fb_ct (brn dr ab st w) (i + 1) = fb_ct (brn dr ab st w) i + 1 := by rw [fb_ct_succ, hb', if_pos rfl]
        have fi : nI b - nI (fb_ct (brn dr ab st w) i) = 0 ↔ nI b = nI (fb_ct (brn dr ab st w) i) := i32_eq0
        rw [if_pos (by rw [e2]), f1]
        by_cases e3 : nI b = nI (fb_ct (brn dr ab st w) i)
        · have f2 : fbr dr ab st w (nI b) (i + 1) = i + 1 := by rw [fbr, if_pos ⟨hb', e3⟩]
          rw [if_pos (fi.mpr e3), f2, i32_pm, nI_1]
          rfl
        · have f2 : fbr dr ab st w (nI b) (i + 1) = fbr dr ab st w (nI b) i := by rw [fbr, if_neg (fun q => e3 q.2)]
          rw [if_neg (fun q => e3 (fi.mp q)), f2, i32_pm, nI_1]
      · rw [decide_eq_true e1, decide_eq_false e2] at hb
        obtain ⟨f1, f2⟩ := f0 hb
        rw [if_neg (fun q => e2 ((nI_eq (by omega) (by omega)).mp q)), f1, f2]
    · rw [decide_eq_false e1, Bool.false_and] at hb
      obtain ⟨f1, f2⟩ := f0 hb
      rw [if_neg (fun q => e1 ((nI_eq (by omega) (by omega)).mp q)), f1, f2]
  · intro rec
    unfold F_L_goes_b146
    dsimp only
    have hv39 := k_voids hCL2
    have hfi : fbI (fbr dr ab st w (nI b) na) = nI (j + 1) := by rw [hj]; rfl
    rw [if_pos ib05, cl0, hL.2.2.1, if_pos (nle_nI _), asks7, hr, awr_0, bsm, if_pos (ib_nI hw (by omega)), nI_cl (by omega), hfi, hv39, bsm]
    dsimp only
    rw [if_pos rfl]
    exact hr2
theorem k_goes {X Y : Nat} (h : BI S sp) (hw : w < 4) (hX : X < 2 ^ 31) (hY : Y < 2 ^ 31) : Ok (f_L_goes (nI w) (nI X) (nI Y) S) (fun o => o.2 = 1 ∧ BI o.1 sp) := by
  obtain ⟨ns, nr, na, ne, nm, lt, len, fr, to, sj, dr, ab, st, lby, se, trn, txt, kd, dd, qq, hCL, hWX⟩ := h
  by_cases h3 : (nI X - nI X / (3 : Int32) * (3 : Int32)) ≤ 0
  · exact k_ons hCL hWX hw hY h3
  · exact k_backs hCL hWX hw h3
end
