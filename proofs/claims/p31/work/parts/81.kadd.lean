/-! a rule is laid, a shape is added, in the class alone -/
section
variable {S D : HS} {sp ns nr na ne nm : Nat} {lt len fr to sj dr ab st lby se : Nat → Nat} {trn : Nat → Bool} {txt : Nat → Nat → Nat} {kd dd : Nat → Int32} {qq : Nat → Nat → Int32} {w a c m : Nat}
theorem k_lay (h : CI S sp ns nr na ne nm lt len fr to sj dr ab st lby se trn txt kd dd qq) (hw : w < 4) (ha : a < ns) (hc : c < ns) (hac : a ≠ c) (hm : m < 7) :
    Ok (f_X7_lay (nI w) (nI m) (nI a) (nI c) S) (fun o => o.2 = (3, 0) ∧ CI o.1 sp ns nr na ne nm lt len fr to sj dr ab st lby se trn txt kd dd qq ∧ ∀ x, 36 ≤ x → o.1.1 x = S.1 x) ∨
    (nr < 12 ∧ na < 60 ∧ ∃ B, rep (exF kd nr (nI m)) (exF fr nr a) (exF to nr c) (lbL len) (exF dd na 3) (exF sj na nr) (exF qq na (fun _ => 0)) (cset (stA st w (na + 1)) (exF ab na (st w))) (na + 1) = (B, (rep kd fr to (lbL len) dd sj qq (cset st ab) na).2) ∧ Ok (f_X7_lay (nI w) (nI m) (nI a) (nI c) S) (fun o => o.2 = (0, nI nr) ∧ (∀ x, 36 ≤ x → o.1.1 x = S.1 x) ∧ CI o.1 sp ns (nr + 1) (na + 1) ne nm lt len (exF fr nr a) (exF to nr c) (exF sj na nr) (exF dr na w) (exF ab na (st w)) (stA st w (na + 1)) (exF lby nr na) se trn txt (exF kd nr (nI m)) (exF dd na 3) (exF qq na (fun _ => 0)))) := by
  have hh := h
  have h0 := h
  obtain ⟨⟨g1, g2⟩, ⟨c1, c2, c3, c4, c5⟩⟩ := h
  obtain ⟨gW, gA, gT, gK, gL, gB⟩ := g2
  have hna := gT.1
  have hns := gW.2.1
  have hnr := gW.1
  have hx0 : f_X7_lay (nI w) (nI m) (nI a) (nI c) S = if nI m < 0 then some (S, (2, 0)) else if (6 : Int32) < nI m then some (S, (2, 0)) else if nI a = nI c then some (S, (2, 0)) else if nI nr < (12 : Int32) then (f_X6_draft (3 : Int32) (nI nr) (0 : Int32) (0 : Int32) (0 : Int32) (0 : Int32) S).bind (fun o79 => (f_X4_draft (nI m) (nI a) (nI c) o79).bind (fun o90 => (f_X7_doDraft (nI w) o90).bind (fun o95 => if o95.2.1 = 0 then some ((sI o95.1 5 0 ((o95.1.1 5 0) + (1 : Int32))), ((0 : Nat), nI nr)) else some (o95.1, (o95.2.1, (0 : Int32)))))) else some (S, (3, (0 : Int32))) := by
    unfold f_X7_lay f_X7_lay_b32
    simp only [rDr_y hw, bsm, if_true, rSh_y c2.1 ha (show ns < 2 ^ 31 by omega), rSh_y c2.1 hc (show ns < 2 ^ 31 by omega), c2.2.1]
  have hac' : ¬ nI a = nI c := fun q => hac ((nI_eq (by omega) (by omega)).mp q)
  have hm6 : ¬ (6 : Int32) < nI m := fun q => absurd ((nI_ltI (a := 6) (by omega) (by omega)).mp q) (by omega)
  rw [hx0, if_neg (nI_pos (by omega)), if_neg hm6, if_neg hac']
  rcases Nat.lt_or_ge nr 12 with h12 | h12
  rotate_left
  · left
    have e : nr = 12 := by omega
    rw [e, if_neg (by decide)]
    exact ⟨(S, (3, 0)), rfl, rfl, by rw [← e]; exact hh, fun _ _ => rfl⟩
  rw [if_pos (show nI nr < (12 : Int32) from lt_nI (n := 12) h12 (by decide))]
  have hD : DW (nr + 1) ns (exF kd nr (nI m)) 3 nr (fun _ => 0) := Or.inr (Or.inr (Or.inr (Or.inl ⟨rfl, by omega, by rw [exF_at]; exact KK_7 m hm⟩)))
  have hX : XE ns nr ns (nr + 1) len len trn trn txt txt kd (exF kd nr (nI m)) fr (exF fr nr a) to (exF to nr c) := ⟨Nat.le_refl _, by omega, fun _ _ => ⟨rfl, rfl, rfl⟩, fun k hk => ⟨exF_ne (by omega), exF_ne (by omega), exF_ne (by omega)⟩⟩
  have hRW : RW (nr + 1) ns (exF kd nr (nI m)) (exF fr nr a) (exF to nr c) := by
    refine ⟨by omega, hns, fun k hk => ?_⟩
    by_cases e : k = nr
    · rw [e, exF_at, exF_at]; exact ⟨ha, hc⟩
    · rw [exF_ne e, exF_ne e]; exact gW.2.2 k (by omega)
  obtain ⟨D1, hDr, hDF, hTA⟩ := draft6 c2.2.2.2.2.2.1 hna 3 nr (fun _ => 0)
  have cO1 := OC_DF hDF c2
  obtain ⟨rc1, rc2⟩ := RC_ru (k := nI m) cO1.2.2.2.1 h12 (show a < 10 by omega) (show c < 10 by omega)
  rw [hDr, bsm, draft4 cO1.2.1 h12, bsm]
  generalize hDD : sI (sI (sI D1 6 nr (nI m)) 7 nr (nI a)) 8 nr (nI c) = D at rc1 rc2
  have d1 : ∀ x, x ≠ 6 → x ≠ 7 → x ≠ 8 → D.1 x = D1.1 x := fun x p q r => by rw [← hDD, sI_o r, sI_o q, sI_o p]
  have d2 : D.2 = S.2 := by rw [← hDD]; exact hDF.2.2
  have df : ∀ x, x < 2 ∨ 16 ≤ x → D.1 x = S.1 x := fun x p => by rw [d1 x (by omega) (by omega) (by omega), hDF.1 x (by omega) (by omega) (by omega)]
  have hTA' : na < 60 → TA D na 3 nr (fun _ => 0) := fun e => by
    have := hTA e
    unfold TA at this ⊢
    rw [d1 10 (by omega) (by omega) (by omega), d1 11 (by omega) (by omega) (by omega), d1 12 (by omega) (by omega) (by omega)]
    exact this
  have cO : OC D ns nr na len trn txt kd fr to dd sj qq dr ab st := by
    obtain ⟨k1, k2, k3, k4, k5, k6⟩ := cO1
    refine ⟨by rw [d1 2 (by omega) (by omega) (by omega)]; exact k1, by rw [d1 5 (by omega) (by omega) (by omega)]; exact k2, ?_, rc2, fun a ha => ?_, ?_⟩
    · unfold HS1 at k3 ⊢
      rw [d1 2 (by omega) (by omega) (by omega), d1 3 (by omega) (by omega) (by omega), d1 4 (by omega) (by omega) (by omega)]; exact k3
    · have := k5 a ha
      unfold TA at this ⊢
      rw [d1 10 (by omega) (by omega) (by omega), d1 11 (by omega) (by omega) (by omega), d1 12 (by omega) (by omega) (by omega)]; exact this
    · unfold CT at k6 ⊢
      rw [d1 9 (by omega) (by omega) (by omega), d1 13 (by omega) (by omega) (by omega), d1 14 (by omega) (by omega) (by omega), d1 15 (by omega) (by omega) (by omega)]; exact k6
  have hK9 : ∀ k, k < nr + 1 → KK (exF kd nr (nI m) k) ∧ exF fr nr a k ≠ exF to nr c k := fun k hk => by
    by_cases ek : k = nr
    · rw [ek, exF_at, exF_at, exF_at]
      exact ⟨KK_7 m hm, hac⟩
    · rw [exF_ne ek, exF_ne ek, exF_ne ek]
      exact gK k (by omega)
  have hL9 : ∀ k, k < nr + 1 → exF lby nr na k < na + 1 ∧ exF dd na 3 (exF lby nr na k) = 3 ∧ exF sj na nr (exF lby nr na k) = k := fun k hk => by
    by_cases ek : k = nr
    · rw [ek, exF_at, exF_at, exF_at]
      exact ⟨by omega, rfl, rfl⟩
    · rw [exF_ne ek]
      obtain ⟨a1, a2, a3⟩ := gL k (by omega)
      rw [exF_ne (by omega), exF_ne (by omega)]
      exact ⟨by omega, a2, a3⟩
  have hB9 : ∀ v : Nat → Bool, fb_ct (fun a => v a && decide (exF dd na 3 a = 3)) (na + 1) = fb_ct (fun k => v (exF lby nr na k)) (nr + 1) := fun v => by
    rw [fb_ct_succ, fb_ct_succ, exF_at, exF_at]
    have e1 : fb_ct (fun a => v a && decide (exF dd na 3 a = 3)) na = fb_ct (fun a => v a && decide (dd a = 3)) na := fb_ct_cong (fun k hk => by rw [exF_ne (by omega)])
    have e3 : fb_ct (fun k => v (exF lby nr na k)) nr = fb_ct (fun k => v (lby k)) nr := fb_ct_cong (fun k hk => by rw [exF_ne (by omega)])
    have e4 : decide ((3 : Int32) = 3) = true := by decide
    rw [e1, e3, gB v, e4, Bool.and_true]
  rcases act_ok (lby' := exF lby nr na) hh hX hRW hD (fun e => absurd e (by decide)) (fun e => absurd e (by decide)) hK9 hL9 hB9 hw df d2 cO hTA' rc1 cO.2.2.1 with ⟨e, hx, hID⟩ | ⟨e, hst, r, hr, e2, hIr, kr⟩ | ⟨e, B, hst, hrep, r, hr, e2, k1, k2, k3, k4, k5, k6⟩
  · left
    rw [hx]
    exact ⟨(D, (3, 0)), rfl, rfl, hID, fun x p => df x (by omega)⟩
  · left
    rw [hr, bsm, e2]
    exact ⟨(r.1, (3, 0)), rfl, rfl, hIr, kr⟩
  · right
    refine ⟨h12, e, B, hrep, ?_⟩
    rw [hr, bsm, e2]
    dsimp only
    rw [if_pos rfl, k3, nI_1]
    exact ⟨_, rfl, rfl, fun x p => by dsimp only; rw [sI_o (by omega)]; exact k1 x p, k6 (sI r.1 5 0 (nI (nr + 1))) (fun x _ p => sI_o p) (fun k _ => by rw [sI_o (by omega)]) rfl (by rw [sI_o (by omega)]; exact k2) sI_at⟩
/-- an addition, from where all tests are passed -/
theorem k_add {t : Int32} {tb : Bool} {q : Nat → Int32} (h : CI S sp ns nr na ne nm lt len fr to sj dr ab st lby se trn txt kd dd qq) (hns : ns < 10) (hc : c ≤ sp) (ht : tb = decide (t ≠ 0)) (hq : ∀ w, w < 4 → rngB (q w) w = true) (hq3 : 0 < c → q 3 = 2) (hw : w < 4) {x : Option XO} (hx : x = (f_X6_draft (0 : Int32) (nI ns) (q 0) (q 1) (q 2) (q 3) S).bind (fun o58 => (f_X5_draft 1 (nI c) t o58).bind (fun o71 => (f_X7_doDraft (nI w) o71).bind (fun o76 => if o76.2.1 = 0 then some ((sI o76.1 2 0 ((o76.1.1 2 0) + (1 : Int32))), ((0 : Nat), nI ns)) else some (o76.1, (o76.2.1, (0 : Int32))))))) :
    (na = 60 ∧ Ok x (fun o => o.2 = (3, 0) ∧ CI o.1 sp ns nr na ne nm lt len fr to sj dr ab st lby se trn txt kd dd qq ∧ ∀ x, 36 ≤ x → o.1.1 x = S.1 x)) ∨
    (na < 60 ∧ ∃ B, Does kd fr to (lbL (exF len ns c)) 0 ns q (rep kd fr to (lbL len) dd sj qq (cset st ab) na).1 B ∧ rep kd fr to (lbL (exF len ns c)) (exF dd na 0) (exF sj na ns) (exF qq na q) (cset (stA st w (na + 1)) (exF ab na (st w))) (na + 1) = (B, (rep kd fr to (lbL len) dd sj qq (cset st ab) na).2) ∧ Ok x (fun o => o.2 = (0, nI ns) ∧ (∀ x, 36 ≤ x → o.1.1 x = S.1 x) ∧ CI o.1 sp (ns + 1) nr (na + 1) ne nm lt (exF len ns c) fr to (exF sj na ns) (exF dr na w) (exF ab na (st w)) (stA st w (na + 1)) lby se (exF trn ns tb) (exF txt ns lt) kd (exF dd na 0) (exF qq na q))) := by
  have hh := h
  have h0 := h
  obtain ⟨⟨g1, g2⟩, ⟨c1, c2, c3, c4, c5⟩⟩ := h
  obtain ⟨gW, gA, gT, gK, gL, gB⟩ := g2
  have hna := gT.1
  have hD : DW nr (ns + 1) kd 0 ns q := Or.inl ⟨rfl, by omega, hq⟩
  have hX : XE ns nr (ns + 1) nr len (exF len ns c) trn (exF trn ns tb) txt (exF txt ns lt) kd kd fr fr to to := ⟨by omega, Nat.le_refl _, fun k hk => ⟨exF_ne (by omega), exF_ne (by omega), exF_ne (by omega)⟩, fun _ _ => ⟨rfl, rfl, rfl⟩⟩
  have hRW : RW nr (ns + 1) kd fr to := by
    refine ⟨gW.1, by omega, fun k hk => ?_⟩
    have := gW.2.2 k hk
    omega
  have hD3 : (0 : Int32) = 0 → ∀ a, a < na → dd a = 0 → sj a ≠ ns := fun _ a ha h0 e => by
    have := DW_s (gA.1 a ha).1 h0
    omega
  have hD2 : (0 : Int32) = 0 → lbL (exF len ns c) ns = true → q 3 = 2 := fun _ hl => by
    unfold lbL at hl
    rw [exF_at] at hl
    exact hq3 (of_decide_eq_true hl)
  obtain ⟨D1, hDr, hDF, hTA⟩ := draft6 c2.2.2.2.2.2.1 hna 0 ns q
  have cO1 := OC_DF hDF c2
  obtain ⟨D, hD5, d1, d20, d2, dH, dH0⟩ := draft5 (t := t) (tb := tb) (c := c) (sp := sp) (lt := lt) cO1.1 hns cO1.2.2.1 (SC_fr (fun x p => hDF.1 x (by omega) (by omega) (by omega)) c1) g1.1 g1.2.1 hc ht
  rw [hx, hDr, bsm, hD5, bsm]
  have df : ∀ x, x < 2 ∨ 16 ≤ x → D.1 x = S.1 x := fun x p => by rw [d1 x (by omega) (by omega) (by omega), hDF.1 x (by omega) (by omega) (by omega)]
  have hTA' : na < 60 → TA D na 0 ns q := fun e => by
    have := hTA e
    unfold TA at this ⊢
    rw [d1 10 (by omega) (by omega) (by omega), d1 11 (by omega) (by omega) (by omega), d1 12 (by omega) (by omega) (by omega)]
    exact this
  have cO : OC D ns nr na len trn txt kd fr to dd sj qq dr ab st := by
    obtain ⟨k1, k2, k3, k4, k5, k6⟩ := cO1
    refine ⟨d20, by rw [d1 5 (by omega) (by omega) (by omega)]; exact k2, dH0, ?_, fun a ha => ?_, ?_⟩
    · unfold RC at k4 ⊢
      rw [d1 6 (by omega) (by omega) (by omega), d1 7 (by omega) (by omega) (by omega), d1 8 (by omega) (by omega) (by omega)]; exact k4
    · have := k5 a ha
      unfold TA at this ⊢
      rw [d1 10 (by omega) (by omega) (by omega), d1 11 (by omega) (by omega) (by omega), d1 12 (by omega) (by omega) (by omega)]; exact this
    · unfold CT at k6 ⊢
      rw [d1 9 (by omega) (by omega) (by omega), d1 13 (by omega) (by omega) (by omega), d1 14 (by omega) (by omega) (by omega), d1 15 (by omega) (by omega) (by omega)]; exact k6
  obtain ⟨l1, l2⟩ := L_keep (d := 0) (s := ns) hh (by decide)
  rcases act_ok hh hX hRW hD hD2 hD3 gK l1 l2 hw df (d2.trans hDF.2.2) cO hTA' cO.2.2.2.1 dH with ⟨e, hx, hID⟩ | ⟨e, hst, r, hr, e2, hIr, kr⟩ | ⟨e, B, hst, hrep, r, hr, e2, k1, k2, k3, k4, k5, k6⟩
  · left
    rw [hx]
    exact ⟨e, (D, (3, 0)), rfl, rfl, hID, fun x p => df x (by omega)⟩
  · exfalso
    obtain ⟨C, c1, -⟩ := stp_yes (kd := kd) (fr := fr) (to := to) (lb := lbL (exF len ns c)) (A := (rep kd fr to (lbL len) dd sj qq (cset st ab) na).1) (d := 0) (s := ns) (q := q) ⟨((rep kd fr to (lbL len) dd sj qq (cset st ab) na).1.1 ||| 2 ^ ns, (rep kd fr to (lbL len) dd sj qq (cset st ab) na).1.2.1, fun k w => if k = ns then q w else (rep kd fr to (lbL len) dd sj qq (cset st ab) na).1.2.2.1 k w, (rep kd fr to (lbL len) dd sj qq (cset st ab) na).1.2.2.2), Does0.mpr ⟨rfl, rfl, fun _ _ _ _ => rfl, fun _ _ _ _ _ => rfl⟩⟩
    rw [hst] at c1
    cases c1
  · right
    refine ⟨e, B, stp_does hst, hrep, ?_⟩
    rw [hr, bsm, e2]
    dsimp only
    rw [if_pos rfl, k2, nI_1]
    exact ⟨_, rfl, rfl, fun x p => by dsimp only; rw [sI_o (by omega)]; exact k1 x p, k6 (sI r.1 2 0 (nI (ns + 1))) (fun x p _ => sI_o p) (fun k p => sI_k p) rfl sI_at (by rw [sI_o (by omega)]; exact k3)⟩
theorem k_box_n (h : CI S sp ns nr na ne nm lt len fr to sj dr ab st lby se trn txt kd dd qq) (hw : w < 4) (h10 : ns = 10) {p2 p3 p4 p5 : Int32} (hg1 : (rngB p2 0 && rngB p3 1) = true) (hg2 : (rngB p4 2 && rngB p5 3) = true) : f_X7_addBox (nI w) p2 p3 p4 p5 S = some (S, (3, 0)) := by
  have c21 := h.2.2.1.1
  unfold f_X7_addBox
  simp only [rDr_y hw, bsm, if_true, rPl, hg1, rSz, hg2, c21, h10, if_neg (show ¬ nI 10 < (10 : Int32) from by decide)]
theorem k_box (h : CI S sp ns nr na ne nm lt len fr to sj dr ab st lby se trn txt kd dd qq) (hw : w < 4) (h10 : ns < 10) {p2 p3 p4 p5 : Int32} (hg1 : (rngB p2 0 && rngB p3 1) = true) (hg2 : (rngB p4 2 && rngB p5 3) = true) :
    (na = 60 ∧ Ok (f_X7_addBox (nI w) p2 p3 p4 p5 S) (fun o => o.2 = (3, 0) ∧ CI o.1 sp ns nr na ne nm lt len fr to sj dr ab st lby se trn txt kd dd qq ∧ ∀ x, 36 ≤ x → o.1.1 x = S.1 x)) ∨
    (na < 60 ∧ ∃ B, Does kd fr to (lbL (exF len ns 0)) 0 ns (fun v => if v = 0 then p2 else if v = 1 then p3 else if v = 2 then p4 else p5) (rep kd fr to (lbL len) dd sj qq (cset st ab) na).1 B ∧ rep kd fr to (lbL (exF len ns 0)) (exF dd na 0) (exF sj na ns) (exF qq na (fun v => if v = 0 then p2 else if v = 1 then p3 else if v = 2 then p4 else p5)) (cset (stA st w (na + 1)) (exF ab na (st w))) (na + 1) = (B, (rep kd fr to (lbL len) dd sj qq (cset st ab) na).2) ∧ Ok (f_X7_addBox (nI w) p2 p3 p4 p5 S) (fun o => o.2 = (0, nI ns) ∧ (∀ x, 36 ≤ x → o.1.1 x = S.1 x) ∧ CI o.1 sp (ns + 1) nr (na + 1) ne nm lt (exF len ns 0) fr to (exF sj na ns) (exF dr na w) (exF ab na (st w)) (stA st w (na + 1)) lby se (exF trn ns false) (exF txt ns lt) kd (exF dd na 0) (exF qq na (fun v => if v = 0 then p2 else if v = 1 then p3 else if v = 2 then p4 else p5)))) := by
  have c21 := h.2.2.1.1
  have hg1' := hg1
  have hg2' := hg2
  rw [Bool.and_eq_true] at hg1 hg2
  refine k_add h (c := 0) (t := 0) (tb := false) (q := fun v => if v = 0 then p2 else if v = 1 then p3 else if v = 2 then p4 else p5) h10 (by omega) (by decide) (fun v hv => ?_) (fun q => absurd q (by omega)) hw ?_
  · match v, hv with
    | 0, _ => exact hg1.1
    | 1, _ => exact hg1.2
    | 2, _ => exact hg2.1
    | 3, _ => exact hg2.2
  · unfold f_X7_addBox
    simp only [rDr_y hw, bsm, if_true, rPl, hg1', rSz, hg2', c21, if_pos (show nI ns < (10 : Int32) from lt_nI (n := 10) h10 (by decide))]
    rfl
theorem k_label_n (h : CI S sp ns nr na ne nm lt len fr to sj dr ab st lby se trn txt kd dd qq) (hw : w < 4) (hn : sp = 0 ∨ ns = 10) {p2 p3 p4 : Int32} (hg1 : (rngB p2 0 && rngB p3 1) = true) : f_X7_addLabel (nI w) p2 p3 p4 S = some (S, (3, 0)) := by
  have c21 := h.2.2.1.1
  have c11 := h.2.1.1
  have hsp5 := h.1.1.1
  have hsp0 : nI sp = 0 ↔ sp = 0 := nI_0iff (by omega)
  unfold f_X7_addLabel f_X7_addLabel_b34
  by_cases hsp : sp = 0
  · simp only [rDr_y hw, bsm, if_true, rPl, hg1, c11, if_pos (hsp0.mpr hsp)]
  · have e10 := hn.resolve_left hsp
    simp only [rDr_y hw, bsm, if_true, rPl, hg1, c11, if_neg (fun q => hsp (hsp0.mp q)), c21, e10, if_neg (show ¬ nI 10 < (10 : Int32) from by decide)]
theorem k_label (h : CI S sp ns nr na ne nm lt len fr to sj dr ab st lby se trn txt kd dd qq) (hw : w < 4) (h10 : ns < 10) (hsp : sp ≠ 0) {p2 p3 p4 : Int32} (hg1 : (rngB p2 0 && rngB p3 1) = true) :
    (na = 60 ∧ Ok (f_X7_addLabel (nI w) p2 p3 p4 S) (fun o => o.2 = (3, 0) ∧ CI o.1 sp ns nr na ne nm lt len fr to sj dr ab st lby se trn txt kd dd qq ∧ ∀ x, 36 ≤ x → o.1.1 x = S.1 x)) ∨
    (na < 60 ∧ ∃ B, Does kd fr to (lbL (exF len ns sp)) 0 ns (qL p2 p3 (nI (2 * sp)) 2) (rep kd fr to (lbL len) dd sj qq (cset st ab) na).1 B ∧ rep kd fr to (lbL (exF len ns sp)) (exF dd na 0) (exF sj na ns) (exF qq na (qL p2 p3 (nI (2 * sp)) 2)) (cset (stA st w (na + 1)) (exF ab na (st w))) (na + 1) = (B, (rep kd fr to (lbL len) dd sj qq (cset st ab) na).2) ∧ Ok (f_X7_addLabel (nI w) p2 p3 p4 S) (fun o => o.2 = (0, nI ns) ∧ (∀ x, 36 ≤ x → o.1.1 x = S.1 x) ∧ CI o.1 sp (ns + 1) nr (na + 1) ne nm lt (exF len ns sp) fr to (exF sj na ns) (exF dr na w) (exF ab na (st w)) (stA st w (na + 1)) lby se (exF trn ns (decide (p4 ≠ 0))) (exF txt ns lt) kd (exF dd na 0) (exF qq na (qL p2 p3 (nI (2 * sp)) 2)))) := by
  have c21 := h.2.2.1.1
  have c11 := h.2.1.1
  have hsp5 := h.1.1.1
  have hna := h.1.2.2.2.1.1
  have c29 := h.2.2.1.2.2.2.2.2.1
  have hspn : ¬ nI sp = 0 := fun q => hsp ((nI_0iff (by omega)).mp q)
  have i2 : (2 : Int32) * nI sp = nI (2 * sp) := by rw [show (2 : Int32) = nI 2 from rfl, pk_mul]
  have hg1' := hg1
  rw [Bool.and_eq_true] at hg1
  refine k_add h (c := sp) (t := p4) (tb := decide (p4 ≠ 0)) (q := qL p2 p3 (nI (2 * sp)) 2) h10 (Nat.le_refl _) rfl (fun v hv => ?_) (fun _ => qL_3 _ _ _ _) hw ?_
  · match v, hv with
    | 0, _ => rw [qL_0]; exact hg1.1
    | 1, _ => rw [qL_1]; exact hg1.2
    | 2, _ => rw [qL_2]; exact rng_sp sp (by omega) hsp
    | 3, _ =>
      rw [qL_3]
      decide
  · have e60 : ∀ D : HS, (f_X6_draft (0 : Int32) (nI ns) p2 p3 (nI (2 * sp)) (2 : Int32) S) = some D → D.1 0 1 = nI sp := by
      intro D hDe
      obtain ⟨D', hD', hDF, -⟩ := draft6 c29 hna 0 ns (qL p2 p3 (nI (2 * sp)) 2)
      rw [qL_0, qL_1, qL_2, qL_3] at hD'
      have : some D' = some D := by rw [← hDe]; exact hD'.symm
      cases this
      rw [hDF.1 0 (by omega) (by omega) (by omega)]
      exact c11
    rw [qL_0, qL_1, qL_2, qL_3]
    unfold f_X7_addLabel
    simp only [rDr_y hw, bsm, if_true, rPl, hg1', c11, if_neg hspn, c21, if_pos (show nI ns < (10 : Int32) from lt_nI (n := 10) h10 (by decide)), i2]
    cases hDe : f_X6_draft (0 : Int32) (nI ns) p2 p3 (nI (2 * sp)) (2 : Int32) S with
    | none => rw [nbn, nbn]
    | some D =>
      rw [bsm, bsm, e60 D hDe]
end
