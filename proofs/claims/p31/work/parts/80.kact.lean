/-! acts, in the class alone -/
section
variable {S D : HS} {sp ns nr na ne nm : Nat} {lt len fr to sj dr ab st lby se : Nat → Nat} {trn : Nat → Bool} {txt : Nat → Nat → Nat} {kd dd : Nat → Int32} {qq : Nat → Nat → Int32} {ns' nr' w s : Nat} {len' fr' to' lby' : Nat → Nat} {trn' : Nat → Bool} {txt' : Nat → Nat → Nat} {kd' : Nat → Int32} {d : Int32} {q : Nat → Int32}
theorem act_ok (h : CI S sp ns nr na ne nm lt len fr to sj dr ab st lby se trn txt kd dd qq) (hX : XE ns nr ns' nr' len len' trn trn' txt txt' kd kd' fr fr' to to') (hRW : RW nr' ns' kd' fr' to') (hD : DW nr' ns' kd' d s q) (hD2 : d = 0 → lbL len' s = true → q 3 = 2) (hD3 : d = 0 → ∀ a, a < na → dd a = 0 → sj a ≠ s) (hK : ∀ k, k < nr' → KK (kd' k) ∧ fr' k ≠ to' k) (hL : ∀ k, k < nr' → lby' k < na + 1 ∧ exF dd na d (lby' k) = 3 ∧ exF sj na s (lby' k) = k) (hB : ∀ v : Nat → Bool, fb_ct (fun a => v a && decide (exF dd na d a = 3)) (na + 1) = fb_ct (fun k => v (lby' k)) nr') (hw : w < 4) (f : ∀ x, x < 2 ∨ 16 ≤ x → D.1 x = S.1 x) (f2 : D.2 = S.2) (cO : OC D ns nr na len trn txt kd fr to dd sj qq dr ab st) (cT : na < 60 → TA D na d s q) (cR : RC D nr' kd' fr' to') (cH : HS1 D ns' len' trn' txt') :
    (na = 60 ∧ f_X7_doDraft (nI w) D = some (D, (3, 0)) ∧ CI D sp ns nr na ne nm lt len fr to sj dr ab st lby se trn txt kd dd qq) ∨
    (na < 60 ∧ stp kd' fr' to' (lbL len') d s q (rep kd fr to (lbL len) dd sj qq (cset st ab) na).1 = none ∧ Ok (f_X7_doDraft (nI w) D) (fun r => r.2 = (3, 0) ∧ CI r.1 sp ns nr na ne nm lt len fr to sj dr ab st lby se trn txt kd dd qq ∧ ∀ x, 36 ≤ x → r.1.1 x = S.1 x)) ∨
    (na < 60 ∧ ∃ B, stp kd' fr' to' (lbL len') d s q (rep kd fr to (lbL len) dd sj qq (cset st ab) na).1 = some B ∧ rep kd' fr' to' (lbL len') (exF dd na d) (exF sj na s) (exF qq na q) (cset (stA st w (na + 1)) (exF ab na (st w))) (na + 1) = (B, (rep kd fr to (lbL len) dd sj qq (cset st ab) na).2) ∧ Ok (f_X7_doDraft (nI w) D) (fun r => r.2 = (0, 0) ∧ (∀ x, 36 ≤ x → r.1.1 x = S.1 x) ∧ r.1.1 2 0 = nI ns ∧ r.1.1 5 0 = nI nr ∧ (∃ b, RB r.1 16 18 b (18 + 21 - b) ∧ CB r.1 b kd' B) ∧ (B.1 = (rep kd fr to (lbL len) dd sj qq (cset st ab) na).1.1 → f_X3_changedShapes 16 r.1 = some (nI (fb_ct (fun k => (rep kd fr to (lbL len) dd sj qq (cset st ab) na).1.1.testBit k && dfA (rep kd fr to (lbL len) dd sj qq (cset st ab) na).1 B k) 10))) ∧
      ∀ U : HS, (∀ x, x ≠ 2 → x ≠ 5 → U.1 x = r.1.1 x) → (∀ k, k ≠ 0 → U.1 2 k = r.1.1 2 k) → U.2 = r.1.2 → U.1 2 0 = nI ns' → U.1 5 0 = nI nr' → CI U sp ns' nr' (na + 1) ne nm lt len' fr' to' (exF sj na s) (exF dr na w) (exF ab na (st w)) (stA st w (na + 1)) lby' se trn' txt' kd' (exF dd na d) (exF qq na q))) := by
  have h0 := h
  obtain ⟨⟨g1, g2⟩, ⟨c1, c2, c3, c4, c5⟩⟩ := h
  have g2' := g2
  obtain ⟨gW, gA, gT, -⟩ := g2'
  obtain ⟨hAI, -, -, -⟩ := rep_ok (set := cset st ab) gW gA na (Nat.le_refl _)
  obtain ⟨-, hA'⟩ := AI_ext hX hAI
  have hth := AI_th gW hAI
  obtain ⟨⟨b, b', hB9, hCB⟩, hV⟩ := c3
  have c5' := c5.2.2.2.2
  have hB' : RB D 16 18 b b' := RB_fr (by rw [f2]) hB9
  have hCB0 : CB D b kd (rep kd fr to (lbL len) dd sj qq (cset st ab) na).1 := CB_fr (RB_lo hB9) (fun x p _ => f x (by omega)) hCB
  have hCB' : CB D b kd' (rep kd fr to (lbL len) dd sj qq (cset st ab) na).1 := CB_env hAI.2.1 (fun k hk => (hX.2.2.2 k hk).1) hCB0
  have d1 : SC D sp lt := SC_fr (fun x p => f x (by omega)) c1
  have d5 : EC D ne nm se (fun e => (TX (rep kd fr to (lbL len) dd sj qq (se e) na).1 len trn txt)) := EC_fr (fun x p => f x (by omega)) (by rw [f 35 (by omega)]; exact c5') (by rw [f2]) c5
  rcases do7 cO.2.2.2.2.2 gT cT cR (HS1_lb cH) hRW hA' hB' hCB' hD hw with ⟨e, hx⟩ | ⟨e, hst, r, hr, e2, k1, k2, k3, k4⟩ | ⟨e, B, hst, r, hr, e2, ⟨k1, k2, k3, k4⟩, k5, k6, k7⟩
  · exact Or.inl ⟨e, hx, ⟨⟨g1, g2⟩, ⟨d1, cO, ⟨⟨b, b', hB', hCB0⟩, by rw [f2]; exact hV⟩, BN_fr (by rw [f2]) c4, d5⟩⟩⟩
  · have hk4 : CB r.1 b kd (rep kd fr to (lbL len) dd sj qq (cset st ab) na).1 := CB_env hAI.2.1 (fun k hk => ((hX.2.2.2 k hk).1).symm) k4
    exact Or.inr (Or.inl ⟨e, hst, r, hr, e2, ⟨⟨g1, g2⟩, ⟨SC_fr (fun x p => k1.1 x (by omega)) d1, OC_fr (fun x p p2 => k1.1 x (by omega)) cO, ⟨⟨b, b', k3, hk4⟩, by rw [k2, f2]; exact hV⟩, BN_fr (by rw [(k1.2 17 (by omega)).1, f2]) c4, EC_fr (fun x p => k1.1 x (by omega)) (by rw [k1.1 35 (by omega)]; exact d5.2.2.2.2) (by rw [k2]) d5⟩⟩, fun x p => by rw [k1.1 x (by omega), f x (by omega)]⟩)
  · have fx1 : ∀ x, 2 ≤ x → x < 9 → r.1.1 x = D.1 x := fun x p p2 => k1 x (by omega) (by omega) (by omega) (by omega) (by omega)
    have hrep := rep_next (w := w) g2 hX hw e hst
    have r2 : r.1.1 2 0 = nI ns := by rw [fx1 2 (by omega) (by omega)]; exact cO.1
    have r5 : r.1.1 5 0 = nI nr := by rw [fx1 5 (by omega) (by omega)]; exact cO.2.1
    refine Or.inr (Or.inr ⟨e, B, hst, hrep, r, hr, e2, fun x p => by rw [k1 x (by omega) (by omega) (by omega) (by omega) (by omega), f x (by omega)], r2, r5, ⟨b', by have := k5.2.2; rw [show 18 + 21 - b' = b by omega]; exact k5, k6⟩, fun hth' => chg7 k5 k7 k6 hth' hth, fun U u1 u2 u3 u4 u5 => ?_⟩)
    have ux : ∀ x, x ≠ 2 → x ≠ 5 → x ≠ 9 → x ≠ 13 → x ≠ 14 → x ≠ 15 → x < 18 ∨ 24 ≤ x → U.1 x = D.1 x := fun x p p2 p3 p4 p5 p6 p7 => by rw [u1 x p p2, k1 x p7 p3 p4 p5 p6]
    have hrs := fun e9 (he : e9 < ne) => rep_ext (d := d) (s := s) (q := q) g2 hX (set := se e9) (g1.2.2.2.2 e9 he)
    refine ⟨⟨⟨g1.1, g1.2.1, g1.2.2.1, g1.2.2.2.1, fun e9 he k hk => ?_⟩, hRW, WA_next (WA_env hX gA) hD hD2 hD3, TWF_next gT hw e, hK, hL, hB⟩, ⟨SC_fr (fun x p => ux x (by omega) (by omega) (by omega) (by omega) (by omega) (by omega) (by omega)) d1, ⟨u4, u5, ?_, ?_, fun a ha => ?_, ?_⟩, ?_, BN_fr ?_ c4, EC_cong (fun e9 he => ?_) (EC_fr (fun x p => ux x (by omega) (by omega) (by omega) (by omega) (by omega) (by omega) (by omega)) ?_ ?_ d5)⟩⟩
    · have := g1.2.2.2.2 e9 he k hk
      omega
    · have q3 := ux 3 (by omega) (by omega) (by omega) (by omega) (by omega) (by omega) (by omega)
      have q4 := ux 4 (by omega) (by omega) (by omega) (by omega) (by omega) (by omega) (by omega)
      obtain ⟨a1, ts, a2, a3, a4⟩ := cH
      refine ⟨fun k => ?_, ts, a2, ?_, fun k hk => ?_⟩
      · rw [q3]; exact a1 k
      · rw [u2 1 (by omega), fx1 2 (by omega) (by omega)]; exact a3
      · rw [q4]; exact a4 k hk
    · unfold RC at cR ⊢
      rw [ux 6 (by omega) (by omega) (by omega) (by omega) (by omega) (by omega) (by omega), ux 7 (by omega) (by omega) (by omega) (by omega) (by omega) (by omega) (by omega), ux 8 (by omega) (by omega) (by omega) (by omega) (by omega) (by omega) (by omega)]; exact cR
    · have hTA : TA D a (exF dd na d a) (exF sj na s a) (exF qq na q a) := by
        by_cases ea : a = na
        · rw [ea, exF_at, exF_at, exF_at]; exact cT e
        · rw [exF_ne ea, exF_ne ea, exF_ne ea]; exact cO.2.2.2.2.1 a (by omega)
      unfold TA at hTA ⊢
      rw [ux 10 (by omega) (by omega) (by omega) (by omega) (by omega) (by omega) (by omega), ux 11 (by omega) (by omega) (by omega) (by omega) (by omega) (by omega) (by omega), ux 12 (by omega) (by omega) (by omega) (by omega) (by omega) (by omega) (by omega)]
      exact hTA
    · unfold CT at k2 ⊢
      rw [u1 9 (by omega) (by omega), u1 13 (by omega) (by omega), u1 14 (by omega) (by omega), u1 15 (by omega) (by omega)]
      exact k2
    · rw [hrep]
      exact ⟨⟨b', b, RB_fr (by rw [u3]) k5, CB_fr (lo := 18) (by have := k5.2.2; omega) (fun x p p2 => u1 x (by omega) (by omega)) k6⟩, by rw [u3, k4, f2]; exact hV⟩
    · rw [u3, k3 17 (by omega), f2]
    · rw [hrs e9 he]
      refine TX_cong (fun k hk => hX.2.2.1 k ?_)
      exact (rep_ok (set := se e9) gW gA na (Nat.le_refl _)).1.1 k hk
    · rw [ux 35 (by omega) (by omega) (by omega) (by omega) (by omega) (by omega) (by omega)]; exact d5.2.2.2.2
    · rw [u3, k4]
/-- what a change that was made comes to: shapes and rules stay -/
theorem XE_rf : XE ns nr ns nr len len trn trn txt txt kd kd fr fr to to := ⟨Nat.le_refl _, Nat.le_refl _, fun _ _ => ⟨rfl, rfl, rfl⟩, fun _ _ => ⟨rfl, rfl, rfl⟩⟩
theorem L_keep (h : CI S sp ns nr na ne nm lt len fr to sj dr ab st lby se trn txt kd dd qq) (hd3 : d ≠ 3) : (∀ k, k < nr → lby k < na + 1 ∧ exF dd na d (lby k) = 3 ∧ exF sj na s (lby k) = k) ∧ ∀ v : Nat → Bool, fb_ct (fun a => v a && decide (exF dd na d a = 3)) (na + 1) = fb_ct (fun k => v (lby k)) nr := by
  obtain ⟨⟨g1, gW, gA, gT, gK, gL, gB⟩, -⟩ := h
  refine ⟨fun k hk => ?_, fun v => ?_⟩
  · obtain ⟨a1, a2, a3⟩ := gL k hk
    rw [exF_ne (by omega), exF_ne (by omega)]
    exact ⟨by omega, a2, a3⟩
  · rw [fb_ct_succ, exF_at, ← gB v]
    have : decide (d = 3) = false := decide_eq_false hd3
    rw [this, Bool.and_false]
    refine Eq.trans (Nat.add_zero _) (fb_ct_cong (fun k hk => ?_))
    rw [exF_ne (by omega)]
/-- a shape is moved, or gets a size -/
theorem k_chg (h : CI S sp ns nr na ne nm lt len fr to sj dr ab st lby se trn txt kd dd qq) (hw : w < 4) (hs : s < ns) (hq : d = 1 ∧ rngB (q 0) 0 = true ∧ rngB (q 1) 1 = true ∨ d = 2 ∧ rngB (q 2) 2 = true ∧ rngB (q 3) 3 = true) {x : Option XO} (hx : x = (f_X6_draft d (nI s) (q 0) (q 1) (q 2) (q 3) S).bind (fun o28 => (f_X7_doDraft (nI w) o28).bind (fun o33 => if o33.2.1 = 0 then (f_X3_changedShapes 16 o33.1).bind (fun o40 => some (o33.1, ((0 : Nat), o40))) else some (o33.1, (o33.2.1, (0 : Int32)))))) :
    Ok x (fun o => o.2 = (3, 0) ∧ CI o.1 sp ns nr na ne nm lt len fr to sj dr ab st lby se trn txt kd dd qq ∧ ∀ x, 36 ≤ x → o.1.1 x = S.1 x) ∨
    (na < 60 ∧ ∃ B, Does kd fr to (lbL len) d s q (rep kd fr to (lbL len) dd sj qq (cset st ab) na).1 B ∧ rep kd fr to (lbL len) (exF dd na d) (exF sj na s) (exF qq na q) (cset (stA st w (na + 1)) (exF ab na (st w))) (na + 1) = (B, (rep kd fr to (lbL len) dd sj qq (cset st ab) na).2) ∧ Ok x (fun o => o.2 = (0, nI (fb_ct (fun k => (rep kd fr to (lbL len) dd sj qq (cset st ab) na).1.1.testBit k && dfA (rep kd fr to (lbL len) dd sj qq (cset st ab) na).1 B k) 10)) ∧ (∀ x, 36 ≤ x → o.1.1 x = S.1 x) ∧ CI o.1 sp ns nr (na + 1) ne nm lt len fr to (exF sj na s) (exF dr na w) (exF ab na (st w)) (stA st w (na + 1)) lby se trn txt kd (exF dd na d) (exF qq na q))) := by
  have hh := h
  have h0 := h
  obtain ⟨⟨g1, g2⟩, ⟨c1, c2, c3, c4, c5⟩⟩ := h
  obtain ⟨gW, gA, gT, gK, gL, gB⟩ := g2
  have hna := gT.1
  have hns := gW.2.1
  have hnr := gW.1
  have hD : DW nr ns kd d s q := by
    rcases hq with ⟨h1, h2, h3⟩ | ⟨h1, h2, h3⟩
    · exact Or.inr (Or.inl ⟨h1, hs, h2, h3⟩)
    · exact Or.inr (Or.inr (Or.inl ⟨h1, hs, h2, h3⟩))
  have hd12 : d = 1 ∨ d = 2 := hq.imp (fun h => h.1) (fun h => h.1)
  have hd0 : d ≠ 0 := by rcases hd12 with h | h <;> rw [h] <;> decide
  have hd3 : d ≠ 3 := by rcases hd12 with h | h <;> rw [h] <;> decide
  obtain ⟨D, hDr, hDF, hTA⟩ := draft6 c2.2.2.2.2.2.1 hna d s q
  have df : ∀ x, x < 2 ∨ 16 ≤ x → D.1 x = S.1 x := fun x p => hDF.1 x (by omega) (by omega) (by omega)
  have cO := OC_DF hDF c2
  obtain ⟨l1, l2⟩ := L_keep (d := d) (s := s) hh hd3
  rw [hx, hDr, bsm]
  rcases act_ok hh XE_rf gW hD (fun e => absurd e hd0) (fun e => absurd e hd0) gK l1 l2 hw df hDF.2.2 cO hTA cO.2.2.2.1 cO.2.2.1 with ⟨e, hx, hID⟩ | ⟨e, hst, r, hr, e2, hIr, kr⟩ | ⟨e, B, hst, hrep, r, hr, e2, k1, k2, k3, k4, k5, k6⟩
  · left
    rw [hx]
    exact ⟨(D, (3, 0)), rfl, rfl, hID, fun x p => df x (by omega)⟩
  · left
    rw [hr, bsm, e2]
    exact ⟨(r.1, (3, 0)), rfl, rfl, hIr, kr⟩
  · right
    have hdo := stp_does hst
    have hB1 : B.1 = (rep kd fr to (lbL len) dd sj qq (cset st ab) na).1.1 := by
      rcases hd12 with h | h
      · rw [h] at hdo; exact (Does1.mp hdo).2.1
      · rw [h] at hdo; exact (Does2.mp hdo).2.1
    refine ⟨e, B, hdo, hrep, ?_⟩
    rw [hr, bsm, e2]
    dsimp only
    rw [if_pos rfl, k5 hB1, bsm]
    exact ⟨_, rfl, rfl, k1, k6 r.1 (fun _ _ _ => rfl) (fun _ _ => rfl) rfl k2 k3⟩
theorem k_move (h : CI S sp ns nr na ne nm lt len fr to sj dr ab st lby se trn txt kd dd qq) (hw : w < 4) (hs : s < ns) {x y : Int32} (hx : rngB x 0 = true) (hy : rngB y 1 = true) :
    Ok (f_X7_move (nI w) (nI s) x y S) (fun o => o.2 = (3, 0) ∧ CI o.1 sp ns nr na ne nm lt len fr to sj dr ab st lby se trn txt kd dd qq ∧ ∀ x, 36 ≤ x → o.1.1 x = S.1 x) ∨
    (na < 60 ∧ ∃ B, Does kd fr to (lbL len) 1 s (fun v => if v = 0 then x else if v = 1 then y else 0) (rep kd fr to (lbL len) dd sj qq (cset st ab) na).1 B ∧ rep kd fr to (lbL len) (exF dd na 1) (exF sj na s) (exF qq na (fun v => if v = 0 then x else if v = 1 then y else 0)) (cset (stA st w (na + 1)) (exF ab na (st w))) (na + 1) = (B, (rep kd fr to (lbL len) dd sj qq (cset st ab) na).2) ∧ Ok (f_X7_move (nI w) (nI s) x y S) (fun o => o.2 = (0, nI (fb_ct (fun k => (rep kd fr to (lbL len) dd sj qq (cset st ab) na).1.1.testBit k && dfA (rep kd fr to (lbL len) dd sj qq (cset st ab) na).1 B k) 10)) ∧ (∀ x, 36 ≤ x → o.1.1 x = S.1 x) ∧ CI o.1 sp ns nr (na + 1) ne nm lt len fr to (exF sj na s) (exF dr na w) (exF ab na (st w)) (stA st w (na + 1)) lby se trn txt kd (exF dd na 1) (exF qq na (fun v => if v = 0 then x else if v = 1 then y else 0)))) := by
  refine k_chg h (d := 1) (q := fun v => if v = 0 then x else if v = 1 then y else 0) hw hs (Or.inl ⟨rfl, hx, hy⟩) ?_
  have hns := h.1.2.1.2.1
  have hg : (rngB x 0 && rngB y 1) = true := by rw [hx, hy]; rfl
  unfold f_X7_move
  simp only [rDr_y hw, bsm, if_true, rSh_y h.2.2.1.1 hs (show ns < 2 ^ 31 by omega), rPl, hg]
  rfl
theorem k_resize (h : CI S sp ns nr na ne nm lt len fr to sj dr ab st lby se trn txt kd dd qq) (hw : w < 4) (hs : s < ns) {x y : Int32} (hx : rngB x 2 = true) (hy : rngB y 3 = true) :
    Ok (f_X7_resize (nI w) (nI s) x y S) (fun o => o.2 = (3, 0) ∧ CI o.1 sp ns nr na ne nm lt len fr to sj dr ab st lby se trn txt kd dd qq ∧ ∀ x, 36 ≤ x → o.1.1 x = S.1 x) ∨
    (na < 60 ∧ ∃ B, Does kd fr to (lbL len) 2 s (fun v => if v = 2 then x else if v = 3 then y else 0) (rep kd fr to (lbL len) dd sj qq (cset st ab) na).1 B ∧ rep kd fr to (lbL len) (exF dd na 2) (exF sj na s) (exF qq na (fun v => if v = 2 then x else if v = 3 then y else 0)) (cset (stA st w (na + 1)) (exF ab na (st w))) (na + 1) = (B, (rep kd fr to (lbL len) dd sj qq (cset st ab) na).2) ∧ Ok (f_X7_resize (nI w) (nI s) x y S) (fun o => o.2 = (0, nI (fb_ct (fun k => (rep kd fr to (lbL len) dd sj qq (cset st ab) na).1.1.testBit k && dfA (rep kd fr to (lbL len) dd sj qq (cset st ab) na).1 B k) 10)) ∧ (∀ x, 36 ≤ x → o.1.1 x = S.1 x) ∧ CI o.1 sp ns nr (na + 1) ne nm lt len fr to (exF sj na s) (exF dr na w) (exF ab na (st w)) (stA st w (na + 1)) lby se trn txt kd (exF dd na 2) (exF qq na (fun v => if v = 2 then x else if v = 3 then y else 0)))) := by
  refine k_chg h (d := 2) (q := fun v => if v = 2 then x else if v = 3 then y else 0) hw hs (Or.inr ⟨rfl, hx, hy⟩) ?_
  have hns := h.1.2.1.2.1
  have hg : (rngB x 2 && rngB y 3) = true := by rw [hx, hy]; rfl
  unfold f_X7_resize
  simp only [rDr_y hw, bsm, if_true, rSh_y h.2.2.1.1 hs (show ns < 2 ^ 31 by omega), rSz, hg]
  rfl
theorem k_drop (h : CI S sp ns nr na ne nm lt len fr to sj dr ab st lby se trn txt kd dd qq) (hw : w < 4) (hs : s < nr) :
    (Ok (f_X7_drop (nI w) (nI s) S) (fun o => o.2 = (3, 0) ∧ CI o.1 sp ns nr na ne nm lt len fr to sj dr ab st lby se trn txt kd dd qq ∧ ∀ x, 36 ≤ x → o.1.1 x = S.1 x) ∧ (na = 60 ∨ (rep kd fr to (lbL len) dd sj qq (cset st ab) na).1.2.1.testBit s = false)) ∨
    (na < 60 ∧ ∃ B, Does kd fr to (lbL len) 4 s (fun _ => 0) (rep kd fr to (lbL len) dd sj qq (cset st ab) na).1 B ∧ rep kd fr to (lbL len) (exF dd na 4) (exF sj na s) (exF qq na (fun _ => 0)) (cset (stA st w (na + 1)) (exF ab na (st w))) (na + 1) = (B, (rep kd fr to (lbL len) dd sj qq (cset st ab) na).2) ∧ Ok (f_X7_drop (nI w) (nI s) S) (fun o => o.2 = (0, nI (fb_ct (fun i => B.2.1.testBit i) 12)) ∧ (∀ x, 36 ≤ x → o.1.1 x = S.1 x) ∧ CI o.1 sp ns nr (na + 1) ne nm lt len fr to (exF sj na s) (exF dr na w) (exF ab na (st w)) (stA st w (na + 1)) lby se trn txt kd (exF dd na 4) (exF qq na (fun _ => 0)))) := by
  have hh := h
  have h0 := h
  obtain ⟨⟨g1, g2⟩, ⟨c1, c2, c3, c4, c5⟩⟩ := h
  obtain ⟨gW, gA, gT, gK, gL, gB⟩ := g2
  have hna := gT.1
  have hns := gW.2.1
  have hnr := gW.1
  obtain ⟨hAI, -, -, -⟩ := rep_ok (set := cset st ab) gW gA na (Nat.le_refl _)
  have hD : DW nr ns kd 4 s (fun _ => 0) := Or.inr (Or.inr (Or.inr (Or.inr ⟨rfl, hs⟩)))
  obtain ⟨D, hDr, hDF, hTA⟩ := draft6 c2.2.2.2.2.2.1 hna 4 s (fun _ => 0)
  have hx : f_X7_drop (nI w) (nI s) S = (f_X7_doDraft (nI w) D).bind (fun o25 => if o25.2.1 = 0 then rf (o25.1.2.2 16 1) 0 (fun b32 => (f_J6_bitCount_0f7a4 (o25.1.1 b32 6) o25.1).bind (fun o38 => some (o25.1, ((0 : Nat), o38)))) else some (o25.1, (o25.2.1, (0 : Int32)))) := by
    unfold f_X7_drop
    simp only [rDr_y hw, bsm, if_true, rRu_y c2.2.1 hs (show nr < 2 ^ 31 by omega), hDr]
  rw [hx]
  have df : ∀ x, x < 2 ∨ 16 ≤ x → D.1 x = S.1 x := fun x p => hDF.1 x (by omega) (by omega) (by omega)
  have cO := OC_DF hDF c2
  obtain ⟨l1, l2⟩ := L_keep (d := 4) (s := s) hh (by decide)
  rcases act_ok hh XE_rf gW hD (fun e => absurd e (by decide)) (fun e => absurd e (by decide)) gK l1 l2 hw df hDF.2.2 cO hTA cO.2.2.2.1 cO.2.2.1 with ⟨e, hx, hID⟩ | ⟨e, hst, r, hr, e2, hIr, kr⟩ | ⟨e, B, hst, hrep, r, hr, e2, k1, k2, k3, ⟨b, kB, kC⟩, k5, k6⟩
  · left
    rw [hx]
    exact ⟨⟨(D, (3, 0)), rfl, rfl, hID, fun x p => df x (by omega)⟩, Or.inl e⟩
  · left
    rw [hr, bsm, e2]
    refine ⟨⟨(r.1, (3, 0)), rfl, rfl, hIr, kr⟩, Or.inr ?_⟩
    cases e9 : (rep kd fr to (lbL len) dd sj qq (cset st ab) na).1.2.1.testBit s with
    | false => rfl
    | true =>
      exfalso
      obtain ⟨C, c9, -⟩ := stp_yes (kd := kd) (fr := fr) (to := to) (lb := lbL len) (A := (rep kd fr to (lbL len) dd sj qq (cset st ab) na).1) (d := 4) (s := s) (q := fun _ => 0) ⟨((rep kd fr to (lbL len) dd sj qq (cset st ab) na).1.1, clr (rep kd fr to (lbL len) dd sj qq (cset st ab) na).1.2.1 s, (rep kd fr to (lbL len) dd sj qq (cset st ab) na).1.2.2.1, (rep kd fr to (lbL len) dd sj qq (cset st ab) na).1.2.2.2), Does4.mpr ⟨e9, rfl, rfl, fun _ _ _ _ => rfl, fun _ _ _ _ _ => rfl⟩⟩
      rw [hst] at c9
      cases c9
  · right
    have hdo := stp_does hst
    have hB2 : B.2.1 < 2 ^ 12 := by
      rw [(Does4.mp hdo).2.2.1]
      exact clr_lt (fok_lt hAI.2.1 hnr)
    have hob : oc b = some 0 := HL_oc (Or.inl ⟨rfl, rfl⟩) (RB_lo kB)
    refine ⟨e, B, hdo, hrep, ?_⟩
    rw [hr, bsm, e2]
    dsimp only
    rw [if_pos rfl, kB.1, rf_some hob, kC.2.1, bitc7 _ hB2, bsm]
    exact ⟨_, rfl, rfl, k1, k6 r.1 (fun _ _ _ => rfl) (fun _ _ => rfl) rfl k2 k3⟩
end
