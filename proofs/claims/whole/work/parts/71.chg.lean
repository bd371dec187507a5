/-! shapes are moved, or get a size -/
theorem J_exO {l : List (Nat × Int32)} {x : Option XO} {y : HS → Option (HS × Int32)} {c : Nat} {k : Int32} (hc : c ≠ 0) (hk : k ≠ 0) (hl : ∀ (S1 : HS) v, wch l (S1, (c, v)) = some (S1, k)) (hx : Ok x (fun o => o.2.1 = c ∧ Ok (y o.1) (fun r => r.1.1 36 36 = k ∧ Inv r.1))) : J (wrp l x) y := by
  obtain ⟨⟨S1, c', v⟩, rfl, h0, r, hy, h1, h2⟩ := hx
  dsimp only at h0 hy
  subst h0
  refine ⟨(S1, k), ?_, r, hy, h1, fun q => absurd q hk, h2⟩
  unfold wrp
  rw [bsm, if_neg hc]
  exact hl S1 v
section
variable {S T R F : HS} {sp ns nr na ne nm V : Nat} {lt len fr to sj dr ab st lby se : Nat → Nat} {trn : Nat → Bool} {txt : Nat → Nat → Nat} {kd dd : Nat → Int32} {qq : Nat → Nat → Int32} {w s : Nat} {d : Int32} {q : Nat → Int32} {A B : AB} {X : Nat → List Nat}
theorem cls_mv (f : ∀ x, x < 36 → F.1 x = R.1 x) (f1 : ∀ x, x ≠ 60 → F.2.1 x = R.2.1 x) (f2 : F.2.2 = R.2.2) : (SC R sp lt → SC F sp lt) ∧ (OC R ns nr na len trn txt kd fr to dd sj qq dr ab st → OC F ns nr na len trn txt kd fr to dd sj qq dr ab st) ∧ (BC R kd A V → BC F kd A V) ∧ (BN R → BN F) ∧ (EC R ne nm se X → EC F ne nm se X) := by
  refine ⟨fun h => SC_fr (fun x p => f x (by omega)) h, fun h => OC_fr (fun x _ p => f x (by omega)) h, fun h => BC_fr (fun x _ p => f x (by omega)) (f1 16 (by omega)) (by rw [f2]) h, fun h => BN_fr (by rw [f2]) h, fun h => EC_fr (fun x p => f x (by omega)) ?_ (f1 31 (by omega)) h⟩
  rw [f 35 (by omega)]
  exact h.2.2.2.2
/-- what the model holds behind the writing of an act -/
theorem wr_I0 (h : I0 S sp ns nr na ne nm lt len fr to sj dr ab st lby se trn txt kd dd qq) (hT : ∀ x, 36 ≤ x → T.1 x = S.1 x) (w' d' s' a b c e : Int32) : T.1 36 12 = nI na ∧ SM (wrS T na w' d' s' a b c e) sp lt ∧ OM (wrS T na w' d' s' a b c e) ns nr na len trn txt kd fr to dd sj qq dr ab st lby ∧ BM (wrS T na w' d' s' a b c e) kd na (rep kd fr to (lbL len) dd sj qq (cset st ab) na).1 (rep kd fr to (lbL len) dd sj qq (cset st ab) na).2 ∧ EM (wrS T na w' d' s' a b c e) ne nm (fun e => (rep kd fr to (lbL len) dd sj qq (se e) na).1) ∧ (wrS T na w' d' s' a b c e).1 46 na = w' := by
  obtain ⟨-, -, ⟨m1, m2, m3, m4⟩⟩ := h
  obtain ⟨k1, k2, k3, k4, k5⟩ := m2
  have uo : ∀ x, 36 ≤ x → x ≠ 46 → x ≠ 48 → x ≠ 49 → x ≠ 50 → (wrS T na w' d' s' a b c e).1 x = S.1 x := fun x p a b c d => by rw [wrS_o ⟨a, b, c, d⟩, hT x p]
  have u36 : (wrS T na w' d' s' a b c e).1 36 = S.1 36 := uo 36 (by omega) (by omega) (by omega) (by omega) (by omega)
  refine ⟨by rw [hT 36 (by omega)]; exact k5.1, SM_fr (by rw [u36]) (uo 37 (by omega) (by omega) (by omega) (by omega) (by omega)) m1, ⟨HM1_fr (fun x p p2 => uo x (by omega) (by omega) (by omega) (by omega) (by omega)) k1, MC_fr2 (uo 38 (by omega) (by omega) (by omega) (by omega) (by omega)) (fun x p p2 => uo x (by omega) (by omega) (by omega) (by omega) (by omega)) (by rw [u36]) (by rw [u36]) k2, ?_, fun k hk => wrS_TM hk (TM_fr2 (fun x p p2 => hT x (by omega)) (k4 k hk)), ⟨by rw [u36]; exact k5.1, fun k hk => ⟨?_, ?_⟩, ?_⟩⟩, BM_fr (uo 51 (by omega) (by omega) (by omega) (by omega) (by omega)) (fun x p p2 => uo x (by omega) (by omega) (by omega) (by omega) (by omega)) (fun k _ => by rw [u36]) m3, EM_fr (fun x p p2 => uo x (by omega) (by omega) (by omega) (by omega) (by omega)) (fun k _ => by rw [u36]) m4, by rw [wrS_46, if_pos rfl]⟩
  · rw [uo 45 (by omega) (by omega) (by omega) (by omega) (by omega)]; exact k3
  · rw [wrS_46, if_neg (by omega), hT 46 (by omega)]; exact (k5.2.1 k hk).1
  · rw [uo 47 (by omega) (by omega) (by omega) (by omega) (by omega)]; exact (k5.2.1 k hk).2
  · rw [uo 52 (by omega) (by omega) (by omega) (by omega) (by omega)]; exact k5.2.2
/-! the model's way through a change -/
theorem ch8_n {p1 p2 a b : Int32} (hsh : T.1 36 2 = nI ns) (hns : ns ≤ 10) (hn : (p1 < 0 ∨ ¬ p1 < 4) ∨ (p2 < 0 ∨ ¬ p2 < nI ns)) (g : Bool) : f_X8_changes p1 d p2 a b (bI g) T = some (sI T 36 36 1, 0) := by
  unfold f_X8_changes f_X8_changes_b19 f_X8_changes_b20 f_X8_changes_b45 f_X8_changes_b46 f_X8_changes_b72 f_X8_changes_b101 f_X8_changes_b115
  rcases dr_or p1 with ⟨w, hw, rfl⟩ | ⟨-, hb⟩
  · have h2 : p2 < 0 ∨ ¬ p2 < nI ns := by
      rcases hn with h | h
      · rcases h with h | h
        · exact absurd h (nI_pos (by omega))
        · exact absurd (show nI w < (4 : Int32) from lt_nI (n := 4) hw (by decide)) h
      · exact h
    simp only [isDr8, isDr_yes hw, bsm, ob, zb, isSh8 hsh, isN_no h2 (show ns < 2 ^ 31 by omega), if_true, can8, d10]
  · simp only [isDr8, hb, bsm, zb, if_true, can8, d10]
theorem ch8_r {a b : Int32} (hsh : T.1 36 2 = nI ns) (hns : ns ≤ 10) (hw : w < 4) (hs : s < ns) : f_X8_changes (nI w) d (nI s) a b (bI false) T = some (sI T 36 36 2, 0) := by
  unfold f_X8_changes f_X8_changes_b20 f_X8_changes_b45 f_X8_changes_b46 f_X8_changes_b72 f_X8_changes_b101 f_X8_changes_b115
  simp only [isDr8, isDr_yes hw, bsm, ob, zb, isSh8 hsh, isN_yes hs (show ns < 2 ^ 31 by omega), if_neg (show ¬ (1 : Int32) = 0 from by decide), if_true, can8, d20]
theorem ch8_60 {a b : Int32} (hsh : T.1 36 2 = nI ns) (hns : ns ≤ 10) (hw : w < 4) (hs : s < ns) (h12 : T.1 36 12 = nI 60) : f_X8_changes (nI w) d (nI s) a b (bI true) T = some (sI T 36 36 3, 0) := by
  unfold f_X8_changes f_X8_changes_b20 f_X8_changes_b45 f_X8_changes_b46 f_X8_changes_b72 f_X8_changes_b101 f_X8_changes_b115
  simp only [isDr8, isDr_yes hw, bsm, ob, zb, isSh8 hsh, isN_yes hs (show ns < 2 ^ 31 by omega), if_neg (show ¬ (1 : Int32) = 0 from by decide), h12, if_pos (show (60 : Int32) ≤ nI 60 from by decide), if_true, can8, d30]
theorem ch8_t {a b : Int32} (hsh : T.1 36 2 = nI ns) (hns : ns ≤ 10) (hw : w < 4) (hs : s < ns) (h12 : T.1 36 12 = nI na) (hna : na < 60) {U : HS} {ok : Bool} (ht : f_X8_tries (nI na) (wrS T na (nI w) d (nI s) a b 0 0) = some (U, bI ok)) : f_X8_changes (nI w) d (nI s) a b (bI true) T = if ok = true then (f_X8_makes (sI U 36 36 0)) else some (sI U 36 36 3, 0) := by
  have h12' : (wrS T na (nI w) d (nI s) a b 0 0).1 36 12 = nI na := by rw [wrS_o (by omega)]; exact h12
  have hcm : f_X8_canMake (wrS T na (nI w) d (nI s) a b 0 0) = some (U, bI ok) := by
    unfold f_X8_canMake f_X8_canMake_b24 f_X8_canMake_b25
    rw [h12', if_neg (le60n hna), ht, bsm, nz_0, nz_1, if_pos rfl, if_pos rfl]
    cases ok <;> rfl
  unfold f_X8_changes f_X8_changes_b20 f_X8_changes_b46 f_X8_changes_b72 f_X8_changes_b101 f_X8_changes_b115
  simp only [isDr8, isDr_yes hw, bsm, ob, zb, isSh8 hsh, isN_yes hs (show ns < 2 ^ 31 by omega), if_neg (show ¬ (1 : Int32) = 0 from by decide), h12, if_neg (le60n hna), writes8 h12 hna, hcm, can8]
  cases ok with
  | true =>
    simp only [ob, d00, decide_true, if_true]
    cases f_X8_makes (sI U 36 36 0) <;> rfl
  | false =>
    simp only [zb, d30]
    rfl
theorem j_chg {S : HS} (h : Inv S) {p1 p2 a b : Int32} {g : Bool} {d : Int32} {q : Nat → Int32} (hq : g = true → d = 1 ∧ q 0 = a ∧ q 1 = b ∧ rngB (q 0) 0 = true ∧ rngB (q 1) 1 = true ∨ d = 2 ∧ q 2 = a ∧ q 3 = b ∧ rngB (q 2) 2 = true ∧ rngB (q 3) 3 = true) {x : Option XO} {y : HS → Option (HS × Int32)} (hx1 : (p1 < 0 ∨ ¬ p1 < 4) → x = some (S, (1, 0))) (hx2 : ∀ w ns, w < 4 → p1 = nI w → S.1 2 0 = nI ns → ns ≤ 10 → (p2 < 0 ∨ ¬ p2 < nI ns) → x = some (S, (1, 0))) (hx3 : ∀ w s ns, w < 4 → p1 = nI w → S.1 2 0 = nI ns → ns ≤ 10 → s < ns → p2 = nI s → g = false → x = some (S, (2, 0))) (hx4 : ∀ w s ns, w < 4 → p1 = nI w → S.1 2 0 = nI ns → ns ≤ 10 → s < ns → p2 = nI s → g = true → x = (f_X6_draft d (nI s) (q 0) (q 1) (q 2) (q 3) S).bind (fun o28 => (f_X7_doDraft (nI w) o28).bind (fun o33 => if o33.2.1 = 0 then (f_X3_changedShapes 16 o33.1).bind (fun o40 => some (o33.1, ((0 : Nat), o40))) else some (o33.1, (o33.2.1, (0 : Int32)))))) (hy : ∀ T, y T = f_X8_changes p1 d p2 a b (bI g) T) : J (wrp [(1, 1), (2, 2), (3, 3)] x) y := by
  obtain ⟨sp, ns, nr, na, ne, nm, lt, len, fr, to, sj, dr, ab, st, lby, se, trn, txt, kd, dd, qq, h⟩ := h
  have hI := I0_inv h
  have h0 := h
  obtain ⟨⟨g1, g2⟩, ⟨c1, c2, c3, c4, c5⟩, ⟨m1, m2, m3, m4⟩⟩ := h
  obtain ⟨gW, gA, gT, gK, gL, gB⟩ := g2
  have hna := gT.1
  have hns := gW.2.1
  have hnr := gW.1
  have hsh := m2.2.1.2.1
  rcases in_or p2 ns (by omega) with ⟨s, hs, rfl⟩ | hn2
  · rcases dr_or p1 with ⟨w, hw, rfl⟩ | ⟨hn1, -⟩
    · cases g with
      | false =>
        exact J_ex (S1 := S) (v := 0) (c := 2) (k := 2) (w := 0) (hx3 w s ns hw rfl c2.1 hns hs rfl rfl) (by decide) (by decide) (fun v => rfl) (by rw [hy]; exact ch8_r hsh hns hw hs) hI
      | true =>
        have hq := hq rfl
        have hD : DW nr ns kd d s q := by
          rcases hq with ⟨h1, -, -, h2, h3⟩ | ⟨h1, -, -, h2, h3⟩
          · exact Or.inr (Or.inl ⟨h1, hs, h2, h3⟩)
          · exact Or.inr (Or.inr (Or.inl ⟨h1, hs, h2, h3⟩))
        have hd12 : d = 1 ∨ d = 2 := by
          rcases hq with ⟨h1, -⟩ | ⟨h1, -⟩
          · exact Or.inl h1
          · exact Or.inr h1
        have hd0 : d ≠ 0 := by rcases hd12 with h | h <;> rw [h] <;> decide
        have hd3 : d ≠ 3 := by rcases hd12 with h | h <;> rw [h] <;> decide
        have hX : XE ns nr ns nr len len trn trn txt txt kd kd fr fr to to := ⟨Nat.le_refl _, Nat.le_refl _, fun _ _ => ⟨rfl, rfl, rfl⟩, fun _ _ => ⟨rfl, rfl, rfl⟩⟩
        rw [hx4 w s ns hw rfl c2.1 hns hs rfl rfl]
        obtain ⟨D, hDr, hDF, hTA⟩ := draft6 c2.2.2.2.2.2.1 hna d s q
        have df : ∀ x, x < 2 ∨ 16 ≤ x → D.1 x = S.1 x := fun x p => hDF.1 x (by omega) (by omega) (by omega)
        have cO : OC D ns nr na len trn txt kd fr to dd sj qq dr ab st := by
          obtain ⟨k1, k2, k3, k4, k5, k6⟩ := c2
          have o : ∀ x, x ≠ 10 → x ≠ 11 → x ≠ 12 → D.1 x = S.1 x := hDF.1
          refine ⟨by rw [o 2 (by omega) (by omega) (by omega)]; exact k1, by rw [o 5 (by omega) (by omega) (by omega)]; exact k2, ?_, ?_, fun a ha => DF_TA hDF ha (k5 a ha), ?_⟩
          · unfold HS1 at k3 ⊢
            rw [o 2 (by omega) (by omega) (by omega), o 3 (by omega) (by omega) (by omega), o 4 (by omega) (by omega) (by omega)]; exact k3
          · unfold RC at k4 ⊢
            rw [o 6 (by omega) (by omega) (by omega), o 7 (by omega) (by omega) (by omega), o 8 (by omega) (by omega) (by omega)]; exact k4
          · unfold CT at k6 ⊢
            rw [o 9 (by omega) (by omega) (by omega), o 13 (by omega) (by omega) (by omega), o 14 (by omega) (by omega) (by omega), o 15 (by omega) (by omega) (by omega)]; exact k6
        rw [hDr, bsm]
        have hTM : ∀ T, TM (wrS T na (nI w) d (nI s) a b 0 0) na d s q := fun T => wrS_new ⟨fun e => absurd e hd0, fun e => by
          rcases hq with ⟨-, h1, h2, -⟩ | ⟨h1, -⟩
          · exact ⟨h1, h2⟩
          · rw [h1] at e; exact absurd e (by decide), fun e => by
          rcases hq with ⟨h1, -⟩ | ⟨-, h1, h2, -⟩
          · rw [h1] at e; exact absurd e (by decide)
          · exact ⟨h1, h2⟩⟩
        rcases cact h0 hX gW hD hw df hDF.2.2 cO hTA cO.2.2.2.1 cO.2.2.1 with ⟨e, hx, hID⟩ | ⟨e, hst, r, hr, e2, hIr, -⟩ | ⟨e, B, hst, r, hr, e2, k1, k2, k3, k4, k5, k6, k7, -, k8⟩
        · exact J_ex (S1 := D) (v := 0) (c := 3) (k := 3) (w := 0) (by rw [hx]; rfl) (by decide) (by decide) (fun v => rfl) (by rw [hy]; exact ch8_60 hID.2.2.2.1.2.1.2.1 hns hw hs (by rw [hID.2.2.2.1.2.2.2.2.1, e])) (I0_inv hID)
        · refine J_exO (c := 3) (k := 3) (by decide) (by decide) (fun _ _ => rfl) ⟨(r.1, (3, 0)), by rw [hr, bsm, e2]; rfl, rfl, ?_⟩
          dsimp only
          obtain ⟨w12, w1, w2, w3, w4, -⟩ := wr_I0 hIr (fun _ _ => rfl) (nI w) d (nI s) a b 0 0
          obtain ⟨U, hU, u2, u3, u4⟩ := mbad hIr hX gW hD e hst w2.2.1 (hTM r.1) w1 w2 w3 w4
          obtain ⟨v1, v2, v3, v4⟩ := u4 3
          rw [hy, ch8_t hIr.2.2.2.1.2.1.2.1 hns hw hs w12 e (ok := false) hU, if_neg (by decide)]
          refine ⟨_, rfl, th_at, ?_⟩
          obtain ⟨i0, ⟨i1, i2, i3, i4, i5⟩, -⟩ := hIr
          obtain ⟨z1, z2, z3, z4, z5⟩ := cls_mv (R := r.1) (F := sI U 36 36 3) (sp := sp) (ns := ns) (nr := nr) (na := na) (ne := ne) (nm := nm) (V := (rep kd fr to (lbL len) dd sj qq (cset st ab) na).2) (lt := lt) (len := len) (fr := fr) (to := to) (sj := sj) (dr := dr) (ab := ab) (st := st) (se := se) (trn := trn) (txt := txt) (kd := kd) (dd := dd) (qq := qq) (A := (rep kd fr to (lbL len) dd sj qq (cset st ab) na).1) (X := fun e => TX (rep kd fr to (lbL len) dd sj qq (se e) na).1 len trn txt) (fun x p => by rw [sI_o (by omega), u3 x p, wrS_o (by omega)]) (fun x p => by show U.2.1 x = _; rw [u2]; rfl) (by show U.2.2 = _; rw [u2]; rfl)
          exact I0_inv ⟨i0, ⟨z1 i1, z2 i2, z3 i3, z4 i4, z5 i5⟩, ⟨v1, v2, v3, v4⟩⟩
        · have hB1 : B.1 = (rep kd fr to (lbL len) dd sj qq (cset st ab) na).1.1 := by
            have := stp_does hst
            rcases hd12 with h | h
            · rw [h] at this; exact (Does1.mp this).2.1
            · rw [h] at this; exact (Does2.mp this).2.1
          refine J_ok ⟨(r.1, (0, nI (fb_ct (fun k => (rep kd fr to (lbL len) dd sj qq (cset st ab) na).1.1.testBit k && dfA (rep kd fr to (lbL len) dd sj qq (cset st ab) na).1 B k) 10))), by rw [hr, bsm, e2]; dsimp only; rw [if_pos rfl, k8 hB1, bsm], rfl, ?_⟩
          dsimp only
          generalize hT : sL r.1 60 0 (nI (fb_ct (fun k => (rep kd fr to (lbL len) dd sj qq (cset st ab) na).1.1.testBit k && dfA (rep kd fr to (lbL len) dd sj qq (cset st ab) na).1 B k) 10)).toInt64 = T
          have hT1 : T.1 = r.1.1 := by rw [← hT]; rfl
          have hT2 : T.2.2 = r.1.2.2 := by rw [← hT]; rfl
          have hT3 : ∀ x, x ≠ 60 → T.2.1 x = r.1.2.1 x := fun x hx => by
            rw [← hT]
            unfold sL
            simp [hx]
          have hT6 : T.2.1 60 0 = (nI (fb_ct (fun k => (rep kd fr to (lbL len) dd sj qq (cset st ab) na).1.1.testBit k && dfA (rep kd fr to (lbL len) dd sj qq (cset st ab) na).1 B k) 10)).toInt64 := by rw [← hT]; exact sL_60
          have hTf : ∀ x, 36 ≤ x → T.1 x = S.1 x := fun x p => by rw [hT1, k1 x p]
          obtain ⟨w12, w1, w2, w3, w4, w5⟩ := wr_I0 h0 hTf (nI w) d (nI s) a b 0 0
          obtain ⟨tr, fl, tx, ty, ht, hgo⟩ := mgood h0 hX gW hD (fun e => absurd e hd0) (fun e => absurd e hd0) e hw hst w2.2.2.2.2 w5 w3.2 w3.1 w2.2.1 (hTM T) w1 w4
          obtain ⟨F, hF, f1, f2, f3, -, f5, f6, f7, f8, f9, f10, f11⟩ := hgo _ rfl
          rw [hy, ch8_t (by rw [hTf 36 (by omega)]; exact hsh) hns hw hs w12 e (ok := true) ht, if_pos rfl, hF, f1 hd12 hB1]
          refine ⟨_, rfl, f2, by rw [f3]; exact hT6, rfl, ?_⟩
          have fc : ∀ x, x < 36 → F.1 x = r.1.1 x := fun x p => by
            rw [f5 x (by omega) (by omega) (by omega) (by omega) (by omega) (by omega) (by omega) (by omega), wrS_o (by omega), hT1]
          obtain ⟨z1, z2, z3, z4, z5⟩ := cls_mv (R := r.1) (F := F) (sp := sp) (ns := ns) (nr := nr) (na := na + 1) (ne := ne) (nm := nm) (V := (rep kd fr to (lbL len) dd sj qq (cset st ab) na).2) (lt := lt) (len := len) (fr := fr) (to := to) (sj := exF sj na s) (dr := exF dr na w) (ab := exF ab na (st w)) (st := stA st w (na + 1)) (se := se) (trn := trn) (txt := txt) (kd := kd) (dd := exF dd na d) (qq := exF qq na q) (A := B) (X := fun e => TX (rep kd fr to (lbL len) dd sj qq (se e) na).1 len trn txt) fc (fun x p => by rw [f3, wrS_2]; exact hT3 x p) (by rw [f3, wrS_2]; exact hT2)
          refine I0_next (lby' := lby) g1 ⟨gW, gA, gT, gK, gL, gB⟩ hX gW hw e hD (fun e => absurd e hd0) (fun e => absurd e hd0) gK (fun k hk => by have := gL k hk; omega) (fun v => ?_) hst (z1 k2) (z2 k3) (z3 k4) (z4 k5) (z5 k6) f7 ⟨?_, f11, ?_, fun a0 ha => ?_, f10⟩ f9 f8
          · rw [fb_ct_succ, exF_at, ← gB v]
            have : decide (d = 3) = false := decide_eq_false hd3
            rw [this, Bool.and_false]
            refine Eq.trans (Nat.add_zero _) (fb_ct_cong (fun k hk => ?_))
            rw [exF_ne (by omega)]
          · exact HM1_fr (fun x p p2 => f5 x (by omega) (by omega) (by omega) (by omega) (by omega) (by omega) (by omega) (by omega)) w2.1
          · rw [f5 45 (by omega) (by omega) (by omega) (by omega) (by omega) (by omega) (by omega) (by omega)]
            exact w2.2.2.1
          · have hfr : ∀ x, 48 ≤ x → x < 51 → F.1 x = (wrS T na (nI w) d (nI s) a b 0 0).1 x := fun x p p2 => f5 x (by omega) (by omega) (by omega) (by omega) (by omega) (by omega) (by omega) (by omega)
            by_cases ea : a0 = na
            · rw [ea, exF_at, exF_at, exF_at]
              exact TM_fr2 hfr (hTM T)
            · rw [exF_ne ea, exF_ne ea, exF_ne ea]
              exact TM_fr2 hfr (w2.2.2.2.1 a0 (by omega))
    · exact J_ex (S1 := S) (v := 0) (c := 1) (k := 1) (w := 0) (hx1 hn1) (by decide) (by decide) (fun v => rfl) (by rw [hy]; exact ch8_n hsh hns (Or.inl hn1) g) hI
  · rcases dr_or p1 with ⟨w, hw, rfl⟩ | ⟨hn1, -⟩
    · exact J_ex (S1 := S) (v := 0) (c := 1) (k := 1) (w := 0) (hx2 w ns hw rfl c2.1 hns hn2) (by decide) (by decide) (fun v => rfl) (by rw [hy]; exact ch8_n hsh hns (Or.inr hn2) g) hI
    · exact J_ex (S1 := S) (v := 0) (c := 1) (k := 1) (w := 0) (hx1 hn1) (by decide) (by decide) (fun v => rfl) (by rw [hy]; exact ch8_n hsh hns (Or.inl hn1) g) hI
end
theorem j_move {S : HS} (h : Inv S) (p1 p2 p3 p4 : Int32) : J (f_L_move p1 p2 p3 p4 S) (f_X8_move p1 p2 p3 p4) := by
  rw [wr_move]
  refine j_chg h (p1 := p1) (p2 := p2) (a := p3) (b := p4) (g := rngB p3 0 && rngB p4 1) (d := 1) (q := fun w => if w = 0 then p3 else if w = 1 then p4 else 0) (fun hg => ?_) (fun hn => ?_) (fun w ns hw e1 e2 hns hn => ?_) (fun w s ns hw e1 e2 hns hs e3 hg => ?_) (fun w s ns hw e1 e2 hns hs e3 hg => ?_) (fun T => ?_)
  · rw [Bool.and_eq_true] at hg
    exact Or.inl ⟨rfl, rfl, rfl, hg.1, hg.2⟩
  · unfold f_X7_move
    rw [rDr_n hn]
    rfl
  · subst e1
    unfold f_X7_move
    simp only [rDr_y hw, bsm, if_true, rSh_n e2 hn]
    rfl
  · subst e1 e3
    unfold f_X7_move
    simp only [rDr_y hw, bsm, if_true, rSh_y e2 hs (show ns < 2 ^ 31 by omega), rPl, hg]
    rfl
  · subst e1 e3
    unfold f_X7_move
    simp only [rDr_y hw, bsm, if_true, rSh_y e2 hs (show ns < 2 ^ 31 by omega), rPl, hg]
    rfl
  · unfold f_X8_move
    rw [isPl8, bsm]
    cases f_X8_changes p1 1 p2 p3 p4 (bI (rngB p3 0 && rngB p4 1)) T <;> rfl
theorem j_resize {S : HS} (h : Inv S) (p1 p2 p3 p4 : Int32) : J (f_L_resize p1 p2 p3 p4 S) (f_X8_resize p1 p2 p3 p4) := by
  rw [wr_resize]
  refine j_chg h (p1 := p1) (p2 := p2) (a := p3) (b := p4) (g := rngB p3 2 && rngB p4 3) (d := 2) (q := fun w => if w = 2 then p3 else if w = 3 then p4 else 0) (fun hg => ?_) (fun hn => ?_) (fun w ns hw e1 e2 hns hn => ?_) (fun w s ns hw e1 e2 hns hs e3 hg => ?_) (fun w s ns hw e1 e2 hns hs e3 hg => ?_) (fun T => ?_)
  · rw [Bool.and_eq_true] at hg
    exact Or.inr ⟨rfl, rfl, rfl, hg.1, hg.2⟩
  · unfold f_X7_resize
    rw [rDr_n hn]
    rfl
  · subst e1
    unfold f_X7_resize
    simp only [rDr_y hw, bsm, if_true, rSh_n e2 hn]
    rfl
  · subst e1 e3
    unfold f_X7_resize
    simp only [rDr_y hw, bsm, if_true, rSh_y e2 hs (show ns < 2 ^ 31 by omega), rSz, hg]
    rfl
  · subst e1 e3
    unfold f_X7_resize
    simp only [rDr_y hw, bsm, if_true, rSh_y e2 hs (show ns < 2 ^ 31 by omega), rSz, hg]
    rfl
  · unfold f_X8_resize
    rw [isSz8, bsm]
    cases f_X8_changes p1 2 p2 p3 p4 (bI (rngB p3 2 && rngB p4 3)) T <;> rfl
