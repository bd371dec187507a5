/-! calls that only ask: rules, parts; the spelled text -/
theorem bitc_S (x : Int32) (S S' : HS) : f_J6_bitCount_0f7a4 x S = f_J6_bitCount_0f7a4 x S' := rfl
theorem bitc_a : ∀ a, a < 64 → ∀ c, c < 64 → f_J6_bitCount_0f7a4 (nI (64 * a + c)) SZ = some (nI (fb_ct (fun i => (64 * a + c).testBit i) 12)) := by decide +kernel
theorem bitc_all (g : Nat) (h : g < 4096) : f_J6_bitCount_0f7a4 (nI g) SZ = some (nI (fb_ct (fun i => g.testBit i) 12)) := by
  have := bitc_a (g / 64) (by omega) (g % 64) (by omega)
  rw [show 64 * (g / 64) + g % 64 = g by omega] at this
  exact this
theorem bitc7 {g : Nat} (S : HS) (h : g < 2 ^ 12) : f_J6_bitCount_0f7a4 (nI g) S = some (nI (fb_ct (fun i => g.testBit i) 12)) := by rw [bitc_S _ S SZ]; exact bitc_all g h
theorem size8 {g : Nat} (S : HS) (h : g < 2 ^ 12) : f_X8_size (nI g) S = some (nI (fb_ct (fun i => g.testBit i) 12)) := by
  unfold f_X8_size f_X8_size_b4
  refine fx_run 12 (fun i => (nI (fb_ct (fun i => g.testBit i) i), nI i)) ?_ ?_ (FU_gt (by omega)) rfl
  · intro i rec hi
    unfold F_X8_size_b4
    dsimp only
    have h3 : (nI g >>> (nI i &&& 31)) &&& (1 : Int32) = nI (g / 2 ^ i % 2) := by
      rw [pk_shrN (show g < 2 ^ 31 by omega) _ i (s_l i (by omega)), show (1 : Int32) = nI (2 ^ 1 - 1) from rfl, fa_mask]
    have h4 : g.testBit i = decide (g / 2 ^ i % 2 = 1) := by
      rw [Nat.testBit_eq_decide_div_mod_eq]
    rw [if_neg (le12n hi), h3, nI_1, nI_add, fb_ct_succ, h4]
    rcases Nat.mod_two_eq_zero_or_one (g / 2 ^ i) with h | h <;> rw [h] <;> rfl
  · intro rec
    unfold F_X8_size_b4
    dsimp only
    rw [if_pos (by decide)]
theorem j_part {S : HS} (h : Inv S) (p1 p2 : Int32) : J (f_L_part p1 p2 S) (f_X8_part p1 p2) := by
  obtain ⟨sp, ns, nr, na, ne, nm, lt, len, fr, to, sj, dr, ab, st, lby, se, trn, txt, kd, dd, qq, h⟩ := h
  have hI := I0_inv h
  have h0 := h
  obtain ⟨⟨g1, g2⟩, ⟨c1, c2, c3, c4, c5⟩, ⟨m1, m2, m3, m4⟩⟩ := h
  obtain ⟨gW, gA, gT, gK, gL, gB⟩ := g2
  have hna := gT.1
  have hns := gW.2.1
  have hnr := gW.1
  rw [wr_part]
  obtain ⟨hAI, -, -, -⟩ := rep_ok (set := cset st ab) gW gA na (Nat.le_refl _)
  have hth := AI_th gW hAI
  have hfo := fok_lt hAI.2.1 gW.1
  obtain ⟨⟨b, b', hRB, hCB⟩, hV⟩ := c3
  have hob : oc b = some 0 := HL_oc (Or.inl ⟨rfl, rfl⟩) (RB_lo hRB)
  rcases in_or p1 ns (by omega) with ⟨k, hk, rfl⟩ | hn
  · cases ht : (rep kd fr to (lbL len) dd sj qq (cset st ab) na).1.1.testBit k with
    | true =>
      obtain ⟨w, hw, hw1, hw2⟩ : ∃ w, w < 2 ∧ (∀ t1 t2, (if p2 = 0 then f_X7_part_b34 t1 t2 S b (nI k) (1 : Int32) else f_X7_part_b34 t1 t2 S b (nI k) (0 : Int32)) = f_X7_part_b34 t1 t2 S b (nI k) (nI w)) ∧ (∀ T t1 t2, (if p2 = 0 then f_X8_part_b50 t1 t2 T (nI k) (1 : Int32) else f_X8_part_b50 t1 t2 T (nI k) (0 : Int32)) = f_X8_part_b50 t1 t2 T (nI k) (nI w)) := by
        by_cases e : p2 = 0
        · exact ⟨1, by omega, fun _ _ => by rw [if_pos e]; rfl, fun _ _ _ => by rw [if_pos e]; rfl⟩
        · exact ⟨0, by omega, fun _ _ => by rw [if_neg e]; rfl, fun _ _ _ => by rw [if_neg e]; rfl⟩
      have hcl : clo (lkf (rep kd fr to (lbL len) dd sj qq (cset st ab) na).1.2.1 kd w) fr to k < 2 ^ 12 := by
        have := clo_lt (RW_ok (w := w) gW hAI.2.1) (show k < 10 by omega)
        omega
      refine J_v (v := nI (fb_ct (fun i => (clo (lkf (rep kd fr to (lbL len) dd sj qq (cset st ab) na).1.2.1 kd w) fr to k).testBit i) 12)) ?_ hI (fun T hQ hT => ?_)
      · unfold f_X7_part
        simp only [rSh_y c2.1 hk (by omega), bsm, if_true, hRB.1, rf_some hob, rOn hCB.1 (show (rep kd fr to (lbL len) dd sj qq (cset st ab) na).1.1 < 2 ^ 31 by omega) (show k < 62 by omega), ht, hw1]
        unfold f_X7_part_b34
        rw [group7 hCB.2.1 c2.2.2.2.1 hAI.2.1 (show k < 10 by omega) (show w < 4 by omega), bsm, bitc7 S hcl]
        rfl
      · have e2 : T.1 36 2 = nI ns := by rw [hT]; exact m2.2.1.2.1
        have e20 : T.1 36 20 = nI (rep kd fr to (lbL len) dd sj qq (cset st ab) na).1.1 := by rw [hT]; exact m3.1.1
        have e22 : (sI T 36 36 0).1 36 22 = nI (rep kd fr to (lbL len) dd sj qq (cset st ab) na).1.2.1 := by rw [th_k (by omega), hT]; exact m3.1.2.1
        have eM : MC (sI T 36 36 0) nr nr ns kd fr to (lbL len) := MC_fr2 (by rw [th_o (by omega), hT]) (fun x _ _ => by rw [th_o (by omega), hT]) (by rw [th_k (by omega), hT]) (by rw [th_k (by omega), hT]) m2.2.1
        unfold f_X8_part f_X8_part_b31
        simp only [isSh8 e2, isN_yes hk (by omega), bsm, ob, e20, has8 _ (show (rep kd fr to (lbL len) dd sj qq (cset st ab) na).1.1 < 2 ^ 31 by omega) (show k < 31 by omega), ht, can8, d00, decide_true, hw2]
        unfold f_X8_part_b50
        rw [e22, part8 eM hAI.2.1 (show k < 10 by omega) (show w < 4 by omega), bsm, size8 _ hcl, bsm]
        exact ⟨_, rfl, th_at, rfl, rfl, QF_th (by omega)⟩
    | false =>
      refine J_ex (S1 := S) (v := 0) (c := 4) (k := 2) (w := 0) ?_ (by decide) (by decide) (fun v => rfl) ?_ hI
      · unfold f_X7_part
        simp only [rSh_y c2.1 hk (by omega), bsm, if_true, hRB.1, rf_some hob, rOn hCB.1 (show (rep kd fr to (lbL len) dd sj qq (cset st ab) na).1.1 < 2 ^ 31 by omega) (show k < 62 by omega), ht]
        rfl
      · unfold f_X8_part f_X8_part_b31
        simp only [isSh8 m2.2.1.2.1, isN_yes hk (by omega), bsm, ob, zb, m3.1.1, has8 _ (show (rep kd fr to (lbL len) dd sj qq (cset st ab) na).1.1 < 2 ^ 31 by omega) (show k < 31 by omega), ht, can8, d20]
  · refine J_ex (S1 := S) (v := 0) (c := 1) (k := 1) (w := 0) ?_ (by decide) (by decide) (fun v => rfl) ?_ hI
    · unfold f_X7_part
      rw [rSh_n c2.1 hn]
      rfl
    · unfold f_X8_part f_X8_part_b31
      simp only [isSh8 m2.2.1.2.1, isN_no hn (by omega), bsm, zb, can8, d10]
theorem V_out {V n k : Nat} (h : V < 2 ^ n) (hk : n ≤ k) : V.testBit k = false := Nat.testBit_lt_two_pow (Nat.lt_of_lt_of_le h (Nat.pow_le_pow_right (by omega) hk))
theorem j_broken {S : HS} (h : Inv S) : Ok (f_X7_broken S) (fun o => Ok (f_X8_broken S) (fun r => o = r.2 ∧ Inv r.1)) := by
  obtain ⟨sp, ns, nr, na, ne, nm, lt, len, fr, to, sj, dr, ab, st, lby, se, trn, txt, kd, dd, qq, h⟩ := h
  have hI := I0_inv h
  have h0 := h
  obtain ⟨⟨g1, g2⟩, ⟨c1, c2, c3, c4, c5⟩, ⟨m1, m2, m3, m4⟩⟩ := h
  obtain ⟨gW, gA, gT, gK, gL, gB⟩ := g2
  have hna := gT.1
  have hns := gW.2.1
  have hnr := gW.1
  obtain ⟨hAI, -, hVlt, -⟩ := rep_ok (set := cset st ab) gW gA na (Nat.le_refl _)
  have hV62 : (rep kd fr to (lbL len) dd sj qq (cset st ab) na).2 < 2 ^ 62 := Nat.lt_of_lt_of_le hVlt (Nat.pow_le_pow_right (by omega) (by omega))
  have hc : f_X7_broken S = some (nI (fb_ct (fun a => (rep kd fr to (lbL len) dd sj qq (cset st ab) na).2.testBit a && decide (dd a = 3)) 60)) := by
    unfold f_X7_broken f_X7_broken_b4
    refine fx_run 60 (fun i => (nI (fb_ct (fun a => (rep kd fr to (lbL len) dd sj qq (cset st ab) na).2.testBit a && decide (dd a = 3)) i), nI i)) ?_ ?_ (FU_gt (by omega)) rfl
    · intro i rec hi
      unfold F_X7_broken_b4 f_X7_broken_b39
      dsimp only
      rw [if_neg (le60n hi), c3.2, has7 S hV62 (by omega), bsm, ifb, nI_1, nI_1, fb_ct_succ]
      cases hv : (rep kd fr to (lbL len) dd sj qq (cset st ab) na).2.testBit i with
      | false => rw [if_neg (by decide)]; rfl
      | true =>
        have hin : i < na := by
          rcases Nat.lt_or_ge i na with h | h
          · exact h
          · rw [V_out hVlt h] at hv; exact absurd hv (by decide)
        have hd : f_X6_deedOf (nI i) S = some (dd i) := by
          unfold f_X6_deedOf
          rw [read7 S 10 (by show i < 60; omega) (by decide), bsm, (c2.2.2.2.2.1 i hin).1]
        rw [if_pos rfl, hd, bsm]
        by_cases e : dd i = 3
        · rw [if_pos e]; simp [e]
        · rw [if_neg e]; simp [e]
    · intro rec
      unfold F_X7_broken_b4
      dsimp only
      rw [if_pos (by decide)]
  have hct : fb_ct (fun a => (rep kd fr to (lbL len) dd sj qq (cset st ab) na).2.testBit a && decide (dd a = 3)) 60 = fb_ct (fun k => (rep kd fr to (lbL len) dd sj qq (cset st ab) na).2.testBit (lby k)) nr := by
    rw [ct_ext (n := na) (fun k hk => by rw [V_out hVlt hk]; rfl) (by omega)]
    exact gB _
  have hm : f_X8_broken S = some (sI S 36 36 0, nI (fb_ct (fun k => (rep kd fr to (lbL len) dd sj qq (cset st ab) na).2.testBit (lby k)) nr)) := by
    unfold f_X8_broken f_X8_broken_b9
    refine fx_run nr (fun i => (sI S 36 36 0, nI (fb_ct (fun k => (rep kd fr to (lbL len) dd sj qq (cset st ab) na).2.testBit (lby k)) i), nI i)) ?_ ?_ (FU_gt (by omega)) rfl
    · intro i rec hi
      have hl := gL i hi
      have e7 : (sI S 36 36 0).1 36 7 = nI nr := by rw [th_k (by omega)]; exact m2.2.1.1
      have e45 : (sI S 36 36 0).1 45 i = nI (lby i) := by rw [th_o (by omega)]; exact m2.2.2.1 i hi
      have e51 : (sI S 36 36 0).1 51 (lby i) = bI ((rep kd fr to (lbL len) dd sj qq (cset st ab) na).2.testBit (lby i)) := by rw [th_o (by omega)]; exact m3.2 _ hl
      unfold F_X8_broken_b9 f_X8_broken_b37
      dsimp only
      rw [e7, if_neg (nlt_le hi (by omega)), if_pos (ib_nI (show i < 12 by omega) (by omega)), nI_cl (show i < 2 ^ 31 by omega), e45, if_pos (ib_nI (show lby i < 60 by omega) (by omega)), nI_cl (show lby i < 2 ^ 31 by omega), e51, ifb, nI_1, nI_1, i32_00, fb_ct_succ]
      cases (rep kd fr to (lbL len) dd sj qq (cset st ab) na).2.testBit (lby i) <;> rfl
    · intro rec
      have e7 : (sI S 36 36 0).1 36 7 = nI nr := by rw [th_k (by omega)]; exact m2.2.1.1
      unfold F_X8_broken_b9
      dsimp only
      rw [e7, if_pos (nle_nI nr)]
  refine ⟨_, hc, _, hm, ?_, Inv_q hI (QF_th (by omega))⟩
  rw [hct]
/-! whether a rule would hold -/
def fitP (A : AB) (kd : Nat → Int32) (fr to : Nat → Nat) (k : Nat) : Prop := ∀ w, w < 4 → abt (kd k) w = true → A.2.2.1 (to k) w - A.2.2.1 (fr k) w = gpA A.2.2.1 A.2.2.2 kd fr w k
theorem fit_one {A : AB} {kd : Nat → Int32} {fr to : Nat → Nat} {k w0 : Nat} (h : kd k = 0 ∧ w0 = 2 ∨ kd k = 1 ∧ w0 = 3 ∨ (kd k = 2 ∨ kd k = 3) ∧ w0 = 0 ∨ (kd k = 4 ∨ kd k = 5) ∧ w0 = 1) : fitP A kd fr to k ↔ A.2.2.1 (to k) w0 - A.2.2.1 (fr k) w0 = gpA A.2.2.1 A.2.2.2 kd fr w0 k := by
  have hw0 : w0 < 4 := by omega
  constructor
  · intro q
    exact q w0 hw0 (by rw [abt_w h w0 hw0]; simp)
  · intro q w hw ha
    rw [abt_w h w hw] at ha
    have := of_decide_eq_true ha
    subst this
    exact q
theorem fit_tie {A : AB} {kd : Nat → Int32} {fr to : Nat → Nat} {k : Nat} (h : kd k = 6) : fitP A kd fr to k ↔ A.2.2.1 (to k) 0 - A.2.2.1 (fr k) 0 = A.2.2.2 k 0 ∧ A.2.2.1 (to k) 1 - A.2.2.1 (fr k) 1 = A.2.2.2 k 1 := by
  have hg : ∀ w, gpA A.2.2.1 A.2.2.2 kd fr w k = A.2.2.2 k w := by
    intro w
    unfold gpA
    rw [if_neg (by rw [h]; decide), if_pos h]
  unfold fitP
  rw [h]
  constructor
  · intro q
    exact ⟨by rw [← hg]; exact q 0 (by omega) (by decide), by rw [← hg]; exact q 1 (by omega) (by decide)⟩
  · rintro ⟨q0, q1⟩ w hw ha
    rw [hg]
    match w, hw with
    | 0, _ => exact q0
    | 1, _ => exact q1
    | 2, _ => exact absurd ha (by decide)
    | 3, _ => exact absurd ha (by decide)
theorem fits7 {S : HS} {b nr k : Nat} {A : AB} {kd : Nat → Int32} {fr to : Nat → Nat} (hob : oc b = some 0) (hCB : CB S b kd A) (hR : RC S nr kd fr to) (hk : k < nr) (hf : A.1.testBit (fr k) = true) (ht : A.1.testBit (to k) = true) (hti : kd k = 6 → A.2.1.testBit k = true) : Ok (f_X0_fits b (nI k) S) (fun r => ∃ ok, r = bI ok ∧ (ok = true ↔ fitP A kd fr to k)) := by
  have hR' := hR
  obtain ⟨hn, hR⟩ := hR
  obtain ⟨r1, r2, r3, r4, r5⟩ := hR k hk
  unfold f_X0_fits f_X0_fits_b27
  rw [read7 S 7 (by show k < 12; omega) (by decide), bsm, read7 S 8 (by show k < 12; omega) (by decide), bsm, r2, r3]
  refine ok_fx 4 (fun i v => v = (nI (fr k), nI (to k), nI i) ∧ ∀ w, w < i → abt (kd k) w = true → A.2.2.1 (to k) w - A.2.2.1 (fr k) w = gpA A.2.2.1 A.2.2.2 kd fr w k) ?_ ?_ (FU_gt (by omega)) ⟨rfl, fun w hw => absurd hw (by omega)⟩
  · rintro i v rec hi ⟨rfl, hI⟩ hrec
    unfold F_X0_fits_b27 f_X0_fits_b79
    dsimp only
    rw [if_neg (le4n hi), read7 S 6 (by show k < 12; omega) (by decide), bsm, r1, about7 S _ hi, bsm, ifb, nI_1]
    cases ha : abt (kd k) i with
    | false =>
      rw [if_neg (by decide)]
      refine hrec _ ⟨rfl, fun w hw haw => ?_⟩
      rcases Nat.lt_succ_iff_lt_or_eq.mp hw with h | rfl
      · exact hI w h haw
      · rw [ha] at haw; exact absurd haw (by decide)
    | true =>
      have hi2 : i < 2 ∨ (kd k ≠ 2 ∧ kd k ≠ 4 ∧ kd k ≠ 6) := by
        match i, hi with
        | 0, _ => exact Or.inl (by omega)
        | 1, _ => exact Or.inl (by omega)
        | 2, _ =>
          right
          have : kd k = 0 := of_decide_eq_true ha
          rw [this]; decide
        | 3, _ =>
          right
          have : kd k = 1 := of_decide_eq_true ha
          rw [this]; decide
      have hg : gapC (S.1 (b + 1)) (S.1 (b + 2)) kd fr k i = gpA A.2.2.1 A.2.2.2 kd fr i k := by
        unfold gapC gpA
        by_cases e : kd k = 2 ∨ kd k = 4
        · rw [if_pos e, if_pos e]
          have h2 : i < 2 := by
            rcases hi2 with h | ⟨q1, q2, -⟩
            · exact h
            · exact absurd e (fun h => h.elim q1 q2)
          rw [show 4 * fr k + i + 2 = 4 * fr k + (i + 2) by omega]
          exact hCB.2.2.1 _ _ hf (by omega)
        · rw [if_neg e, if_neg e]
          by_cases e6 : kd k = 6
          · rw [if_pos e6, if_pos e6]
            have h2 : i < 2 := by
              rcases hi2 with h | ⟨-, -, q3⟩
              · exact h
              · exact absurd e6 q3
            exact hCB.2.2.2 k i (hti e6) e6 h2
          · rw [if_neg e6, if_neg e6]
      rw [if_pos rfl, num7 hob r5 hi, bsm, num7 hob r4 hi, bsm, gap7 hob hR' hk hi2, bsm, hg, hCB.2.2.1 _ _ hf hi, hCB.2.2.1 _ _ ht hi]
      by_cases e : A.2.2.1 (to k) i - A.2.2.1 (fr k) i = gpA A.2.2.1 A.2.2.2 kd fr i k
      · rw [if_pos e]
        refine hrec _ ⟨rfl, fun w hw haw => ?_⟩
        rcases Nat.lt_succ_iff_lt_or_eq.mp hw with h | rfl
        · exact hI w h haw
        · exact e
      · rw [if_neg e, nz_0, if_pos rfl]
        exact ⟨_, rfl, false, rfl, fun q => absurd q (by decide), fun q => absurd (q i hi ha) e⟩
  · rintro v rec ⟨rfl, hI⟩
    unfold F_X0_fits_b27
    dsimp only
    rw [if_pos (by decide), nz_1, if_pos rfl]
    exact ⟨_, rfl, true, rfl, fun _ w hw ha => hI w hw ha, fun _ => rfl⟩
theorem hold8 {T : HS} {k : Nat} {A : AB} {kd : Nat → Int32} {fr to : Nat → Nat} (hk : k < 12) (r1 : T.1 42 k = kd k) (r2 : T.1 43 k = nI (fr k)) (r3 : T.1 44 k = nI (to k)) (r4 : fr k < 10) (r5 : to k < 10) (hN : rpN A.1 A.2.2.1 (T.1 53)) (hf : A.1.testBit (fr k) = true) (ht : A.1.testBit (to k) = true) (hti : kd k = 6 → T.1 54 k = A.2.2.2 k 0 ∧ T.1 55 k = A.2.2.2 k 1) (hK : KK (kd k)) : Ok (f_X8_holds_b88 (nI k) T 0) (fun r => ∃ ok, r = (sI T 36 36 0, bI ok) ∧ (ok = true ↔ fitP A kd fr to k)) := by
  have e42 : (sI T 36 36 0).1 42 k = kd k := by rw [th_o (by omega)]; exact r1
  have e43 : (sI T 36 36 0).1 43 k = nI (fr k) := by rw [th_o (by omega)]; exact r2
  have e44 : (sI T 36 36 0).1 44 k = nI (to k) := by rw [th_o (by omega)]; exact r3
  have e53 : ∀ s w, A.1.testBit s = true → w < 4 → (sI T 36 36 0).1 53 (4 * s + w) = A.2.2.1 s w := fun s w hs hw => by rw [th_o (by omega)]; exact hN s w hs hw
  unfold f_X8_holds_b88
  simp only [can8, bsm, d00, decide_true, ob, if_pos (ib_nI hk (by omega)), nI_cl (show k < 2 ^ 31 by omega), e42, e43, e44]
  have hend : ∀ (P : Prop) [Decidable P] (x : Option (HS × Int32)), (P ↔ fitP A kd fr to k) → x = (if P then some (sI T 36 36 0, 1) else some (sI T 36 36 0, 0)) → Ok x (fun r => ∃ ok, r = (sI T 36 36 0, bI ok) ∧ (ok = true ↔ fitP A kd fr to k)) := by
    intro P _ x hP hx
    rw [hx]
    by_cases e : P
    · rw [if_pos e]
      exact ⟨_, rfl, true, rfl, fun _ => hP.mp e, fun _ => rfl⟩
    · rw [if_neg e]
      exact ⟨_, rfl, false, rfl, fun q => absurd q (by decide), fun q => absurd (hP.mpr q) e⟩
  have hszs : ∀ x, x < 2 → (kd k = 0 ∧ x = 0 ∨ kd k = 1 ∧ x = 1) → (A.2.2.1 (fr k) (x + 2) = A.2.2.1 (to k) (x + 2) ↔ fitP A kd fr to k) := by
    intro x hx h
    rw [fit_one (w0 := x + 2) (by
      rcases h with ⟨h, rfl⟩ | ⟨h, rfl⟩
      · exact Or.inl ⟨h, rfl⟩
      · exact Or.inr (Or.inl ⟨h, rfl⟩))]
    have : gpA A.2.2.1 A.2.2.2 kd fr (x + 2) k = 0 := by
      unfold gpA
      rcases h with ⟨h, -⟩ | ⟨h, -⟩ <;> rw [h, if_neg (by decide), if_neg (by decide)]
    rw [this, i32_by0]
  have hpls : ∀ w0, w0 < 2 → ((kd k = 2 ∨ kd k = 3) ∧ w0 = 0 ∨ (kd k = 4 ∨ kd k = 5) ∧ w0 = 1) → Ok (f_X8_holds_b239 (nI k) (sI T 36 36 0) ((4 : Int32) * nI (fr k)) ((4 : Int32) * nI (to k)) (kd k) (nI w0)) (fun r => ∃ ok, r = (sI T 36 36 0, bI ok) ∧ (ok = true ↔ fitP A kd fr to k)) := by
    intro w0 hw h
    have i2 : (4 : Int32) * nI (fr k) + (2 : Int32) + nI w0 = nI (4 * fr k + (w0 + 2)) := by rw [show (4 : Int32) = nI 4 from rfl, show (2 : Int32) = nI 2 from rfl, pk_mul, nI_add, nI_add, show 4 * fr k + 2 + w0 = 4 * fr k + (w0 + 2) by omega]
    unfold f_X8_holds_b239 f_X8_holds_b273 f_X8_holds_b289 f_X8_holds_b298
    simp only [idx4, i2, if_pos (ib_nI (show 4 * fr k + w0 < 40 by omega) (by omega)), if_pos (ib_nI (show 4 * to k + w0 < 40 by omega) (by omega)), if_pos (ib_nI (show 4 * fr k + (w0 + 2) < 40 by omega) (by omega)), nI_cl (show 4 * fr k + w0 < 2 ^ 31 by omega), nI_cl (show 4 * to k + w0 < 2 ^ 31 by omega), nI_cl (show 4 * fr k + (w0 + 2) < 2 ^ 31 by omega), e53 _ _ hf (show w0 < 4 by omega), e53 _ _ ht (show w0 < 4 by omega), e53 _ _ hf (show w0 + 2 < 4 by omega), nz_0, nz_1, if_true]
    refine hend (A.2.2.1 (to k) w0 = A.2.2.1 (fr k) w0 + (if kd k = 2 ∨ kd k = 4 then A.2.2.1 (fr k) (w0 + 2) else 0)) _ ?_ ?_
    · rw [fit_one (w0 := w0) (Or.inr (Or.inr h))]
      have : gpA A.2.2.1 A.2.2.2 kd fr w0 k = if kd k = 2 ∨ kd k = 4 then A.2.2.1 (fr k) (w0 + 2) else 0 := by
        unfold gpA
        have h6 : ¬ kd k = 6 := by rcases h with ⟨h | h, -⟩ | ⟨h | h, -⟩ <;> rw [h] <;> decide
        rw [if_neg h6]
      rw [this, i32_sub']
    · by_cases e2 : kd k = 2
      · rw [if_pos e2, if_pos (Or.inl e2)]
      · rw [if_neg e2]
        by_cases e4 : kd k = 4
        · rw [if_pos e4, if_pos (Or.inr e4)]
        · rw [if_neg e4, if_neg (show ¬ (kd k = 2 ∨ kd k = 4) from fun q => q.elim e2 e4)]
  have hsz : ∀ x, x < 2 → (kd k = 0 ∧ x = 0 ∨ kd k = 1 ∧ x = 1) → kd k = nI x := by
    intro x _ h
    rcases h with ⟨h, rfl⟩ | ⟨h, rfl⟩ <;> rw [h] <;> rfl
  rcases hK with hK | hK
  · by_cases h1 : kd k = 0 ∨ kd k = 1
    · obtain ⟨x, hx2, hx⟩ : ∃ x, x < 2 ∧ (kd k = 0 ∧ x = 0 ∨ kd k = 1 ∧ x = 1) := by
        rcases h1 with h | h
        · exact ⟨0, by omega, Or.inl ⟨h, rfl⟩⟩
        · exact ⟨1, by omega, Or.inr ⟨h, rfl⟩⟩
      have hkx := hsz x hx2 hx
      have i2 : ∀ s, (4 : Int32) * nI s + (2 : Int32) + kd k = nI (4 * s + (x + 2)) := fun s => by rw [hkx, show (4 : Int32) = nI 4 from rfl, show (2 : Int32) = nI 2 from rfl, pk_mul, nI_add, nI_add, show 4 * s + 2 + x = 4 * s + (x + 2) by omega]
      rw [if_neg (by rcases h1 with h | h <;> rw [h] <;> decide), i2, i2, if_pos (ib_nI (show 4 * fr k + (x + 2) < 40 by omega) (by omega)), if_pos (ib_nI (show 4 * to k + (x + 2) < 40 by omega) (by omega)), nI_cl (by omega), nI_cl (by omega), e53 _ _ hf (by omega), e53 _ _ ht (by omega)]
      unfold f_X8_holds_b162
      rw [nz_0, nz_1, if_pos rfl, if_pos rfl]
      exact hend _ _ (hszs x hx2 hx) rfl
    · have h16 : (1 : Int32) < kd k := by
        rcases hK with h | h | h | h | h | h
        · exact absurd (Or.inl h) h1
        · exact absurd (Or.inr h) h1
        · rw [h]; decide
        · rw [h]; decide
        · rw [h]; decide
        · rw [h]; decide
      have h6 : ¬ kd k = 6 := by
        rcases hK with h | h | h | h | h | h <;> rw [h] <;> decide
      rw [if_pos h16, if_neg h6]
      by_cases h3 : (3 : Int32) < kd k
      · rw [if_pos h3]
        refine hpls 1 (by omega) (Or.inr ⟨?_, rfl⟩)
        rcases hK with h | h | h | h | h | h
        · exact absurd (Or.inl h) h1
        · exact absurd (Or.inr h) h1
        · rw [h] at h3; exact absurd h3 (by decide)
        · rw [h] at h3; exact absurd h3 (by decide)
        · exact Or.inl h
        · exact Or.inr h
      · rw [if_neg h3]
        refine hpls 0 (by omega) (Or.inl ⟨?_, rfl⟩)
        rcases hK with h | h | h | h | h | h
        · exact absurd (Or.inl h) h1
        · exact absurd (Or.inr h) h1
        · exact Or.inl h
        · exact Or.inr h
        · exact absurd (by rw [h]; decide) h3
        · exact absurd (by rw [h]; decide) h3
  · obtain ⟨t0, t1⟩ := hti hK
    have i00 : ∀ s, (4 : Int32) * nI s = nI (4 * s + 0) := fun s => by rw [show (4 : Int32) = nI 4 from rfl, pk_mul]; rfl
    have i01 : ∀ s, nI (4 * s + 0) + (1 : Int32) = nI (4 * s + 1) := fun s => nI_1 _
    have e54 : (sI T 36 36 0).1 54 k = A.2.2.2 k 0 := by rw [th_o (by omega)]; exact t0
    have e55 : (sI T 36 36 0).1 55 k = A.2.2.2 k 1 := by rw [th_o (by omega)]; exact t1
    rw [if_pos (by rw [hK]; decide), if_pos hK]
    unfold f_X8_holds_b226 f_X8_holds_b227
    simp only [i00, i01, if_pos (ib_nI (show 4 * fr k + 0 < 40 by omega) (by omega)), if_pos (ib_nI (show 4 * to k + 0 < 40 by omega) (by omega)), if_pos (ib_nI (show 4 * fr k + 1 < 40 by omega) (by omega)), if_pos (ib_nI (show 4 * to k + 1 < 40 by omega) (by omega)), nI_cl (show 4 * fr k + 0 < 2 ^ 31 by omega), nI_cl (show 4 * to k + 0 < 2 ^ 31 by omega), nI_cl (show 4 * fr k + 1 < 2 ^ 31 by omega), nI_cl (show 4 * to k + 1 < 2 ^ 31 by omega), e53 _ _ hf (show 0 < 4 by omega), e53 _ _ ht (show 0 < 4 by omega), e53 _ _ hf (show 1 < 4 by omega), e53 _ _ ht (show 1 < 4 by omega), e54, e55, nz_0, nz_1, if_true]
    refine hend _ _ (fit_tie hK).symm ?_
    by_cases q0 : A.2.2.1 (to k) 0 - A.2.2.1 (fr k) 0 = A.2.2.2 k 0
    · rw [if_pos q0]
      by_cases q1 : A.2.2.1 (to k) 1 - A.2.2.1 (fr k) 1 = A.2.2.2 k 1
      · rw [if_pos q1, if_pos ⟨q0, q1⟩]
      · rw [if_neg q1, if_neg (fun q => q1 q.2)]
    · rw [if_neg q0, if_neg (fun q => q0 q.1)]
