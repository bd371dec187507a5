/-! the class's walk -/
section
variable {S : HS} {b nr : Nat} {kd : Nat → Int32} {fr to : Nat → Nat} {lb : Nat → Bool} {th fo : Nat}
theorem i32_add0 {a b : Int32} (h : a = b) : a + 0 = b := by grind
theorem i32_neg {a b c : Int32} : a = b + -c ↔ b = a + c := by grind
/-- the walk: at rule j of the shape a -/
def WI (lk : Nat → Bool) (fr to : Nat → Nat) (gp : Nat → Int32) (kn wt a j : Nat) (cur : Nat → Int32) : Prop := ∀ i c, lk i = true → (c = fr i ∨ c = to i) → kn.testBit c = true → wt.testBit c = false → (c ≠ a ∨ i < j) → gdl fr to gp kn cur i
theorem nI_or0 {g : Nat} : nI g ||| (0 : Int32) = nI g := by rw [show (0 : Int32) = nI 0 from rfl, fa_or, Nat.or_zero]
theorem cl_walk (H : HC S b nr kd fr to lb th fo) {fx w : Nat} (hw : w < 2) (hfx : fx < 2 ^ 10) (num tie : Nat → Int32) :
    Ok (f_X0_tellByWalk b (nI fx) (nI w) (wB S b (nI th) (nI fo) num tie)) (TP S b th fo num tie kd fr to fx w) := by
  obtain ⟨hb, hR, hf, ht, hL⟩ := H
  have ho : rOk (lkf fo kd w) fr to := lkf_ok hR hf
  have hl : rLt (lkf fo kd w) := lkf_lt hR hf
  have hw4 : w < 4 := by omega
  unfold f_X0_tellByWalk f_X0_tellByWalk_b8
  have hfin : ∀ num' kn, offc w num num' → TI (lkf fo kd w) fr to (fun j => gapC num tie kd fr j w) fx (col num w) kn (col num' w) → (∀ i c, lkf fo kd w i = true → (c = fr i ∨ c = to i) → kn.testBit c = true → gdl fr to (fun j => gapC num tie kd fr j w) kn (col num' w) i) → Ok (f_X0_tellByWalk_b260 b (nI fx) (nI w) (wB S b (nI th) (nI fo) num' tie)) (TP S b th fo num tie kd fr to fx w) := by
    intro num' kn hc hI hg
    unfold f_X0_tellByWalk_b260
    rw [nz_1, if_pos rfl]
    refine ⟨_, rfl, num', true, rfl, hc, TI_good hI (fun j hj => ?_) (fun j hj h => (hg j _ hj (Or.inl rfl) h).2.2)⟩
    exact ⟨fun h => (hg j _ hj (Or.inl rfl) h).2.1, fun h => (hg j _ hj (Or.inr rfl) h).1⟩
  refine ok_fx 10 (fun i v => ∃ num' kn wt, v = (wB S b (nI th) (nI fo) num' tie, nI kn, nI wt, nI i) ∧ offc w num num' ∧ TI (lkf fo kd w) fr to (fun j => gapC num tie kd fr j w) fx (col num w) kn (col num' w) ∧ sbt wt kn ∧ i + crd wt = crd kn ∧ (∀ i c, lkf fo kd w i = true → (c = fr i ∨ c = to i) → kn.testBit c = true → wt.testBit c = false → gdl fr to (fun j => gapC num tie kd fr j w) kn (col num' w) i)) ?_ ?_ (FU_gt (by omega)) ⟨num, fx, fx, rfl, fun _ _ => rfl, TI_init hfx, sbt.rf _, by omega, fun i c _ _ h1 h2 => by rw [h1] at h2; exact absurd h2 (by decide)⟩
  · rintro i v rec hi ⟨num1, kn1, wt1, rfl, hc1, hI1, hs1, hn1, hg1⟩ hrec
    have hkn1 : kn1 < 2 ^ 10 := hI1.2.1
    have hwt1 : wt1 < 2 ^ 10 := by
      apply Nat.lt_pow_two_of_testBit
      intro k hk
      cases e : wt1.testBit k with
      | false => rfl
      | true => exact absurd (lt10_of hkn1 (hs1 k e)) (by omega)
    unfold F_X0_tellByWalk_b8
    dsimp only
    rw [if_neg (le10n hi)]
    by_cases e0 : wt1 = 0
    · rw [if_pos (by rw [e0]; rfl)]
      exact hfin num1 kn1 hc1 hI1 (fun i c h1 h2 h3 => hg1 i c h1 h2 h3 (by rw [e0]; exact Nat.zero_testBit c))
    · rw [if_neg (fun q => e0 ((nI_0iff (by omega)).mp q)), ntz7 _ hwt1 e0, bsm]
      generalize ha : low wt1 10 0 = a
      have hain : wt1.testBit a = true := by rw [← ha]; exact low_in hwt1 e0
      have ha10 : a < 10 := lt10_of hwt1 hain
      rw [clr7 (by omega)]
      unfold f_X0_tellByWalk_b41
      refine ok_fx 12 (fun j v => ∃ num' kn wt, v = (wB S b (nI th) (nI fo) num' tie, nI kn, nI wt, nI i, nI a, nI j) ∧ offc w num num' ∧ TI (lkf fo kd w) fr to (fun j => gapC num tie kd fr j w) fx (col num w) kn (col num' w) ∧ sbt wt kn ∧ wt.testBit a = false ∧ kn.testBit a = true ∧ (i + 1) + crd wt = crd kn ∧ WI (lkf fo kd w) fr to (fun j => gapC num tie kd fr j w) kn wt a j (col num' w)) ?_ ?_ (FU_gt (by omega)) ⟨num1, kn1, clr wt1 a, rfl, hc1, hI1, fun c hc => ?_, ?_, hs1 a hain, ?_, ?_⟩
      · rintro j v rec2 hj ⟨num2, kn2, wt2, rfl, hc2, hI2, hs2, hwa, hka, hn2, hg2⟩ hrec2
        have hR' : RC (wB S b (nI th) (nI fo) num2 tie) nr kd fr to := wB_RC hb hR
        have hkn : kn2 < 2 ^ 10 := hI2.2.1
        have hskip : (lkf fo kd w j = true → fr j ≠ a ∧ to j ≠ a) → Ok (rec2 (wB S b (nI th) (nI fo) num2 tie, nI kn2, nI wt2, nI i, nI a, nI (j + 1))) (TP S b th fo num tie kd fr to fx w) := by
          intro hq
          refine hrec2 _ ⟨num2, kn2, wt2, rfl, hc2, hI2, hs2, hwa, hka, hn2, fun i' c h1 h2 h3 h4 h5 => ?_⟩
          by_cases e : i' = j
          · subst e
            obtain ⟨q1, q2⟩ := hq h1
            refine hg2 i' c h1 h2 h3 h4 (Or.inl ?_)
            rcases h2 with h2 | h2
            · rw [h2]; exact q1
            · rw [h2]; exact q2
          · exact hg2 i' c h1 h2 h3 h4 (h5.imp id (fun q => by omega))
        have hold : lkf fo kd w j = true → gdl fr to (fun j => gapC num tie kd fr j w) kn2 (col num2 w) j → Ok (rec2 (wB S b (nI th) (nI fo) num2 tie, nI kn2, nI wt2, nI i, nI a, nI (j + 1))) (TP S b th fo num tie kd fr to fx w) := by
          intro hlk hq
          refine hrec2 _ ⟨num2, kn2, wt2, rfl, hc2, hI2, hs2, hwa, hka, hn2, fun i' c h1 h2 h3 h4 h5 => ?_⟩
          by_cases e : i' = j
          · subst e; exact hq
          · exact hg2 i' c h1 h2 h3 h4 (h5.imp id (fun q => by omega))
        have hnew : ∀ t v, lkf fo kd w j = true → t < 10 → kn2.testBit t = false → TI (lkf fo kd w) fr to (fun j => gapC num tie kd fr j w) fx (col num w) (kn2 ||| 2 ^ t) (upd (col num2 w) t v) → gdl fr to (fun j => gapC num tie kd fr j w) (kn2 ||| 2 ^ t) (upd (col num2 w) t v) j → Ok (rec2 (wB S b (nI th) (nI fo) (upd num2 (4 * t + w) v) tie, nI (kn2 ||| 2 ^ t), nI (wt2 ||| 2 ^ t), nI i, nI a, nI (j + 1))) (TP S b th fo num tie kd fr to fx w) := by
          intro t v hlk ht10 hkt hT hq
          have hta : t ≠ a := fun q => by rw [q, hka] at hkt; exact absurd hkt (by decide)
          have hwt : wt2.testBit t = false := by
            cases e : wt2.testBit t with
            | false => rfl
            | true => rw [hs2 t e] at hkt; exact absurd hkt (by decide)
          refine hrec2 _ ⟨_, _, _, rfl, hc2.set hw4, by rw [col_upd]; exact hT, fun c hc => ?_, ?_, ?_, ?_, fun i' c h1 h2 h3 h4 h5 => ?_⟩
          · rw [fb_bit_set, Bool.or_eq_true] at hc ⊢
            exact hc.imp (hs2 c) id
          · rw [fb_bit_set, hwa]; simp [hta.symm]
          · rw [fb_bit_set, hka]; rfl
          · rw [crd_add ht10 hkt, crd_add ht10 hwt]; omega
          · rw [col_upd]
            by_cases e : i' = j
            · subst e; exact hq
            · rw [fb_bit_set, Bool.or_eq_false_iff, decide_eq_false_iff_not] at h4
              rw [fb_bit_set, Bool.or_eq_true, decide_eq_true_eq] at h3
              exact (hg2 i' c h1 h2 (h3.resolve_right h4.2) h4.1 (h5.imp id (fun q => by omega))).mono hkt
        unfold F_X0_tellByWalk_b41 f_X0_tellByWalk_b70 f_X0_tellByWalk_b94
        dsimp only
        rw [if_neg (le12n hj), read7 _ 7 (by show j < 12; exact hj) (by decide), bsm, read7 _ 8 (by show j < 12; exact hj) (by decide)]
        simp only [bsm]
        have hmain : ∀ x8 : Int32, lkf fo kd w j = true → (x8 = 1 ∧ fr j = a ∨ x8 = 0 ∧ to j = a) → Ok (f_X0_tellByWalk_b106 b (nI fx) (nI w) rec rec2 (wB S b (nI th) (nI fo) num2 tie) (nI kn2) (nI wt2) (nI i) (nI a) (nI j) x8) (TP S b th fo num tie kd fr to fx w) := by
          intro x8 hlk hx
          have hjn := lkf_nr hf hlk
          obtain ⟨r1, r2, r3, r4, r5⟩ := hR'.2 j hjn
          unfold f_X0_tellByWalk_b106 f_X0_tellByWalk_b151 f_X0_tellByWalk_b182 f_X0_tellByWalk_b209 f_X0_tellByWalk_b238 f_X0_tellByWalk_b248
          rw [isLink7 wB_fo hR' hf hj (by omega), bsm, ifb, hlk, if_pos rfl, read7 _ 7 (by show j < 12; exact hj) (by decide), read7 _ 8 (by show j < 12; exact hj) (by decide), r2, r3, bsm, bsm, gap7 hb hR' hjn (Or.inl hw), wB_num, wB_tie, gapC_off hw hc2, nI_1, nz_0]
          simp only [num7 hb ha10 hw4, bsm, wB_num]
          rcases hx with ⟨rfl, hx⟩ | ⟨rfl, hx⟩
          · rw [if_neg (by decide), if_neg (by decide), hasI7 _ (by omega) (by omega), bsm, ifb]
            simp only [num7 hb r5 hw4, set7 hb r5 hw4, bsm, wB_num, wB_sNum]
            rw [hasI7 _ (by omega) (by omega), bsm, ifb, shl1 (by omega), fa_or, fa_or, nI_or0]
            subst hx
            cases h2 : kn2.testBit (to j) with
            | false =>
              rw [if_neg (by decide), if_neg (by decide)]
              refine hnew (to j) _ hlk r5 h2 (TI_fwd ho hl hfx hI2 hlk hka h2) ⟨?_, ?_, ?_⟩
              · rw [fb_bit_set, hka]; rfl
              · rw [fb_bit_set]; simp
              · rw [upd_at, upd_ne (fun q => by rw [q, h2] at hka; exact absurd hka (by decide))]
                rfl
            | true =>
              rw [if_pos rfl, if_pos rfl, or_in h2]
              by_cases h3 : num2 (4 * to j + w) = num2 (4 * fr j + w) + gapC num tie kd fr j w
              · rw [if_pos h3, upd_same h3]
                exact hold hlk ⟨hka, h2, h3⟩
              · rw [if_neg h3, if_pos trivial]
                exact ⟨_, rfl, num2, false, rfl, hc2, TI_bad hI2 hlk hka h2 h3⟩
          · rw [if_pos rfl, if_pos rfl, hasI7 _ (by omega) (by omega), bsm, ifb]
            simp only [num7 hb r4 hw4, set7 hb r4 hw4, bsm, wB_num, wB_sNum]
            rw [hasI7 _ (by omega) (by omega), bsm, ifb, shl1 (by omega), fa_or, fa_or, nI_or0]
            subst hx
            cases h2 : kn2.testBit (fr j) with
            | false =>
              rw [if_neg (by decide), if_neg (by decide)]
              refine hnew (fr j) _ hlk r4 h2 ?_ ⟨?_, ?_, ?_⟩
              · rw [← Int32.sub_eq_add_neg]
                exact TI_bwd ho hl hfx hI2 hlk hka h2
              · rw [fb_bit_set]; simp
              · rw [fb_bit_set, hka]; rfl
              · rw [upd_at, upd_ne (fun q => by rw [q, h2] at hka; exact absurd hka (by decide))]
                exact i32_neg.mp rfl
            | true =>
              rw [if_pos rfl, if_pos rfl, or_in h2]
              by_cases h3 : num2 (4 * fr j + w) = num2 (4 * to j + w) + -gapC num tie kd fr j w
              · rw [if_pos h3, upd_same h3]
                exact hold hlk ⟨h2, hka, i32_neg.mp h3⟩
              · rw [if_neg h3, if_pos trivial]
                exact ⟨_, rfl, num2, false, rfl, hc2, TI_bad hI2 hlk h2 hka (fun q => h3 (i32_neg.mpr q))⟩
        cases hlk : lkf fo kd w j with
        | false =>
          have hs : ∀ x8 : Int32, Ok (f_X0_tellByWalk_b106 b (nI fx) (nI w) rec rec2 (wB S b (nI th) (nI fo) num2 tie) (nI kn2) (nI wt2) (nI i) (nI a) (nI j) x8) (TP S b th fo num tie kd fr to fx w) := by
            intro x8
            unfold f_X0_tellByWalk_b106 f_X0_tellByWalk_b248
            rw [isLink7 wB_fo hR' hf hj (by omega), bsm, ifb, hlk, if_neg (by decide), nI_1]
            exact hskip (fun q => by rw [hlk] at q; exact absurd q (by decide))
          unfold f_X0_tellByWalk_b248
          rw [nI_1]
          have hsk := hskip (fun q => by rw [hlk] at q; exact absurd q (by decide))
          have h10 : ¬ (1 : Int32) = 0 := by decide
          by_cases e1 : (wB S b (nI th) (nI fo) num2 tie).1 7 j = nI a <;> by_cases e2 : (wB S b (nI th) (nI fo) num2 tie).1 8 j = nI a
          · simp only [if_pos e1, if_pos e2, if_neg h10]; exact hs 1
          · simp only [if_pos e1, if_neg e2, if_neg h10]; exact hs 1
          · simp only [if_neg e1, if_pos e2, if_neg h10, if_true]; exact hs 0
          · simp only [if_neg e1, if_neg e2, if_true]; exact hsk
        | true =>
          have hjn := lkf_nr hf hlk
          obtain ⟨r1, r2, r3, r4, r5⟩ := hR'.2 j hjn
          rw [r2, r3]
          unfold f_X0_tellByWalk_b248
          rw [nI_1]
          have h10 : ¬ (1 : Int32) = 0 := by decide
          have hfa : nI (fr j) = nI a ↔ fr j = a := nI_eq (by omega) (by omega)
          have hta : nI (to j) = nI a ↔ to j = a := nI_eq (by omega) (by omega)
          simp only [hfa, hta]
          by_cases e1 : fr j = a <;> by_cases e2 : to j = a
          · simp only [if_pos e1, if_pos e2, if_neg h10]; exact hmain 1 hlk (Or.inl ⟨rfl, e1⟩)
          · simp only [if_pos e1, if_neg e2, if_neg h10]; exact hmain 1 hlk (Or.inl ⟨rfl, e1⟩)
          · simp only [if_neg e1, if_pos e2, if_neg h10, if_true]; exact hmain 0 hlk (Or.inr ⟨rfl, e2⟩)
          · simp only [if_neg e1, if_neg e2, if_true]; exact hskip (fun _ => ⟨e1, e2⟩)
      · rintro v rec2 ⟨num2, kn2, wt2, rfl, hc2, hI2, hs2, hwa, hka, hn2, hg2⟩
        unfold F_X0_tellByWalk_b41
        dsimp only
        rw [if_pos (by decide), nI_1]
        refine hrec _ ⟨num2, kn2, wt2, rfl, hc2, hI2, hs2, hn2, fun i' c h1 h2 h3 h4 => ?_⟩
        exact hg2 i' c h1 h2 h3 h4 (Or.inr (hl i' h1))
      · rw [clr_bit (by omega) (by omega), Bool.and_eq_true] at hc
        exact hs1 c hc.1
      · rw [clr_bit (by omega) (by omega)]; simp
      · have := crd_clr hwt1 ha10 hain
        omega
      · intro i' c h1 h2 h3 h4 h5
        rcases h5 with h5 | h5
        · refine hg1 i' c h1 h2 h3 ?_
          rw [clr_bit (by omega) (by omega)] at h4
          simpa [h5] using h4
        · omega
  · rintro v rec ⟨num1, kn1, wt1, rfl, hc1, hI1, hs1, hn1, hg1⟩
    have hwt1 : wt1 < 2 ^ 10 := by
      apply Nat.lt_pow_two_of_testBit
      intro k hk
      cases e : wt1.testBit k with
      | false => rfl
      | true => exact absurd (lt10_of hI1.2.1 (hs1 k e)) (by omega)
    have h0 : wt1 = 0 := crd_0 hwt1 (by have := crd_le kn1; omega)
    unfold F_X0_tellByWalk_b8
    dsimp only
    rw [if_pos (by decide)]
    exact hfin num1 kn1 hc1 hI1 (fun i c h1 h2 h3 => hg1 i c h1 h2 h3 (by rw [h0]; exact Nat.zero_testBit c))
end
