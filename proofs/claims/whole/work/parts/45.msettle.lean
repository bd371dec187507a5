/-! the model settles places -/
section
variable {S : HS} {nm nr ns : Nat} {kd : Nat → Int32} {fr to : Nat → Nat} {lb : Nat → Bool}
theorem MC_ok {fo w : Nat} (hM : MC S nm nr ns kd fr to lb) (hf : fok fo nm) : rOk (lkf fo kd w) fr to := fun k hk => by
  have h1 := lkf_nr hf hk
  obtain ⟨-, -, m3, -, -, m6, -⟩ := hM
  have := m6 k (by omega)
  exact ⟨this.2.2.2.1, this.2.2.2.2⟩
theorem MC_lt {fo w : Nat} (hM : MC S nm nr ns kd fr to lb) (hf : fok fo nm) : rLt (lkf fo kd w) := fun k hk => by
  have h1 := lkf_nr hf hk
  obtain ⟨-, -, m3, m4, -⟩ := hM
  omega
theorem i32_pn {a b : Int32} : a + -b = a - b := by grind
/-- the model's own test of all rules of a part -/
theorem scheck8 (hM : MC S nm nr ns kd fr to lb) {fo w : Nat} (hf : fok fo nm) (hw : w < 2) {part : Nat} (hp : part < 2 ^ 10) (lead : Int32) (tr tx ty : Nat → Int32) (tt : Int32) (f : Bool) : Ok (f_X8_settlesPart_b213 (nI part) (nI w) lead (mF S tr tt (nI fo) (bI f) tx ty) 0) (fun r => ∃ f', r = mF S tr tt (nI fo) (bI f') tx ty ∧ (f' = true ↔ f = true ∨ ∃ j, lkf fo kd w j = true ∧ part.testBit (fr j) = true ∧ tr (4 * to j + w) ≠ tr (4 * fr j + w) + gapM tr tx ty kd fr j w)) := by
  have hM' := hM
  obtain ⟨m1, m2, m3, m4, m5, m6, m7⟩ := hM
  have hfo : fo < 2 ^ 12 := fok_lt hf (by omega)
  unfold f_X8_settlesPart_b213
  refine ok_fx nm (fun i u => ∃ f', u = (mF S tr tt (nI fo) (bI f') tx ty, nI i) ∧ (f' = true ↔ f = true ∨ ∃ j, j < i ∧ lkf fo kd w j = true ∧ part.testBit (fr j) = true ∧ tr (4 * to j + w) ≠ tr (4 * fr j + w) + gapM tr tx ty kd fr j w)) ?_ ?_ (FU_gt (by omega)) ⟨f, rfl, fun h => Or.inl h, fun h => h.elim id (fun ⟨j, h, _⟩ => absurd h (by omega))⟩
  · rintro i u rec hi ⟨f', rfl, hf'⟩ hrec
    obtain ⟨r1, r2, r3, r4, r5⟩ := m6 i (by omega)
    have e7 : (mF S tr tt (nI fo) (bI f') tx ty).1 36 7 = nI nm := m1
    have e27 : (mF S tr tt (nI fo) (bI f') tx ty).1 36 27 = nI fo := rfl
    have e28 : (mF S tr tt (nI fo) (bI f') tx ty).1 36 28 = bI f' := rfl
    have e42 : (mF S tr tt (nI fo) (bI f') tx ty).1 42 i = kd i := r1
    have e43 : (mF S tr tt (nI fo) (bI f') tx ty).1 43 i = nI (fr i) := r2
    have e44 : (mF S tr tt (nI fo) (bI f') tx ty).1 44 i = nI (to i) := r3
    have e56 : ∀ k, (mF S tr tt (nI fo) (bI f') tx ty).1 56 k = tr k := fun _ => rfl
    unfold F_X8_settlesPart_b213 f_X8_settlesPart_b266 f_X8_settlesPart_b267 f_X8_settlesPart_b325 f_X8_settlesPart_b329 f_X8_settlesPart_b330
    dsimp only
    rw [e7, if_neg (nlt_le hi (by omega)), e27, has8 _ (by omega) (by omega), e28, nz_0, nz_1, mF_sFl, mF_sFl, nI_1]
    simp only [bsm, ifb, if_pos (ib_nI (show i < 12 by omega) (by omega)), nI_cl (show i < 2 ^ 31 by omega), e42, e43, e44, joins8 _ _ (show w < 4 by omega), has8 _ (show part < 2 ^ 31 by omega) (show fr i < 31 by omega), step8 hM' (show i < nr by omega) hw, idx4, if_pos (ib_nI (show 4 * fr i + w < 40 by omega) (by omega)), if_pos (ib_nI (show 4 * to i + w < 40 by omega) (by omega)), nI_cl (show 4 * fr i + w < 2 ^ 31 by omega), nI_cl (show 4 * to i + w < 2 ^ 31 by omega), e56, if_true]
    have hgo : ∀ f2, (f2 = true ↔ f' = true ∨ (lkf fo kd w i = true ∧ part.testBit (fr i) = true ∧ tr (4 * to i + w) ≠ tr (4 * fr i + w) + gapM tr tx ty kd fr i w)) → Ok (rec (mF S tr tt (nI fo) (bI f2) tx ty, nI (i + 1))) (fun r => ∃ f', r = mF S tr tt (nI fo) (bI f') tx ty ∧ (f' = true ↔ f = true ∨ ∃ j, lkf fo kd w j = true ∧ part.testBit (fr j) = true ∧ tr (4 * to j + w) ≠ tr (4 * fr j + w) + gapM tr tx ty kd fr j w)) := by
      intro f2 h2
      refine hrec _ ⟨f2, rfl, ?_⟩
      rw [h2, hf']
      constructor
      · rintro ((h | ⟨j, h1, h3⟩) | h)
        · exact Or.inl h
        · exact Or.inr ⟨j, by omega, h3⟩
        · exact Or.inr ⟨i, by omega, h⟩
      · rintro (h | ⟨j, h1, h3⟩)
        · exact Or.inl (Or.inl h)
        · rcases Nat.lt_succ_iff_lt_or_eq.mp h1 with h | rfl
          · exact Or.inl (Or.inr ⟨j, h, h3⟩)
          · exact Or.inr h3
    have hg0 := hgo false
    have hg1 := hgo true
    rw [show bI false = (0 : Int32) from rfl] at hg0
    rw [show bI true = (1 : Int32) from rfl] at hg1
    have hlk : lkf fo kd w i = (fo.testBit i && abt (kd i) w) := rfl
    rw [hlk] at hg0 hg1
    cases h0 : f' <;> cases h1 : fo.testBit i <;> cases h2 : abt (kd i) w <;> cases h3 : part.testBit (fr i) <;> by_cases h4 : tr (4 * to i + w) = tr (4 * fr i + w) + gapM tr tx ty kd fr i w <;> simp [h0, h1, h2, h3, h4] at hg0 hg1 ⊢ <;> assumption
  · rintro u rec ⟨f', rfl, hf'⟩
    have e7 : (mF S tr tt (nI fo) (bI f') tx ty).1 36 7 = nI nm := m1
    unfold F_X8_settlesPart_b213
    dsimp only
    rw [e7, if_pos (nle_nI nm)]
    refine ⟨_, rfl, f', rfl, ?_⟩
    rw [hf']
    constructor
    · rintro (h | ⟨j, h1, h2⟩)
      · exact Or.inl h
      · exact Or.inr ⟨j, h2⟩
    · rintro (h | ⟨j, h2⟩)
      · exact Or.inl h
      · exact Or.inr ⟨j, lkf_nr hf h2.1, h2⟩
def SP (S : HS) (fo w : Nat) (kd : Nat → Int32) (fr to : Nat → Nat) (fx : Nat) (tr tx ty : Nat → Int32) (tt : Int32) (f : Bool) (r : HS) : Prop := ∃ tr' ok, r = mF S tr' tt (nI fo) (bI (f || !ok)) tx ty ∧ offc w tr tr' ∧ TS (lkf fo kd w) fr to (fun j => gapM tr tx ty kd fr j w) fx (col tr w) (col tr' w) ok
theorem bI_inj {a b : Bool} : bI a = bI b ↔ a = b := by cases a <;> cases b <;> decide
theorem spart8 (hM : MC S nm nr ns kd fr to lb) {fo w : Nat} (hf : fok fo nm) (hw : w < 2) {lead part : Nat} (hld : lead < 10) (hp : part = clo (lkf fo kd w) fr to lead) (tr tx ty : Nat → Int32) (tt : Int32) (f : Bool) : Ok (f_X8_settlesPart (nI part) (nI w) (nI lead) (mF S tr tt (nI fo) (bI f) tx ty)) (SP S fo w kd fr to (2 ^ lead) tr tx ty tt f) := by
  have hM' := hM
  obtain ⟨m1, m2, m3, m4, m5, m6, m7⟩ := hM
  have hfo : fo < 2 ^ 12 := fok_lt hf (by omega)
  have ho : rOk (lkf fo kd w) fr to := MC_ok hM' hf
  have hl : rLt (lkf fo kd w) := MC_lt hM' hf
  have hlt := clo_lt ho hld
  unfold f_X8_settlesPart f_X8_settlesPart_b8
  rw [shl1 (by omega)]
  have hfin : ∀ tr' kn, offc w tr tr' → TI (lkf fo kd w) fr to (fun j => gapM tr tx ty kd fr j w) (2 ^ lead) (col tr w) kn (col tr' w) → clsd (lkf fo kd w) fr to kn → Ok (f_X8_settlesPart_b213 (nI part) (nI w) (nI lead) (mF S tr' tt (nI fo) (bI f) tx ty) 0) (SP S fo w kd fr to (2 ^ lead) tr tx ty tt f) := by
    intro tr' kn hc hI hcl
    refine Ok.mono (scheck8 hM' hf hw (part := part) (by omega) (nI lead) tr' tx ty tt f) ?_
    rintro r ⟨f', rfl, hf'⟩
    have hpk : ∀ k, part.testBit k = true ↔ kn.testBit k = true := by
      intro k
      rw [hp]
      constructor
      · exact clo_min hcl (hI.1 lead Nat.testBit_two_pow_self) k
      · intro h
        exact Dm_one.mp (hI.2.2.1 k h)
    by_cases e : ∃ j, lkf fo kd w j = true ∧ part.testBit (fr j) = true ∧ tr' (4 * to j + w) ≠ tr' (4 * fr j + w) + gapM tr' tx ty kd fr j w
    · have : f' = (f || !false) := by
        rw [hf'.mpr (Or.inr e)]
        cases f <;> rfl
      refine ⟨tr', false, by rw [this], hc, ?_⟩
      obtain ⟨j, j1, j2, j3⟩ := e
      rw [gapM_off hw hc] at j3
      exact TI_bad hI j1 ((hpk _).mp j2) ((hcl j j1).mp ((hpk _).mp j2)) j3
    · have : f' = (f || !true) := by
        cases h : f with
        | true =>
          have := hf'.mpr (Or.inl h)
          rw [this]; rfl
        | false =>
          cases h2 : f' with
          | false => rfl
          | true =>
            rcases hf'.mp h2 with h3 | h3
            · rw [h] at h3; exact absurd h3 (by decide)
            · exact absurd h3 e
      refine ⟨tr', true, by rw [this], hc, TI_good hI hcl (fun j hj hk => ?_)⟩
      apply Classical.byContradiction
      intro q
      refine e ⟨j, hj, (hpk _).mpr hk, ?_⟩
      rw [gapM_off hw hc]
      exact q
  refine ok_fx 10 (fun i u => ∃ tr' kn was, u = (mF S tr' tt (nI fo) (bI f) tx ty, nI kn, nI was) ∧ offc w tr tr' ∧ TI (lkf fo kd w) fr to (fun j => gapM tr tx ty kd fr j w) (2 ^ lead) (col tr w) kn (col tr' w) ∧ was < 2 ^ 10 ∧ (kn = was → clsd (lkf fo kd w) fr to kn) ∧ (kn ≠ was → i + 1 ≤ crd kn)) ?_ ?_ (FU_gt (by omega)) ⟨tr, 2 ^ lead, 0, rfl, fun _ _ => rfl, TI_init (pow_lt10 hld), by omega, fun q => absurd q (Nat.ne_of_gt (Nat.pow_pos (by omega))), fun _ => crd_pow hld⟩
  · rintro i u rec hi ⟨tr1, kn1, was, rfl, hc1, hI1, hwas, hcl1, hn1⟩ hrec
    have hkn1 := hI1.2.1
    unfold F_X8_settlesPart_b8
    dsimp only
    by_cases e : kn1 = was
    · rw [if_pos (congrArg nI e)]
      exact hfin tr1 kn1 hc1 hI1 (hcl1 e)
    · rw [if_neg (fun q => e ((nI_eq (by omega) (by omega)).mp q))]
      have hn1 := hn1 e
      unfold f_X8_settlesPart_b22
      refine ok_fx nm (fun j u => ∃ tr' kn, u = (mF S tr' tt (nI fo) (bI f) tx ty, nI kn, nI kn1, nI j) ∧ offc w tr tr' ∧ TI (lkf fo kd w) fr to (fun j => gapM tr tx ty kd fr j w) (2 ^ lead) (col tr w) kn (col tr' w) ∧ sbt kn1 kn ∧ (kn = kn1 → ∀ j', j' < j → lkf fo kd w j' = true → (kn.testBit (fr j') = true ↔ kn.testBit (to j') = true))) ?_ ?_ (FU_gt (by omega)) ⟨tr1, kn1, rfl, hc1, hI1, sbt.rf _, fun _ j' h => absurd h (by omega)⟩
      · rintro j u rec2 hj ⟨tr2, kn2, rfl, hc2, hI2, hs2, hg2⟩ hrec2
        have hkn2 := hI2.2.1
        obtain ⟨r1, r2, r3, r4, r5⟩ := m6 j (by omega)
        have e7 : (mF S tr2 tt (nI fo) (bI f) tx ty).1 36 7 = nI nm := m1
        have e27 : (mF S tr2 tt (nI fo) (bI f) tx ty).1 36 27 = nI fo := rfl
        have e42 : (mF S tr2 tt (nI fo) (bI f) tx ty).1 42 j = kd j := r1
        have e43 : (mF S tr2 tt (nI fo) (bI f) tx ty).1 43 j = nI (fr j) := r2
        have e44 : (mF S tr2 tt (nI fo) (bI f) tx ty).1 44 j = nI (to j) := r3
        have e56 : ∀ k, (mF S tr2 tt (nI fo) (bI f) tx ty).1 56 k = tr2 k := fun _ => rfl
        unfold F_X8_settlesPart_b22 f_X8_settlesPart_b120 f_X8_settlesPart_b144 f_X8_settlesPart_b190 f_X8_settlesPart_b201
        dsimp only
        rw [e7, if_neg (nlt_le hj (by omega)), e27, has8 _ (by omega) (by omega)]
        simp only [bsm, ifb, if_pos (ib_nI (show j < 12 by omega) (by omega)), nI_cl (show j < 2 ^ 31 by omega), e42, e43, e44, joins8 _ _ (show w < 4 by omega), has8 _ (show kn2 < 2 ^ 31 by omega) (show fr j < 31 by omega), has8 _ (show kn2 < 2 ^ 31 by omega) (show to j < 31 by omega), step8 hM' (show j < nr by omega) hw, idx4, if_pos (ib_nI (show 4 * fr j + w < 40 by omega) (by omega)), if_pos (ib_nI (show 4 * to j + w < 40 by omega) (by omega)), nI_cl (show 4 * fr j + w < 2 ^ 31 by omega), nI_cl (show 4 * to j + w < 2 ^ 31 by omega), e56, if_true, mF_sTr, shl1 (show fr j < 31 by omega), shl1 (show to j < 31 by omega), fa_or, nI_1, bI_inj, gapM_off hw hc2, i32_pn]
        have hskip : (lkf fo kd w j = true → (kn2.testBit (fr j) = true ↔ kn2.testBit (to j) = true)) → Ok (rec2 (mF S tr2 tt (nI fo) (bI f) tx ty, nI kn2, nI kn1, nI (j + 1))) (SP S fo w kd fr to (2 ^ lead) tr tx ty tt f) := by
          intro hq
          refine hrec2 _ ⟨tr2, kn2, rfl, hc2, hI2, hs2, fun q j' hj' hl' => ?_⟩
          rcases Nat.lt_succ_iff_lt_or_eq.mp hj' with h | rfl
          · exact hg2 q j' h hl'
          · exact hq hl'
        have hlk : lkf fo kd w j = (fo.testBit j && abt (kd j) w) := rfl
        cases h1 : fo.testBit j with
        | false =>
          rw [if_neg (by decide)]
          exact hskip (fun q => by rw [hlk, h1, Bool.false_and] at q; exact absurd q (by decide))
        | true =>
          rw [if_pos rfl]
          cases h2 : abt (kd j) w with
          | false =>
            rw [if_neg (by decide)]
            exact hskip (fun q => by rw [hlk, h1, h2] at q; exact absurd q (by decide))
          | true =>
            have hlj : lkf fo kd w j = true := by rw [hlk, h1, h2]; rfl
            rw [if_pos rfl]
            cases h3 : kn2.testBit (fr j) with
            | true =>
              cases h4 : kn2.testBit (to j) with
              | true =>
                rw [if_pos rfl]
                exact hskip (fun _ => ⟨fun _ => h4, fun _ => h3⟩)
              | false =>
                rw [if_neg (by decide), if_pos rfl]
                refine hrec2 _ ⟨_, _, rfl, hc2.set (by omega), by rw [col_upd]; exact TI_fwd ho hl (pow_lt10 hld) hI2 hlj h3 h4, fun c hc => by rw [fb_bit_set, hs2 c hc]; rfl, fun q => absurd q (or_ne hs2 h4)⟩
            | false =>
              cases h4 : kn2.testBit (to j) with
              | false =>
                rw [if_pos rfl]
                exact hskip (fun _ => ⟨fun q => by rw [h3] at q; exact absurd q (by decide), fun q => by rw [h4] at q; exact absurd q (by decide)⟩)
              | true =>
                rw [if_neg (by decide), if_neg (by decide)]
                refine hrec2 _ ⟨_, _, rfl, hc2.set (by omega), by rw [col_upd]; exact TI_bwd ho hl (pow_lt10 hld) hI2 hlj h4 h3, fun c hc => by rw [fb_bit_set, hs2 c hc]; rfl, fun q => absurd q (or_ne hs2 h3)⟩
      · rintro u rec2 ⟨tr2, kn2, rfl, hc2, hI2, hs2, hg2⟩
        have e7 : (mF S tr2 tt (nI fo) (bI f) tx ty).1 36 7 = nI nm := m1
        unfold F_X8_settlesPart_b22
        dsimp only
        rw [e7, if_pos (nle_nI nm)]
        refine hrec _ ⟨tr2, kn2, kn1, rfl, hc2, hI2, hkn1, fun q j hj => hg2 q j (lkf_nr hf hj) hj, fun q => ?_⟩
        rcases Nat.lt_or_ge (crd kn1) (crd kn2) with h | h
        · omega
        · exact absurd (crd_eq hs2 hkn1 hI2.2.1 h).symm q
  · rintro u rec ⟨tr1, kn1, was, rfl, hc1, hI1, hwas, hcl1, hn1⟩
    unfold F_X8_settlesPart_b8
    dsimp only
    by_cases e : kn1 = was
    · rw [if_pos (congrArg nI e)]
      exact hfin tr1 kn1 hc1 hI1 (hcl1 e)
    · have := hn1 e
      have := crd_le kn1
      omega
theorem low_le : ∀ g, g < 1024 → g ≠ 0 → low g 10 0 < 10 ∧ ∀ i, i < 10 → i < low g 10 0 → g.testBit i = false := by decide +kernel
theorem settles8 (hM : MC S nm nr ns kd fr to lb) {fo w : Nat} (hf : fok fo nm) (hw : w < 2) {ld ch : Nat} (hld : ld < 10) (hch : ch < 2 ^ 10) (hcn : ∀ k, ch.testBit k = true → k < ns) (tr tx ty : Nat → Int32) (tt : Int32) (f : Bool) : Ok (f_X8_settles (nI ld) (nI ch) (nI w) (mF S tr tt (nI fo) (bI f) tx ty)) (SP S fo w kd fr to (fixF (lkf fo kd w) fr to ld (fun k => ch.testBit k) 10) tr tx ty tt f) := by
  have hM' := hM
  obtain ⟨m1, m2, m3, m4, m5, m6, m7⟩ := hM
  have hfo : fo < 2 ^ 12 := fok_lt hf (by omega)
  have ho : rOk (lkf fo kd w) fr to := MC_ok hM' hf
  have hl : rLt (lkf fo kd w) := MC_lt hM' hf
  unfold f_X8_settles f_X8_settles_b6
  refine ok_fx ns (fun i u => ∃ tr' ok done, u = (mF S tr' tt (nI fo) (bI (f || !ok)) tx ty, nI done, nI i) ∧ offc w tr tr' ∧ TS (lkf fo kd w) fr to (fun j => gapM tr tx ty kd fr j w) (fixF (lkf fo kd w) fr to ld (fun k => ch.testBit k) i) (col tr w) (col tr' w) ok ∧ done < 2 ^ 10 ∧ ∀ k, done.testBit k = true ↔ ∃ c, c < i ∧ ch.testBit c = true ∧ (clo (lkf fo kd w) fr to c).testBit k = true) ?_ ?_ (FU_gt (by omega)) ⟨tr, true, 0, by rw [show (f || !true) = f by cases f <;> rfl]; rfl, fun _ _ => rfl, TS_0, by omega, fun k => ⟨fun h => absurd h (by rw [Nat.zero_testBit]; decide), fun ⟨c, h, _⟩ => absurd h (by omega)⟩⟩
  · rintro i u rec hi ⟨tr1, ok1, done, rfl, hc1, hT1, hd, hdn⟩ hrec
    have e2 : (mF S tr1 tt (nI fo) (bI (f || !ok1)) tx ty).1 36 2 = nI ns := m2
    have e27 : (mF S tr1 tt (nI fo) (bI (f || !ok1)) tx ty).1 36 27 = nI fo := rfl
    have hi10 : i < 10 := by omega
    have hclt := clo_lt ho hi10
    unfold F_X8_settles_b6 f_X8_settles_b95
    dsimp only
    rw [e2, if_neg (nlt_le hi (by omega)), has8 _ (by omega) (by omega), bsm, ifb, has8 _ (by omega) (by omega), bsm, ifb, e27, part8 (MC_F hM') hf hi10 (by omega), bsm, nI_1]
    cases h1 : ch.testBit i with
    | false =>
      rw [if_neg (by decide)]
      refine hrec _ ⟨tr1, ok1, done, rfl, hc1, ?_, hd, fun k => ?_⟩
      · show TS _ _ _ _ (if ch.testBit i = true then _ else _) _ _ _
        rw [h1, if_neg (by decide)]
        exact hT1
      · rw [hdn k]
        constructor
        · rintro ⟨c, c1, c2⟩; exact ⟨c, by omega, c2⟩
        · rintro ⟨c, c1, c2, c3⟩
          rcases Nat.lt_succ_iff_lt_or_eq.mp c1 with h | rfl
          · exact ⟨c, h, c2, c3⟩
          · rw [h1] at c2; exact absurd c2 (by decide)
    | true =>
      rw [if_pos rfl]
      cases h2 : done.testBit i with
      | true =>
        rw [if_pos rfl]
        obtain ⟨c, c1, c2, c3⟩ := (hdn i).mp h2
        refine hrec _ ⟨tr1, ok1, done, rfl, hc1, by rw [fixF_old ho hl (by omega) c1 c2 c3]; exact hT1, hd, fun k => ?_⟩
        rw [hdn k]
        constructor
        · rintro ⟨d, d1, d2⟩; exact ⟨d, by omega, d2⟩
        · rintro ⟨d, d1, d2, d3⟩
          rcases Nat.lt_succ_iff_lt_or_eq.mp d1 with h | rfl
          · exact ⟨d, h, d2, d3⟩
          · exact ⟨c, c1, c2, by rw [← clo_sym ho hl (by omega) c3]; exact d3⟩
      | false =>
        rw [if_neg (by decide)]
        have hrp := rp_lt (ld := ld) ho hi10
        have hin := rp_in (ld := ld) ho hi10
        have hsame := clo_sym ho hl hi10 hin
        unfold f_X8_settles_b50
        obtain ⟨l1, l2⟩ := low_le _ hclt (bit_ne (clo_self (lk := lkf fo kd w) (fr := fr) (to := to) (s := i)))
        have hfin : Ok (f_X8_settles_b92 (nI ld) (nI ch) (nI w) rec (mF S tr1 tt (nI fo) (bI (f || !ok1)) tx ty) (nI (done ||| clo (lkf fo kd w) fr to i)) (nI i) (nI (clo (lkf fo kd w) fr to i)) (nI w) (nI (rp (lkf fo kd w) fr to ld i))) (SP S fo w kd fr to (fixF (lkf fo kd w) fr to ld (fun k => ch.testBit k) 10) tr tx ty tt f) := by
          unfold f_X8_settles_b92 f_X8_settles_b95
          rw [nI_1]
          refine Ok.bind (spart8 hM' hf hw hrp hsame.symm tr1 tx ty tt _) ?_
          rintro r ⟨tr2, ok2, rfl, hc2, hT2⟩
          refine hrec _ ⟨tr2, ok1 && ok2, done ||| clo (lkf fo kd w) fr to i, ?_, fun t ht => by rw [hc2 t ht]; exact hc1 t ht, ?_, Nat.or_lt_two_pow hd hclt, fun k => ?_⟩
          · congr 2
            cases f <;> cases ok1 <;> cases ok2 <;> rfl
          · have hg : (fun j => gapM tr1 tx ty kd fr j w) = fun j => gapM tr tx ty kd fr j w := by
              funext j
              exact gapM_off hw hc1
            rw [hg] at hT2
            show TS _ _ _ _ (if ch.testBit i = true then _ else _) _ _ _
            rw [if_pos h1]
            refine TS_join ho hl (fixF_lt ho (by omega)) hrp (fun k hk => ?_) hT1 hT2
            rw [fixF_Dm ho hl (by omega)] at hk
            rw [hsame]
            cases e : (clo (lkf fo kd w) fr to i).testBit k with
            | false => rfl
            | true =>
              obtain ⟨c, c1, c2, c3⟩ := hk
              have q1 := clo_sym ho hl (by omega) c3
              have q2 := clo_sym ho hl hi10 e
              have : done.testBit i = true := (hdn i).mpr ⟨c, c1, c2, by rw [← q1, q2]; exact clo_self⟩
              rw [h2] at this
              exact absurd this (by decide)
          · rw [Nat.testBit_or, Bool.or_eq_true, hdn k]
            constructor
            · rintro (⟨c, c1, c2⟩ | h)
              · exact ⟨c, by omega, c2⟩
              · exact ⟨i, by omega, h1, h⟩
            · rintro ⟨c, c1, c2, c3⟩
              rcases Nat.lt_succ_iff_lt_or_eq.mp c1 with h | rfl
              · exact Or.inl ⟨c, h, c2, c3⟩
              · exact Or.inr c3
        unfold rp at hfin
        refine ok_fx (low (clo (lkf fo kd w) fr to i) 10 0) (fun m u => u = (mF S tr1 tt (nI fo) (bI (f || !ok1)) tx ty, nI done, nI i, nI (clo (lkf fo kd w) fr to i), nI m)) ?_ ?_ (FU_gt (by omega)) rfl
        · rintro m u rec2 hm rfl hrec2
          unfold F_X8_settles_b50
          dsimp only
          rw [has8 _ (by omega) (by omega), bsm, ifb, l2 m (by omega) hm, if_neg (by decide), nI_1]
          exact hrec2 _ rfl
        · rintro u rec2 rfl
          unfold F_X8_settles_b50
          dsimp only
          rw [has8 _ (by omega) (by omega), bsm, ifb, low_in hclt (bit_ne clo_self), if_pos rfl, has8 _ (by omega) (by omega), bsm, ifb, fa_or]
          by_cases e : (clo (lkf fo kd w) fr to i).testBit ld = true
          · rw [if_pos e] at hfin ⊢
            exact hfin
          · rw [if_neg e] at hfin ⊢
            exact hfin
  · rintro u rec ⟨tr1, ok1, done, rfl, hc1, hT1, hd, hdn⟩
    have e2 : (mF S tr1 tt (nI fo) (bI (f || !ok1)) tx ty).1 36 2 = nI ns := m2
    unfold F_X8_settles_b6
    dsimp only
    rw [e2, if_pos (nle_nI ns)]
    have hx : ∀ d, fixF (lkf fo kd w) fr to ld (fun k => ch.testBit k) (ns + d) = fixF (lkf fo kd w) fr to ld (fun k => ch.testBit k) ns := by
      intro d
      induction d with
      | zero => rfl
      | succ d ih =>
        show (if ch.testBit (ns + d) = true then _ else _) = _
        rw [if_neg (fun q => absurd (hcn _ q) (by omega))]
        exact ih
    have hx := hx (10 - ns)
    rw [show ns + (10 - ns) = 10 by omega] at hx
    exact ⟨_, rfl, tr1, ok1, rfl, hc1, by rw [hx]; exact hT1⟩
end
