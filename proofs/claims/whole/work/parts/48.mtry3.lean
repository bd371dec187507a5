/-! the model tries an act: all deeds -/
section
variable {S : HS} {nm nr ns : Nat} {kd : Nat → Int32} {fr to : Nat → Nat} {lb : Nat → Bool} {A : AB}
def cpy53 (S : HS) (i : Nat) : Nat → Int32 := fun t => if t < i then S.1 53 t else S.1 56 t
theorem cpy53_s (S : HS) (i : Nat) : upd (cpy53 S i) i (S.1 53 i) = cpy53 S (i + 1) := by
  funext t
  unfold upd cpy53
  by_cases e : t = i
  · rw [if_pos e, if_pos (by omega), e]
  · rw [if_neg e]
    by_cases h : t < i
    · rw [if_pos h, if_pos (by omega)]
    · rw [if_neg h, if_neg (by omega)]
theorem tries8 (hB : MB S kd A) (hM : MC S nm nr ns kd fr to lb) (hW : RW nr ns kd fr to) (hA : AI kd fr to lb ns nm A) {a : Nat} {d : Int32} {s : Nat} {q : Nat → Int32} (ha : a < 60) (hTM : TM S a d s q) (hD : DW nr ns kd d s q) : Ok (f_X8_tries (nI a) S) (TRP S kd fr to lb d s q A) := by
  have hM' := hM
  obtain ⟨m1, m2, m3, m4, m5, m6, m7⟩ := hM
  obtain ⟨b1, b2, b3, b4⟩ := hB
  obtain ⟨t1, t2, t3, t4, t5⟩ := hTM
  have hAr : AI kd fr to lb ns nr A := AI_mono hA m3
  have hfo : A.2.1 < 2 ^ 12 := fok_lt hA.2.1 (by omega)
  have hth := AI_th hW hAr
  unfold f_X8_tries
  rw [if_pos (ib_nI (show a < 60 by omega) (by omega)), nI_cl (show a < 2 ^ 31 by omega), t2]
  have hS0 : sI (sI S 36 25 (S.1 36 20)) 36 27 ((sI S 36 25 (S.1 36 20)).1 36 22) = mF S (S.1 56) (nI A.1) (nI A.2.1) (S.1 36 28) (S.1 54) (S.1 55) := by
    have e1 : sI S 36 25 (S.1 36 20) = mF S (S.1 56) (nI A.1) (S.1 36 27) (S.1 36 28) (S.1 54) (S.1 55) := by
      conv => lhs; arg 1; rw [← mF_self (S := S)]
      rw [mF_sTt, b1]
    have e2 : (sI S 36 25 (S.1 36 20)).1 36 22 = nI A.2.1 := b2
    rw [e2, e1, mF_sTf]
  rw [hS0]
  unfold f_X8_tries_b30
  refine ok_fx 40 (fun i u => u = (mF S (cpy53 S i) (nI A.1) (nI A.2.1) (S.1 36 28) (S.1 54) (S.1 55), nI s, 4 * nI a, nI i)) ?_ ?_ (FU_gt (by omega)) ?_
  · rintro i u rec hi rfl hrec
    unfold F_X8_tries_b30
    dsimp only
    rw [if_neg (by rw [show (40 : Int32) = nI 40 from rfl, nI_leI (by omega) (by omega)]; omega), if_pos (ib_nI (show i < 40 by omega) (by omega)), if_pos (ib_nI (show i < 40 by omega) (by omega)), nI_cl (by omega), mF_sTr, nI_1]
    refine hrec _ ?_
    rw [show (mF S (cpy53 S i) (nI A.1) (nI A.2.1) (S.1 36 28) (S.1 54) (S.1 55)).1 53 i = S.1 53 i from rfl, cpy53_s]
  · rintro u rec rfl
    generalize htr : cpy53 S 40 = tr
    have hN : rpN A.1 A.2.2.1 tr := by
      intro k w hk hw
      have := hA.1 k hk
      rw [← htr]
      unfold cpy53
      rw [if_pos (by omega)]
      exact b3 k w hk hw
    have hT : rpM kd A.2.1 A.2.2.2 (S.1 54) (S.1 55) := b4
    have hcp : ∀ t, t < 40 → tr t = S.1 53 t := fun t ht => by
      rw [← htr]
      unfold cpy53
      rw [if_pos ht]
    have e48 : ∀ tr tt tf fl tx ty, (mF S tr tt tf fl tx ty).1 48 a = d := fun _ _ _ _ _ _ => t1
    have e50 : ∀ tr tt tf fl tx ty k, (mF S tr tt tf fl tx ty).1 50 k = S.1 50 k := fun _ _ _ _ _ _ _ => rfl
    have e56 : ∀ tr tt tf fl tx ty k, (mF S tr tt tf fl tx ty).1 56 k = tr k := fun _ _ _ _ _ _ _ => rfl
    have e25 : ∀ tr tt tf fl tx ty, (mF S tr tt tf fl tx ty).1 36 25 = tt := fun _ _ _ _ _ _ => rfl
    have e27 : ∀ tr tt tf fl tx ty, (mF S tr tt tf fl tx ty).1 36 27 = tf := fun _ _ _ _ _ _ => rfl
    have e28 : ∀ tr tt tf fl tx ty, (mF S tr tt tf fl tx ty).1 36 28 = fl := fun _ _ _ _ _ _ => rfl
    have e20 : ∀ tr tt tf fl tx ty, (mF S tr tt tf fl tx ty).1 36 20 = nI A.1 := fun _ _ _ _ _ _ => b1
    have e22 : ∀ tr tt tf fl tx ty, (mF S tr tt tf fl tx ty).1 36 22 = nI A.2.1 := fun _ _ _ _ _ _ => b2
    unfold F_X8_tries_b30
    dsimp only
    rw [if_pos (by decide), nz_0, nz_1]
    simp only [if_true, mF_sFl, nI_cl (show a < 2 ^ 31 by omega), if_pos (ib_nI (show a < 60 by omega) (by omega)), e48]
    have hf0 : (0 : Int32) = bI false := rfl
    rcases hD with ⟨rfl, hs, hq⟩ | ⟨rfl, hs, hq0, hq1⟩ | ⟨rfl, hs, hq2, hq3⟩ | ⟨rfl, hs, hk⟩ | ⟨rfl, hs⟩
    · -- add
      rw [if_pos rfl, e25, mF_sTt, shl1 (by omega), fa_or]
      unfold f_X8_tries_b86
      refine ok_fx 4 (fun i u => ∃ tr', u = (mF S tr' (nI (A.1 ||| 2 ^ s)) (nI A.2.1) 0 (S.1 54) (S.1 55), nI s, 4 * nI a, nI i) ∧ (∀ k w, w < 4 → tr' (4 * k + w) = if k = s ∧ w < i then q w else tr (4 * k + w))) ?_ ?_ (FU_gt (by omega)) ⟨tr, rfl, fun k w _ => by rw [if_neg (by omega)]⟩
      · rintro i u rec2 hi ⟨tr', rfl, h1⟩ hrec2
        unfold F_X8_tries_b86
        dsimp only
        have i1 : (4 : Int32) * nI a + nI i = nI (4 * a + i) := idx4 a i
        rw [if_neg (le4n hi), i1, idx4, if_pos (ib_nI (show 4 * a + i < 240 by omega) (by omega)), if_pos (ib_nI (show 4 * s + i < 40 by omega) (by omega)), nI_cl (by omega), nI_cl (by omega), e50, mF_sTr, nI_1, t3 rfl i hi]
        refine hrec2 _ ⟨_, rfl, fun k w hw => ?_⟩
        unfold upd
        by_cases e : k = s ∧ w = i
        · rw [if_pos (by omega), if_pos (by omega), e.2]
        · rw [if_neg (by omega)]
          rw [h1 k w hw]
          by_cases e2 : k = s ∧ w < i
          · rw [if_pos e2, if_pos (by omega)]
          · rw [if_neg e2, if_neg (by omega)]
      · rintro u rec2 ⟨tr', rfl, h1⟩
        unfold F_X8_tries_b86
        dsimp only
        rw [if_pos (by decide), hf0]
        have h2 : ∀ k w, (A.1 ||| 2 ^ s).testBit k = true → w < 4 → tr' (4 * k + w) = if k = s then q w else A.2.2.1 k w := by
          intro k w hk hw
          rw [h1 k w hw]
          by_cases e : k = s
          · rw [if_pos ⟨e, by omega⟩, if_pos e]
          · rw [if_neg (fun h => e h.1), if_neg e]
            rw [fb_bit_set, Bool.or_eq_true, decide_eq_true_eq] at hk
            exact hN k w (hk.resolve_right e) hw
        have hR : RGt (A.1 ||| 2 ^ s) tr' := by
          intro k hk
          have hw : ∀ w, w < 2 → rngB (tr' (4 * k + w)) w = true := by
            intro w hw
            rw [h2 k w hk (by omega)]
            by_cases e : k = s
            · rw [if_pos e]; exact hq w (by omega)
            · rw [if_neg e]
              rw [fb_bit_set, Bool.or_eq_true, decide_eq_true_eq] at hk
              exact hA.2.2.2.1 w (by omega) k (hk.resolve_right e)
          exact ⟨hw 0 (by omega), hw 1 (by omega)⟩
        refine mt_fin hM' (fun k hk => ?_) ⟨fun _ _ => ⟨(A.1 ||| 2 ^ s, A.2.1, fun k w => if k = s then q w else A.2.2.1 k w, A.2.2.2), Does0.mpr ⟨rfl, rfl, fun _ _ _ _ => rfl, fun _ _ _ _ _ => rfl⟩, rfl, rfl, h2, hT⟩, fun _ => ⟨rfl, hR⟩, Or.inl ⟨rfl, rfl⟩⟩ (OUM_no (by decide) (by decide)) _
        rw [fb_bit_set, Bool.or_eq_true, decide_eq_true_eq] at hk
        rcases hk with hk | rfl
        · exact hA.1 k hk
        · exact hs
    · -- move
      have hs10 : s < 10 := by omega
      rw [if_neg (by decide), if_neg (by decide), if_neg (by decide), e20, has8 _ (by omega) (by omega), bsm, ifb]
      cases hts : A.1.testBit s with
      | false =>
        rw [if_neg (by decide), show (1 : Int32) = bI true from rfl]
        refine mt_fin hM' hA.1 ⟨fun q => absurd q (by decide), ?_, Or.inl ⟨rfl, rfl⟩⟩ (fun _ k w hk hw _ => hcp _ (by omega)) _
        rintro ⟨A', hA'⟩
        have := (Does1.mp hA').1
        rw [hts] at this
        exact absurd this (by decide)
      | true =>
        obtain ⟨t6, t7⟩ := t4 rfl
        have i0 : ∀ k, (4 : Int32) * nI k = nI (4 * k) := fun k => by rw [show (4 : Int32) = nI 4 from rfl, pk_mul]
        have ho0 : rOk (lkf A.2.1 kd 0) fr to := MC_ok hM' hA.2.1
        have ho1 : rOk (lkf A.2.1 kd 1) fr to := MC_ok hM' hA.2.1
        rw [if_pos rfl, if_pos rfl, e27, show f_X8_partOf (nI s) (0 : Int32) = f_X8_partOf (nI s) (nI 0) from rfl, part8 (MC_F hM') hA.2.1 hs10 (by omega), bsm, i0, i0, if_pos (ib_nI (show 4 * a < 240 by omega) (by omega)), if_pos (ib_nI (show 4 * s < 40 by omega) (by omega)), nI_cl (show 4 * a < 2 ^ 31 by omega), nI_cl (show 4 * s < 2 ^ 31 by omega), e50, e56, t6, show f_X8_shifts (nI (clo (lkf A.2.1 kd 0) fr to s)) (0 : Int32) = f_X8_shifts (nI (clo (lkf A.2.1 kd 0) fr to s)) (nI 0) from rfl, shifts8 hM' (clo_lt ho0 hs10) (by omega), bsm, e27, show f_X8_partOf (nI s) (1 : Int32) = f_X8_partOf (nI s) (nI 1) from rfl, part8 (MC_F hM') hA.2.1 hs10 (by omega), bsm, nI_1, nI_1, if_pos (ib_nI (show 4 * a + 1 < 240 by omega) (by omega)), if_pos (ib_nI (show 4 * s + 1 < 40 by omega) (by omega)), nI_cl (show 4 * a + 1 < 2 ^ 31 by omega), nI_cl (show 4 * s + 1 < 2 ^ 31 by omega), e50, e56, t7, show f_X8_shifts (nI (clo (lkf A.2.1 kd 1) fr to s)) (1 : Int32) = f_X8_shifts (nI (clo (lkf A.2.1 kd 1) fr to s)) (nI 1) from rfl, shifts8 hM' (clo_lt ho1 hs10) (by omega), bsm, hf0]
        have hns : s < ns := hA.1 s hts
        have es0 : tr (4 * s) = A.2.2.1 s 0 := hN s 0 hts (by omega)
        have es1 : shN (clo (lkf A.2.1 kd 0) fr to s) 0 (q 0 - A.2.2.1 s 0) tr ns (4 * s + 1) = A.2.2.1 s 1 := by
          rw [shN_coln hns (by omega) (by omega), if_neg (fun q => absurd q.1 (by decide)), i32_00, hN s 1 hts (by omega)]
        rw [es0, es1]
        have hform : ∀ k w, A.1.testBit k = true → w < 4 → shN (clo (lkf A.2.1 kd 1) fr to s) 1 (q 1 - A.2.2.1 s 1) (shN (clo (lkf A.2.1 kd 0) fr to s) 0 (q 0 - A.2.2.1 s 0) tr ns) ns (4 * k + w) = A.2.2.1 k w + (if w < 2 ∧ (clo (lkf A.2.1 kd w) fr to s).testBit k = true then q w - A.2.2.1 s w else 0) := by
          intro k w hk hw
          have hkn := hA.1 k hk
          rw [shN_coln hkn (by omega) hw, shN_coln hkn (by omega) hw, hN k w hk hw]
          match w, hw with
          | 0, _ => simp [i32_00]
          | 1, _ => simp [i32_00]
          | 2, _ => simp [i32_00]
          | 3, _ => simp [i32_00]
        have hxm : OUM S 1 A (shN (clo (lkf A.2.1 kd 1) fr to s) 1 (q 1 - A.2.2.1 s 1) (shN (clo (lkf A.2.1 kd 0) fr to s) 0 (q 0 - A.2.2.1 s 0) tr ns) ns) := by
          intro _ k w hk hw hno
          have o1 : (clo (lkf A.2.1 kd 1) fr to s).testBit k = false := by
            cases e : (clo (lkf A.2.1 kd 1) fr to s).testBit k with
            | false => rfl
            | true => have := clo_th hAr hts k e; rw [hno] at this; exact absurd this (by decide)
          have o0 : (clo (lkf A.2.1 kd 0) fr to s).testBit k = false := by
            cases e : (clo (lkf A.2.1 kd 0) fr to s).testBit k with
            | false => rfl
            | true => have := clo_th hAr hts k e; rw [hno] at this; exact absurd this (by decide)
          rw [shN_out hw o1, shN_out hw o0, hcp _ (by omega)]
        refine mt_fin hM' hA.1 ⟨fun _ hr => ⟨(A.1, A.2.1, fun k w => shN (clo (lkf A.2.1 kd 1) fr to s) 1 (q 1 - A.2.2.1 s 1) (shN (clo (lkf A.2.1 kd 0) fr to s) 0 (q 0 - A.2.2.1 s 0) tr ns) ns (4 * k + w), A.2.2.2), Does1.mpr ⟨hts, rfl, rfl, fun _ _ _ _ _ => rfl, ⟨fun k hk => (hr k hk).1, fun k hk => (hr k hk).2⟩, hform⟩, rfl, rfl, fun _ _ _ _ => rfl, hT⟩, ?_, Or.inl ⟨rfl, rfl⟩⟩ hxm _
        rintro ⟨A', hA'⟩
        obtain ⟨-, -, -, -, hr2, hn⟩ := Does1.mp hA'
        refine ⟨rfl, fun k hk => ⟨?_, ?_⟩⟩
        · rw [show 4 * k = 4 * k + 0 from rfl, hform k 0 hk (by omega), ← hn k 0 hk (by omega)]
          exact hr2.1 k hk
        · rw [hform k 1 hk (by omega), ← hn k 1 hk (by omega)]
          exact hr2.2 k hk
    · -- resize
      have hs10 : s < 10 := by omega
      rw [if_neg (by decide), if_neg (by decide), if_neg (by decide), e20, has8 _ (by omega) (by omega), bsm, ifb]
      cases hts : A.1.testBit s with
      | false =>
        rw [if_neg (by decide), show (1 : Int32) = bI true from rfl]
        refine mt_fin hM' hA.1 ⟨fun q => absurd q (by decide), ?_, Or.inl ⟨rfl, rfl⟩⟩ (fun _ k w hk hw _ => hcp _ (by omega)) _
        rintro ⟨A', hA'⟩
        have := (Does2.mp hA').1
        rw [hts] at this
        exact absurd this (by decide)
      | true =>
        obtain ⟨t6, t7⟩ := t5 rfl
        have i0 : ∀ k, (4 : Int32) * nI k = nI (4 * k) := fun k => by rw [show (4 : Int32) = nI 4 from rfl, pk_mul]
        rw [if_pos rfl, if_neg (by decide), e27, show f_X8_partOf (nI s) (2 : Int32) = f_X8_partOf (nI s) (nI (0 + 2)) from rfl, part8 (MC_F hM') hA.2.1 hs10 (by omega), bsm, i0, if_pos (ib_nI (show 4 * a < 240 by omega) (by omega)), nI_cl (show 4 * a < 2 ^ 31 by omega), e50, t6, hf0]
        simp only [nI_1, nI_cl (show 4 * a + 1 < 2 ^ 31 by omega)]
        simp only [if_pos (ib_nI (show 4 * a + 1 < 240 by omega) (by omega))]
        refine Ok.bind (msz hM' hW hA (x := 0) (by omega) hts (q 2) hN hT false (nI A.1)) ?_
        rintro r ⟨f1, ch1, rfl, c1, c2, c3, c4⟩
        dsimp only
        rw [e27, show f_X8_partOf (nI s) (3 : Int32) = f_X8_partOf (nI s) (nI (1 + 2)) from rfl, part8 (MC_F hM') hA.2.1 hs10 (by omega), bsm, e50, t7]
        have hgA := clo_th hAr (w := 0 + 2) hts
        have hgB := clo_th hAr (w := 1 + 2) hts
        generalize htr1 : szN (clo (lkf A.2.1 kd (0 + 2)) fr to s) (0 + 2) (q 2) tr ns = tr1
        have hz1 : ∀ k u, A.1.testBit k = true → u < 4 → tr1 (4 * k + u) = if u = 2 ∧ (clo (lkf A.2.1 kd 2) fr to s).testBit k = true then q 2 else A.2.2.1 k u := by
          intro k u hk hu
          rw [← htr1, szN_col (hA.1 k hk) (by omega) hu, hN k u hk hu]
        have hN1 : rpN A.1 (fun k u => if u = 2 ∧ (clo (lkf A.2.1 kd 2) fr to s).testBit k = true then q 2 else A.2.2.1 k u) tr1 := hz1
        refine Ok.bind (msz hM' hW hA (x := 1) (by omega) hts (q 3) hN1 hT f1 (nI A.1)) ?_
        rintro r ⟨f2, ch2, rfl, d1, d2, d3, d4⟩
        dsimp only
        generalize htr2 : szN (clo (lkf A.2.1 kd (1 + 2)) fr to s) (1 + 2) (q 3) tr1 ns = tr2
        have hz2 : ∀ k u, A.1.testBit k = true → u < 4 → tr2 (4 * k + u) = if u = 3 ∧ (clo (lkf A.2.1 kd 3) fr to s).testBit k = true then q 3 else if u = 2 ∧ (clo (lkf A.2.1 kd 2) fr to s).testBit k = true then q 2 else A.2.2.1 k u := by
          intro k u hk hu
          rw [← htr2, szN_col (hA.1 k hk) (by omega) hu, hz1 k u hk hu]
        rw [show f_X8_settles (nI s) (nI ch1) (bI false) = f_X8_settles (nI s) (nI ch1) (nI 0) from rfl]
        refine Ok.bind (settles8 hM' hA.2.1 (w := 0) (by omega) hs10 c1 c2 _ _ _ (nI A.1) f2) ?_
        rintro r ⟨tr3, ok1, rfl, o1, o2⟩
        rw [show f_X8_settles (nI s) (nI ch2) (1 : Int32) = f_X8_settles (nI s) (nI ch2) (nI 1) from rfl]
        refine Ok.bind (settles8 hM' hA.2.1 (w := 1) (by omega) hs10 d1 d2 _ _ _ (nI A.1) (f2 || !ok1)) ?_
        rintro r ⟨tr4, ok2, rfl, p1, p2⟩
        -- the two axes in the board's words
        obtain ⟨g1, g2⟩ := mgr hW hAr (x := 0) (by omega) hgA (fun k hk => by
          rw [hz2 k 2 hk (by omega), if_neg (fun q => absurd q.1 (by decide))]
          by_cases e : (clo (lkf A.2.1 kd 2) fr to s).testBit k = true
          · rw [if_pos ⟨rfl, e⟩, if_pos e]
          · rw [if_neg (fun q => e q.2), if_neg e]) (fun k hk => by rw [hz2 k 0 hk (by omega), if_neg (fun q => absurd q.1 (by decide)), if_neg (fun q => absurd q.1 (by decide))]) hT c3 o2
        have hz3 : ∀ k u, A.1.testBit k = true → u < 4 → u ≠ 0 → tr3 (4 * k + u) = tr2 (4 * k + u) := fun k u hk hu h0 => o1 _ (by omega)
        have hz4 : ∀ k u, A.1.testBit k = true → u < 4 → u ≠ 1 → tr4 (4 * k + u) = tr3 (4 * k + u) := fun k u hk hu h0 => p1 _ (by omega)
        have hNone : ∀ N1 : Nat → Nat → Int32, (∀ k, A.1.testBit k = true → N1 k 1 = A.2.2.1 k 1) → (∀ k, A.1.testBit k = true → N1 k 3 = A.2.2.1 k 3) → (ok2 = true → (∀ k, (clo (lkf A.2.1 kd 3) fr to s).testBit k = true → lb k = true → N1 k 3 = q 3) → ∀ N', (∀ k, A.1.testBit k = true → N' k 1 = col tr4 1 k) → (∀ k, A.1.testBit k = true → N' k 3 = if (clo (lkf A.2.1 kd 3) fr to s).testBit k = true then q 3 else N1 k 3) → (∀ k w, A.1.testBit k = true → w < 4 → w ≠ 1 → w ≠ 1 + 2 → N' k w = N1 k w) → GrA kd fr to lb A.1 A.2.1 A.2.2.2 1 (clo (lkf A.2.1 kd 3) fr to s) s (q 3) N1 N') ∧ (∀ N', GrA kd fr to lb A.1 A.2.1 A.2.2.2 1 (clo (lkf A.2.1 kd 3) fr to s) s (q 3) N1 N' → ok2 = true ∧ ∀ k, A.1.testBit k = true → N' k 1 = col tr4 1 k) := by
          intro N1 h1 h3
          refine mgr hW hAr (x := 1) (by omega) hgB (fun k hk => ?_) (fun k hk => ?_) hT (fun k => ?_) p2
          · rw [hz3 k 3 hk (by omega) (by omega), hz2 k 3 hk (by omega), h3 k hk]
            by_cases e : (clo (lkf A.2.1 kd 3) fr to s).testBit k = true
            · rw [if_pos ⟨rfl, e⟩, if_pos e]
            · rw [if_neg (fun q => e q.2), if_neg e, if_neg (fun q => absurd q.1 (by decide))]
          · rw [hz3 k 1 hk (by omega) (by omega), hz2 k 1 hk (by omega), if_neg (fun q => absurd q.1 (by decide)), if_neg (fun q => absurd q.1 (by decide)), h1 k hk]
          · rw [d3 k]
            cases e : (clo (lkf A.2.1 kd (1 + 2)) fr to s).testBit k with
            | false => rfl
            | true => rw [h3 k (hgB k e), if_neg (fun q => absurd q.1 (by decide))]
        have hN1' : ∀ k, A.1.testBit k = true → (if (3 : Nat) = 2 ∧ (clo (lkf A.2.1 kd 2) fr to s).testBit k = true then q 2 else A.2.2.1 k 3) = A.2.2.1 k 3 := fun k _ => if_neg (fun q => absurd q.1 (by decide))
        have hxr : OUM S 2 A tr4 := by
          intro _ k w hk hw hno
          have hnc : ∀ {v}, (clo (lkf A.2.1 kd v) fr to s).testBit k = false := by
            intro v
            cases e : (clo (lkf A.2.1 kd v) fr to s).testBit k with
            | false => rfl
            | true => have := clo_th hAr hts k e; rw [hno] at this; exact absurd this (by decide)
          have hD : ∀ (v : Nat) (ch : Nat) (ld : Nat), v < 2 → (∀ c, ch.testBit c = true → A.1.testBit c = true) → ¬ Dm (lkf A.2.1 kd v) fr to (fixF (lkf A.2.1 kd v) fr to ld (fun k => ch.testBit k) 10) k := by
            intro v ch ld hv hch q
            rw [fixF_Dm (MC_ok hM' hA.2.1) (MC_lt hM' hA.2.1) (by omega)] at q
            obtain ⟨c, -, q2, q3⟩ := q
            have := clo_th hAr (hch c q2) k q3
            rw [hno] at this
            exact absurd this (by decide)
          have hc1 : ∀ c, ch1.testBit c = true → A.1.testBit c = true := fun c hc => by
            rw [c3 c, Bool.and_eq_true] at hc
            exact hgA c hc.1
          have hc2 : ∀ c, ch2.testBit c = true → A.1.testBit c = true := fun c hc => by
            rw [d3 c, Bool.and_eq_true] at hc
            exact hgB c hc.1
          have e3 : tr3 (4 * k + w) = tr2 (4 * k + w) := by
            by_cases e : w = 0
            · subst e
              exact o2.1 k (hD 0 ch1 s (by omega) hc1)
            · exact o1 _ (by omega)
          have e4 : tr4 (4 * k + w) = tr3 (4 * k + w) := by
            by_cases e : w = 1
            · subst e
              exact p2.1 k (hD 1 ch2 s (by omega) hc2)
            · exact p1 _ (by omega)
          rw [e4, e3, ← htr2, szN_out hw hnc, ← htr1, szN_out hw hnc, hcp _ (by omega)]
        refine mt_fin hM' hA.1 ⟨fun e hr => ?_, ?_, Or.inl ⟨rfl, rfl⟩⟩ hxr _
        · simp only [Bool.or_eq_false_iff, Bool.not_eq_false'] at e
          obtain ⟨⟨e1, e2⟩, e3⟩ := e
          obtain ⟨e4, e5⟩ := d4.mp e1
          obtain ⟨-, e6⟩ := c4.mp e4
          have G0 := g1 e2 e6 (fun k w => if w = 1 ∨ w = 3 then A.2.2.1 k w else tr4 (4 * k + w)) (fun k hk => by
            rw [if_neg (by decide), hz4 k 0 hk (by omega) (by omega)]
            rfl) (fun k hk => by
            rw [if_neg (by decide), hz4 k 2 hk (by omega) (by omega), hz3 k 2 hk (by omega) (by omega), hz2 k 2 hk (by omega), if_neg (fun q => absurd q.1 (by decide))]
            by_cases e : (clo (lkf A.2.1 kd 2) fr to s).testBit k = true
            · rw [if_pos ⟨rfl, e⟩, if_pos e]
            · rw [if_neg (fun q => e q.2), if_neg e]) (fun k w hk hw w1 w2 => by
            rw [if_pos (by omega)])
          have G1 := (hNone (fun k w => if w = 1 ∨ w = 3 then A.2.2.1 k w else tr4 (4 * k + w)) (fun k _ => if_pos (by decide)) (fun k _ => if_pos (by decide))).1 e3 (fun k hk hl => by
            have := e5 k hk hl
            rw [if_neg (fun q => absurd q.1 (by decide))] at this
            rw [if_pos (by decide)]
            exact this) (fun k w => tr4 (4 * k + w)) (fun k _ => rfl) (fun k hk => by
            rw [if_pos (show (3 : Nat) = 1 ∨ (3 : Nat) = 3 from Or.inr rfl), hz4 k 3 hk (by omega) (by omega), hz3 k 3 hk (by omega) (by omega), hz2 k 3 hk (by omega)]
            by_cases e : (clo (lkf A.2.1 kd 3) fr to s).testBit k = true
            · rw [if_pos ⟨rfl, e⟩, if_pos e]
            · rw [if_neg (fun q => e q.2), if_neg e, if_neg (fun q => absurd q.1 (by decide))]) (fun k w hk hw w1 w2 => by
            rw [if_neg (by omega)])
          exact ⟨(A.1, A.2.1, fun k w => tr4 (4 * k + w), A.2.2.2), Does2.mpr ⟨hts, rfl, rfl, fun _ _ _ _ _ => rfl, ⟨fun k hk => (hr k hk).1, fun k hk => (hr k hk).2⟩, _, G0, G1⟩, rfl, rfl, fun _ _ _ _ => rfl, hT⟩
        · rintro ⟨A', hA'⟩
          obtain ⟨-, -, -, -, hr2, N1, G0, G1⟩ := Does2.mp hA'
          obtain ⟨k1, k2⟩ := g2 _ G0
          obtain ⟨k3, k4⟩ := (hNone N1 (fun k hk => G0.2.2.1 k 1 hk (by omega) (by omega) (by omega)) (fun k hk => G0.2.2.1 k 3 hk (by omega) (by omega) (by omega))).2 _ G1
          have f1f := c4.mpr ⟨rfl, G0.1⟩
          have f2f := d4.mpr ⟨f1f, fun k hk hl => by
            rw [if_neg (fun q => absurd q.1 (by decide))]
            have := G1.1 k hk hl
            rw [G0.2.2.1 k 3 (hgB k hk) (by omega) (by omega) (by omega)] at this
            exact this⟩
          refine ⟨by rw [f2f, k1, k3]; rfl, fun k hk => ⟨?_, ?_⟩⟩
          · have : tr4 (4 * k + 0) = A'.2.2.1 k 0 := by
              rw [hz4 k 0 hk (by omega) (by omega), G1.2.2.1 k 0 hk (by omega) (by omega) (by omega), k2 k hk]
              rfl
            rw [show 4 * k = 4 * k + 0 from rfl, this]
            exact hr2.1 k hk
          · have : tr4 (4 * k + 1) = A'.2.2.1 k 1 := (k4 k hk).symm
            rw [this]
            exact hr2.2 k hk
    · -- lay
      obtain ⟨r1, r2, r3, r4, r5⟩ := m6 s hs
      have e43 : ∀ tr tt tf fl tx ty, (mF S tr tt tf fl tx ty).1 43 s = nI (fr s) := fun _ _ _ _ _ _ => r2
      have e44 : ∀ tr tt tf fl tx ty, (mF S tr tt tf fl tx ty).1 44 s = nI (to s) := fun _ _ _ _ _ _ => r3
      rw [if_neg (by decide), if_pos rfl]
      simp only [if_pos (ib_nI (show s < 12 by omega) (by omega)), nI_cl (show s < 2 ^ 31 by omega), e43, e44, e20, has8 _ (show A.1 < 2 ^ 31 by omega) (show fr s < 31 by omega), has8 _ (show A.1 < 2 ^ 31 by omega) (show to s < 31 by omega), bsm, ifb]
      unfold f_X8_tries_b164 f_X8_tries_b169
      rw [nz_0, nz_1]
      simp only [if_true, mF_sFl, e28]
      have hbad : (A.1.testBit (fr s) = true → A.1.testBit (to s) = true → False) → Ok (f_X8_tries_b394 (nI a) (mF S tr (nI A.1) (nI A.2.1) 1 (S.1 54) (S.1 55))) (TRP S kd fr to lb 3 s q A) := by
        intro hno
        rw [show (1 : Int32) = bI true from rfl]
        refine mt_fin hM' hA.1 ⟨fun q => absurd q (by decide), ?_, Or.inl ⟨rfl, rfl⟩⟩ (OUM_no (by decide) (by decide)) _
        rintro ⟨A', hA'⟩
        have := Does3.mp hA'
        exact (hno this.1 this.2.1).elim
      have h10 : ¬ (1 : Int32) = 0 := by decide
      simp only [if_neg h10]
      cases hfa : A.1.testBit (fr s) with
      | false => rw [if_neg (by decide)]; exact hbad (fun q => by rw [hfa] at q; exact absurd q (by decide))
      | true =>
        rw [if_pos rfl]
        cases hfb : A.1.testBit (to s) with
        | false => rw [if_neg (by decide)]; exact hbad (fun _ q => by rw [hfb] at q; exact absurd q (by decide))
        | true =>
          rw [if_pos rfl]
          refine Ok.bind (lays8 hM' hW hA hs (q := q) hk hfa hfb hN hT) ?_
          rintro r ⟨tr', f, tx, ty, rfl, h⟩
          exact mt_fin hM' hA.1 h (OUM_no (by decide) (by decide)) _
    · -- drop
      rw [if_neg (by decide), if_neg (by decide), if_pos rfl, e22, has8 _ (by omega) (by omega), bsm, ifb]
      unfold f_X8_tries_b214
      rw [nz_0, nz_1]
      simp only [if_true, mF_sFl, e27, mF_sTf]
      rw [clr7 (by omega)]
      have hgo : ∀ f, (f = false ↔ A.2.1.testBit s = true) → Ok (f_X8_tries_b394 (nI a) (mF S tr (nI A.1) (nI (clr A.2.1 s)) (bI f) (S.1 54) (S.1 55))) (TRP S kd fr to lb 4 s q A) := by
        intro f hf
        refine mt_fin hM' hA.1 ⟨fun e _ => ⟨(A.1, clr A.2.1 s, A.2.2.1, A.2.2.2), Does4.mpr ⟨hf.mp e, rfl, rfl, fun _ _ _ _ => rfl, fun _ _ _ _ _ => rfl⟩, rfl, rfl, hN, fun j hj h6 => ?_⟩, ?_, Or.inl ⟨rfl, rfl⟩⟩ (OUM_no (by decide) (by decide)) _
        · rw [clr_bit (by omega) (by omega), Bool.and_eq_true] at hj
          exact hT j hj.1 h6
        · rintro ⟨A', hA'⟩
          exact ⟨hf.mpr (Does4.mp hA').1, RGt_AI hA hN⟩
      cases h : A.2.1.testBit s with
      | true => rw [if_pos rfl]; exact hgo false ⟨fun _ => h, fun _ => rfl⟩
      | false => rw [if_neg (by decide)]; exact hgo true ⟨fun q => absurd q (by decide), fun q => by rw [h] at q; exact absurd q (by decide)⟩
  · have : cpy53 S 0 = S.1 56 := by
      funext t
      unfold cpy53
      rw [if_neg (by omega)]
    rw [this]
    rfl
end
