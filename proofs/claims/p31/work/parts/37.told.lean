/-! the class's two ways to tell places -/
def low (g : Nat) : Nat → Nat → Nat
  | 0, i => i
  | n + 1, i => if g.testBit i = true then i else low g n (i + 1)
theorem ntz_S (x : Int32) (S S' : HS) : f_J6_numberOfTrailingZeros_0f7a4 x S = f_J6_numberOfTrailingZeros_0f7a4 x S' := rfl
def SZ : HS := (fun _ _ => 0, (fun _ _ => 0, fun _ _ => none))
theorem ntz_all : ∀ g, g < 1024 → g ≠ 0 → f_J6_numberOfTrailingZeros_0f7a4 (nI g) SZ = some (nI (low g 10 0)) ∧ g.testBit (low g 10 0) = true ∧ nI g &&& (-(nI g)) = nI (2 ^ low g 10 0) := by decide +kernel
theorem ntz7 {g : Nat} (S : HS) (h : g < 2 ^ 10) (h0 : g ≠ 0) : f_J6_numberOfTrailingZeros_0f7a4 (nI g) S = some (nI (low g 10 0)) := by rw [ntz_S _ S SZ]; exact (ntz_all g h h0).1
theorem low_in {g : Nat} (h : g < 2 ^ 10) (h0 : g ≠ 0) : g.testBit (low g 10 0) = true := (ntz_all g h h0).2.1
theorem low_bit {g : Nat} (h : g < 2 ^ 10) (h0 : g ≠ 0) : nI g &&& (-(nI g)) = nI (2 ^ low g 10 0) := (ntz_all g h h0).2.2
/-- a set without a member -/
def clr (g a : Nat) : Nat := g &&& (2 ^ a ^^^ (2 ^ 32 - 1))
theorem clr7 {g a : Nat} (ha : a < 31) : nI g &&& (((1 : Int32) <<< (nI a &&& 31)) ^^^ (-1 : Int32)) = nI (clr g a) := by
  rw [shl1 ha, show (-1 : Int32) = nI (2 ^ 32 - 1) from by decide, nx_xor, fa_and]
  rfl
theorem clr_bit {g a i : Nat} (hg : g < 2 ^ 31) (ha : a < 31) : (clr g a).testBit i = (g.testBit i && !decide (i = a)) := by
  unfold clr
  rw [Nat.testBit_and, Nat.testBit_xor, Nat.testBit_two_pow, Nat.testBit_two_pow_sub_one]
  by_cases hi : i < 31
  · have : i < 32 := by omega
    simp only [this, decide_true]
    by_cases e : a = i
    · simp [e]
    · have : ¬ i = a := fun q => e q.symm
      simp [e, this]
  · have : g.testBit i = false := Nat.testBit_lt_two_pow (Nat.lt_of_lt_of_le hg (Nat.pow_le_pow_right (by omega) (by omega)))
    rw [this]
    rfl
theorem clr_lt {g a n : Nat} (h : g < 2 ^ n) : clr g a < 2 ^ n := Nat.lt_of_le_of_lt Nat.and_le_left h
theorem crd_add {g c : Nat} (hc : c < 10) (h : g.testBit c = false) : crd (g ||| 2 ^ c) = crd g + 1 := by
  unfold crd
  have h1 : fb_ct (fun i => (g ||| 2 ^ c).testBit i) 10 = fb_ct (fun k => if k = c then true else (fun i => g.testBit i) k) 10 := fb_ct_cong (fun k _ => by
    rw [fb_bit_set]
    by_cases e : k = c
    · simp [e]
    · simp [e])
  have h2 := fb_ct_upd (fun i => g.testBit i) true hc
  rw [h] at h2
  rw [h1]
  simp only [Bool.false_eq_true, if_false, if_true] at h2
  omega
theorem crd_clr {g c : Nat} (hg : g < 2 ^ 10) (hc : c < 10) (h : g.testBit c = true) : crd (clr g c) + 1 = crd g := by
  unfold crd
  have h1 : fb_ct (fun i => (clr g c).testBit i) 10 = fb_ct (fun k => if k = c then false else (fun i => g.testBit i) k) 10 := fb_ct_cong (fun k _ => by
    rw [clr_bit (by omega) (by omega)]
    by_cases e : k = c
    · simp [e]
    · simp [e])
  have h2 := fb_ct_upd (fun i => g.testBit i) false hc
  rw [h] at h2
  rw [h1]
  simp only [Bool.false_eq_true, if_false, if_true] at h2
  omega
theorem crd_pos {g : Nat} (hg : g < 2 ^ 10) (h : g ≠ 0) : 1 ≤ crd g := by
  unfold crd
  rw [Nat.succ_le_iff, fb_ct_pos]
  exact ⟨low g 10 0, lt10_of hg (low_in hg h), low_in hg h⟩
theorem crd_0 {g : Nat} (hg : g < 2 ^ 10) (h : crd g = 0) : g = 0 := by
  rcases Nat.eq_zero_or_pos g with h1 | h1
  · exact h1
  · have := crd_pos hg (by omega); omega
theorem or_in {g a : Nat} (h : g.testBit a = true) : g ||| 2 ^ a = g := by
  apply Nat.eq_of_testBit_eq
  intro i
  rw [fb_bit_set]
  by_cases e : i = a
  · rw [e, h]; rfl
  · simp [e]
def col (num : Nat → Int32) (w k : Nat) : Int32 := num (4 * k + w)
theorem col_upd {num : Nat → Int32} {w c : Nat} {v : Int32} : col (upd num (4 * c + w) v) w = upd (col num w) c v := by
  funext k
  unfold col upd
  by_cases e : k = c
  · rw [if_pos (by omega), if_pos e]
  · rw [if_neg (by omega), if_neg e]
theorem upd_same {f : Nat → Int32} {c : Nat} {v : Int32} (h : f c = v) : upd f c v = f := by
  funext k
  unfold upd
  by_cases e : k = c
  · rw [if_pos e, e, h]
  · rw [if_neg e]
theorem upd_at {f : Nat → Int32} {c : Nat} {v : Int32} : upd f c v c = v := if_pos rfl
theorem upd_ne {f : Nat → Int32} {c k : Nat} {v : Int32} (h : k ≠ c) : upd f c v k = f k := if_neg h
/-- all but one column of the numbers are as they were -/
def offc (w : Nat) (num num' : Nat → Int32) : Prop := ∀ t, t % 4 ≠ w → num' t = num t
theorem offc.set {w c : Nat} {num num' : Nat → Int32} {v : Int32} (hw : w < 4) (h : offc w num num') : offc w num (upd num' (4 * c + w) v) := fun t ht => by rw [upd_ne (by omega)]; exact h t ht
theorem gapC_off {w j : Nat} {num num' tie : Nat → Int32} {kd : Nat → Int32} {fr : Nat → Nat} (hw : w < 2) (h : offc w num num') : gapC num' tie kd fr j w = gapC num tie kd fr j w := by
  unfold gapC
  rw [h (4 * fr j + w + 2) (by omega)]
theorem lkf_lt {S : HS} {fo nr : Nat} {kd : Nat → Int32} {fr to : Nat → Nat} {w : Nat} (hR : RC S nr kd fr to) (hf : fok fo nr) : rLt (lkf fo kd w) := by
  intro k hk
  unfold lkf at hk
  rw [Bool.and_eq_true] at hk
  have := hf k hk.1
  have := hR.1
  omega
theorem lkf_nr {fo nr : Nat} {kd : Nat → Int32} {w k : Nat} (hf : fok fo nr) (hk : lkf fo kd w k = true) : k < nr := by
  unfold lkf at hk
  rw [Bool.and_eq_true] at hk
  exact hf k hk.1
def TP (S : HS) (b : Nat) (th fo : Nat) (num tie : Nat → Int32) (kd : Nat → Int32) (fr to : Nat → Nat) (fx w : Nat) (r : HS × Int32) : Prop := ∃ num' ok, r = (wB S b (nI th) (nI fo) num' tie, bI ok) ∧ offc w num num' ∧ TS (lkf fo kd w) fr to (fun j => gapC num tie kd fr j w) fx (col num w) (col num' w) ok
def gdl (fr to : Nat → Nat) (gp : Nat → Int32) (kn : Nat) (cur : Nat → Int32) (j : Nat) : Prop := kn.testBit (fr j) = true ∧ kn.testBit (to j) = true ∧ cur (to j) = cur (fr j) + gp j
theorem gdl.mono {fr to : Nat → Nat} {gp : Nat → Int32} {kn c : Nat} {cur : Nat → Int32} {j : Nat} {v : Int32} (h : gdl fr to gp kn cur j) (hc : kn.testBit c = false) : gdl fr to gp (kn ||| 2 ^ c) (upd cur c v) j := by
  obtain ⟨h1, h2, h3⟩ := h
  have e1 : fr j ≠ c := fun q => by rw [q, hc] at h1; exact absurd h1 (by decide)
  have e2 : to j ≠ c := fun q => by rw [q, hc] at h2; exact absurd h2 (by decide)
  refine ⟨by rw [fb_bit_set, h1]; rfl, by rw [fb_bit_set, h2]; rfl, ?_⟩
  rw [upd_ne e1, upd_ne e2]
  exact h3
theorem or_ne {kn kn0 c : Nat} (hs : sbt kn0 kn) (hc : kn.testBit c = false) : kn ||| 2 ^ c ≠ kn0 := by
  intro q
  have : kn0.testBit c = true := by rw [← q, fb_bit_set]; simp
  rw [hs c this] at hc
  exact absurd hc (by decide)
section
variable {S : HS} {b nr : Nat} {kd : Nat → Int32} {fr to : Nat → Nat} {lb : Nat → Bool} {th fo : Nat}
theorem cl_rounds (H : HC S b nr kd fr to lb th fo) {fx w : Nat} (hw : w < 2) (hfx : fx < 2 ^ 10) (hne : fx ≠ 0) (num tie : Nat → Int32) :
    Ok (f_X0_tellInRounds b (nI fx) (nI w) (wB S b (nI th) (nI fo) num tie)) (TP S b th fo num tie kd fr to fx w) := by
  obtain ⟨hb, hR, hf, ht, hL⟩ := H
  have ho : rOk (lkf fo kd w) fr to := lkf_ok hR hf
  have hl : rLt (lkf fo kd w) := lkf_lt hR hf
  unfold f_X0_tellInRounds f_X0_tellInRounds_b5
  refine ok_fx 10 (fun i v => ∃ num' kn, v = (wB S b (nI th) (nI fo) num' tie, nI kn, nI i) ∧ offc w num num' ∧ TI (lkf fo kd w) fr to (fun j => gapC num tie kd fr j w) fx (col num w) kn (col num' w) ∧ i + 1 ≤ crd kn) ?_ ?_ (FU_gt (by omega)) ⟨num, fx, rfl, fun _ _ => rfl, TI_init hfx, crd_pos hfx hne⟩
  · rintro i v rec hi ⟨num1, kn1, rfl, hc1, hI1, hn1⟩ hrec
    unfold F_X0_tellInRounds_b5
    dsimp only
    rw [if_neg (le10n hi)]
    unfold f_X0_tellInRounds_b18
    refine ok_fx 12 (fun j v => ∃ num' kn, v = (wB S b (nI th) (nI fo) num' tie, nI kn, nI i, nI kn1, nI j) ∧ offc w num num' ∧ TI (lkf fo kd w) fr to (fun j => gapC num tie kd fr j w) fx (col num w) kn (col num' w) ∧ sbt kn1 kn ∧ (kn = kn1 → ∀ j', j' < j → lkf fo kd w j' = true → (kn.testBit (fr j') = true ∨ kn.testBit (to j') = true) → gdl fr to (fun j => gapC num tie kd fr j w) kn (col num' w) j')) ?_ ?_ (FU_gt (by omega)) ⟨num1, kn1, rfl, hc1, hI1, sbt.rf _, fun _ j' hj' => absurd hj' (by omega)⟩
    · rintro j v rec2 hj ⟨num2, kn2, rfl, hc2, hI2, hs2, hg2⟩ hrec2
      have hR' : RC (wB S b (nI th) (nI fo) num2 tie) nr kd fr to := wB_RC hb hR
      have hkn : kn2 < 2 ^ 10 := hI2.2.1
      unfold F_X0_tellInRounds_b18 f_X0_tellInRounds_b189
      dsimp only
      rw [if_neg (le12n hj), read7 _ 7 (by show j < 12; exact hj) (by decide), bsm, read7 _ 8 (by show j < 12; exact hj) (by decide), bsm, isLink7 wB_fo hR' hf hj (by omega), bsm, ifb, nI_1]
      cases hlk : lkf fo kd w j with
      | false =>
        rw [if_neg (by decide)]
        refine hrec2 _ ⟨num2, kn2, rfl, hc2, hI2, hs2, fun q j' hj' hl' => ?_⟩
        rcases Nat.lt_succ_iff_lt_or_eq.mp hj' with h | rfl
        · exact hg2 q j' h hl'
        · rw [hlk] at hl'; exact absurd hl' (by decide)
      | true =>
        have hjn := lkf_nr hf hlk
        obtain ⟨r1, r2, r3, r4, r5⟩ := hR'.2 j hjn
        rw [if_pos rfl, r2, r3, hasI7 _ (by omega) (by omega), bsm, ifb, hasI7 _ (by omega) (by omega), bsm, ifb]
        have hstep : kn2.testBit (fr j) = true ∨ kn2.testBit (to j) = true → Ok (f_X0_tellInRounds_b86 b (nI fx) (nI w) rec rec2 (wB S b (nI th) (nI fo) num2 tie) (nI kn2) (nI i) (nI kn1) (nI j) (nI (fr j)) (nI (to j))) (TP S b th fo num tie kd fr to fx w) := by
          intro hany
          unfold f_X0_tellInRounds_b86 f_X0_tellInRounds_b177 f_X0_tellInRounds_b189
          have hw4 : w < 4 := by omega
          rw [gap7 hb hR' hjn (Or.inl hw), bsm, wB_num, wB_tie, gapC_off hw hc2, hasI7 _ (by omega) (by omega), bsm, ifb, hasI7 _ (by omega) (by omega), bsm, ifb, shl1 (by omega), shl1 (by omega), fa_or, fa_or, nI_1, nz_0]
          simp only [num7 hb r4 hw4, num7 hb r5 hw4, set7 hb r4 hw4, set7 hb r5 hw4, bsm, wB_num, wB_sNum]
          cases h2 : kn2.testBit (to j) with
          | false =>
            have h1 : kn2.testBit (fr j) = true := by
              rcases hany with h | h
              · exact h
              · rw [h2] at h; exact absurd h (by decide)
            rw [if_neg (by decide), ← Nat.or_assoc, or_in h1]
            refine hrec2 _ ⟨_, _, rfl, hc2.set (by omega), by rw [col_upd]; exact TI_fwd ho hl hfx hI2 hlk h1 h2, fun c hc => by rw [fb_bit_set, hs2 c hc]; rfl, fun q => absurd q (or_ne hs2 h2)⟩
          | true =>
            rw [if_pos rfl]
            cases h1 : kn2.testBit (fr j) with
            | false =>
              rw [if_neg (by decide), Nat.or_comm (2 ^ fr j), ← Nat.or_assoc, or_in h2]
              refine hrec2 _ ⟨_, _, rfl, hc2.set (by omega), by rw [col_upd]; exact TI_bwd ho hl hfx hI2 hlk h2 h1, fun c hc => by rw [fb_bit_set, hs2 c hc]; rfl, fun q => absurd q (or_ne hs2 h1)⟩
            | true =>
              rw [if_pos rfl, ← Nat.or_assoc, or_in h1, or_in h2]
              by_cases h3 : num2 (4 * to j + w) - num2 (4 * fr j + w) = gapC num tie kd fr j w
              · rw [if_pos h3]
                refine hrec2 _ ⟨num2, kn2, rfl, hc2, hI2, hs2, fun q j' hj' hl' => ?_⟩
                rcases Nat.lt_succ_iff_lt_or_eq.mp hj' with h | rfl
                · exact hg2 q j' h hl'
                · exact fun _ => ⟨h1, h2, i32_sub'.mp h3⟩
              · rw [if_neg h3, if_pos trivial]
                exact ⟨_, rfl, num2, false, rfl, hc2, TI_bad hI2 hlk h1 h2 (fun q => h3 (i32_sub'.mpr q))⟩
        cases h1 : kn2.testBit (fr j) with
        | true =>
          rw [if_pos rfl]
          exact hstep (Or.inl h1)
        | false =>
          rw [if_neg (by decide)]
          cases h2 : kn2.testBit (to j) with
          | true =>
            rw [if_pos rfl]
            exact hstep (Or.inr h2)
          | false =>
            rw [if_neg (by decide)]
            refine hrec2 _ ⟨num2, kn2, rfl, hc2, hI2, hs2, fun q j' hj' hl' => ?_⟩
            rcases Nat.lt_succ_iff_lt_or_eq.mp hj' with h | rfl
            · exact hg2 q j' h hl'
            · rintro (h | h)
              · rw [h1] at h; exact absurd h (by decide)
              · rw [h2] at h; exact absurd h (by decide)
    · rintro v rec2 ⟨num2, kn2, rfl, hc2, hI2, hs2, hg2⟩
      have hkn : kn2 < 2 ^ 10 := hI2.2.1
      have hkn1 : kn1 < 2 ^ 10 := hI1.2.1
      unfold F_X0_tellInRounds_b18 f_X0_tellInRounds_b210
      dsimp only
      rw [if_pos (by decide), nI_1, nz_1, if_pos rfl]
      by_cases e : kn2 = kn1
      · rw [if_pos (by rw [e])]
        have hg := hg2 e
        refine ⟨_, rfl, num2, true, rfl, hc2, TI_good hI2 (fun j hj => ?_) (fun j hj h => (hg j (hl j hj) hj (Or.inl h)).2.2)⟩
        exact ⟨fun h => (hg j (hl j hj) hj (Or.inl h)).2.1, fun h => (hg j (hl j hj) hj (Or.inr h)).1⟩
      · rw [if_neg (fun q => e ((nI_eq (by omega) (by omega)).mp q))]
        refine hrec _ ⟨num2, kn2, rfl, hc2, hI2, ?_⟩
        rcases Nat.lt_or_ge (crd kn1) (crd kn2) with h | h
        · omega
        · exact absurd (crd_eq hs2 hkn1 hkn h).symm e
  · rintro v rec ⟨num1, kn1, rfl, hc1, hI1, hn1⟩
    have := crd_le kn1
    omega
end
