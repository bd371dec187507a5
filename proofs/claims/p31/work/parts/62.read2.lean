/-! calls that only ask: rules, parts; the spelled text -/
theorem bitc_S (x : Int32) (S S' : HS) : f_J6_bitCount_0f7a4 x S = f_J6_bitCount_0f7a4 x S' := rfl
theorem bitc_a : ∀ a, a < 64 → ∀ c, c < 64 → f_J6_bitCount_0f7a4 (nI (64 * a + c)) SZ = some (nI (fb_ct (fun i => (64 * a + c).testBit i) 12)) := by decide +kernel
theorem bitc_all (g : Nat) (h : g < 4096) : f_J6_bitCount_0f7a4 (nI g) SZ = some (nI (fb_ct (fun i => g.testBit i) 12)) := by
  have := bitc_a (g / 64) (by omega) (g % 64) (by omega)
  rw [show 64 * (g / 64) + g % 64 = g by omega] at this
  exact this
theorem bitc7 {g : Nat} (S : HS) (h : g < 2 ^ 12) : f_J6_bitCount_0f7a4 (nI g) S = some (nI (fb_ct (fun i => g.testBit i) 12)) := by rw [bitc_S _ S SZ]; exact bitc_all g h
theorem V_out {V n k : Nat} (h : V < 2 ^ n) (hk : n ≤ k) : V.testBit k = false := Nat.testBit_lt_two_pow (Nat.lt_of_lt_of_le h (Nat.pow_le_pow_right (by omega) hk))
/-! whether a rule would hold -/
def fitP (A : AB) (kd : Nat → Int32) (fr to : Nat → Nat) (k : Nat) : Prop := ∀ w, w < 4 → abt (kd k) w = true → A.2.2.1 (to k) w - A.2.2.1 (fr k) w = gpA A.2.2.1 A.2.2.2 kd fr w k
theorem fit_one {A : AB} {kd : Nat → Int32} {fr to : Nat → Nat} {k w0 : Nat} (h : kd k = 0 ∧ w0 = 2 ∨ kd k = 1 ∧ w0 = 3 ∨ (kd k = 2 ∨ kd k = 3) ∧ w0 = 0 ∨ (kd k = 4 ∨ kd k = 5) ∧ w0 = 1) : fitP A kd fr to k ↔ A.2.2.1 (to k) w0 - A.2.2.1 (fr k) w0 = gpA A.2.2.1 A.2.2.2 kd fr w0 k := by
  have hw0 : w0 < 4 := by omega
  constructor
  · intro q
    exact q w0 hw0 (by rw [abt_w h w0 hw0]; simp)
  · intro q w hw ha
    rw [abt_w h w hw] at ha
    have := of_decide_eq_true ha
    subst this
    exact q
theorem fit_tie {A : AB} {kd : Nat → Int32} {fr to : Nat → Nat} {k : Nat} (h : kd k = 6) : fitP A kd fr to k ↔ A.2.2.1 (to k) 0 - A.2.2.1 (fr k) 0 = A.2.2.2 k 0 ∧ A.2.2.1 (to k) 1 - A.2.2.1 (fr k) 1 = A.2.2.2 k 1 := by
  have hg : ∀ w, gpA A.2.2.1 A.2.2.2 kd fr w k = A.2.2.2 k w := by
    intro w
    unfold gpA
    rw [if_neg (by rw [h]; decide), if_pos h]
  unfold fitP
  rw [h]
  constructor
  · intro q
    exact ⟨by rw [← hg]; exact q 0 (by omega) (by decide), by rw [← hg]; exact q 1 (by omega) (by decide)⟩
  · rintro ⟨q0, q1⟩ w hw ha
    rw [hg]
    match w, hw with
    | 0, _ => exact q0
    | 1, _ => exact q1
    | 2, _ => exact absurd ha (by decide)
    | 3, _ => exact absurd ha (by decide)
theorem fits7 {S : HS} {b nr k : Nat} {A : AB} {kd : Nat → Int32} {fr to : Nat → Nat} (hob : oc b = some 0) (hCB : CB S b kd A) (hR : RC S nr kd fr to) (hk : k < nr) (hf : A.1.testBit (fr k) = true) (ht : A.1.testBit (to k) = true) (hti : kd k = 6 → A.2.1.testBit k = true) : Ok (f_X0_fits b (nI k) S) (fun r => ∃ ok, r = bI ok ∧ (ok = true ↔ fitP A kd fr to k)) := by
  have hR' := hR
  obtain ⟨hn, hR⟩ := hR
  obtain ⟨r1, r2, r3, r4, r5⟩ := hR k hk
  unfold f_X0_fits f_X0_fits_b27
  rw [read7 S 7 (by show k < 12; omega) (by decide), bsm, read7 S 8 (by show k < 12; omega) (by decide), bsm, r2, r3]
  refine ok_fx 4 (fun i v => v = (nI (fr k), nI (to k), nI i) ∧ ∀ w, w < i → abt (kd k) w = true → A.2.2.1 (to k) w - A.2.2.1 (fr k) w = gpA A.2.2.1 A.2.2.2 kd fr w k) ?_ ?_ (FU_gt (by omega)) ⟨rfl, fun w hw => absurd hw (by omega)⟩
  · rintro i v rec hi ⟨rfl, hI⟩ hrec
    unfold F_X0_fits_b27 f_X0_fits_b79
    dsimp only
    rw [if_neg (le4n hi), read7 S 6 (by show k < 12; omega) (by decide), bsm, r1, about7 S _ hi, bsm, ifb, nI_1]
    cases ha : abt (kd k) i with
    | false =>
      rw [if_neg (by decide)]
      refine hrec _ ⟨rfl, fun w hw haw => ?_⟩
      rcases Nat.lt_succ_iff_lt_or_eq.mp hw with h | rfl
      · exact hI w h haw
      · rw [ha] at haw; exact absurd haw (by decide)
    | true =>
      have hi2 : i < 2 ∨ (kd k ≠ 2 ∧ kd k ≠ 4 ∧ kd k ≠ 6) := by
        match i, hi with
        | 0, _ => exact Or.inl (by omega)
        | 1, _ => exact Or.inl (by omega)
        | 2, _ =>
          right
          have : kd k = 0 := of_decide_eq_true ha
          rw [this]; decide
        | 3, _ =>
          right
          have : kd k = 1 := of_decide_eq_true ha
          rw [this]; decide
      have hg : gapC (S.1 (b + 1)) (S.1 (b + 2)) kd fr k i = gpA A.2.2.1 A.2.2.2 kd fr i k := by
        unfold gapC gpA
        by_cases e : kd k = 2 ∨ kd k = 4
        · rw [if_pos e, if_pos e]
          have h2 : i < 2 := by
            rcases hi2 with h | ⟨q1, q2, -⟩
            · exact h
            · exact absurd e (fun h => h.elim q1 q2)
          rw [show 4 * fr k + i + 2 = 4 * fr k + (i + 2) by omega]
          exact hCB.2.2.1 _ _ hf (by omega)
        · rw [if_neg e, if_neg e]
          by_cases e6 : kd k = 6
          · rw [if_pos e6, if_pos e6]
            have h2 : i < 2 := by
              rcases hi2 with h | ⟨-, -, q3⟩
              · exact h
              · exact absurd e6 q3
            exact hCB.2.2.2 k i (hti e6) e6 h2
          · rw [if_neg e6, if_neg e6]
      rw [if_pos rfl, num7 hob r5 hi, bsm, num7 hob r4 hi, bsm, gap7 hob hR' hk hi2, bsm, hg, hCB.2.2.1 _ _ hf hi, hCB.2.2.1 _ _ ht hi]
      by_cases e : A.2.2.1 (to k) i - A.2.2.1 (fr k) i = gpA A.2.2.1 A.2.2.2 kd fr i k
      · rw [if_pos e]
        refine hrec _ ⟨rfl, fun w hw haw => ?_⟩
        rcases Nat.lt_succ_iff_lt_or_eq.mp hw with h | rfl
        · exact hI w h haw
        · exact e
      · rw [if_neg e, nz_0, if_pos rfl]
        exact ⟨_, rfl, false, rfl, fun q => absurd q (by decide), fun q => absurd (q i hi ha) e⟩
  · rintro v rec ⟨rfl, hI⟩
    unfold F_X0_fits_b27
    dsimp only
    rw [if_pos (by decide), nz_1, if_pos rfl]
    exact ⟨_, rfl, true, rfl, fun _ w hw ha => hI w hw ha, fun _ => rfl⟩