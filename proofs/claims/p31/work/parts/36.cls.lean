/-! the class's loops over a board -/
theorem ifb {α : Type} (b : Bool) (x y : α) : (if bI b = 0 then x else y) = if b = true then y else x := by cases b <;> rfl
theorem le10n {i : Nat} (h : i < 10) : ¬ (10 : Int32) ≤ nI i := by rw [show (10 : Int32) = nI 10 from rfl, nI_leI (by omega) (by omega)]; omega
theorem le12n {i : Nat} (h : i < 12) : ¬ (12 : Int32) ≤ nI i := by rw [show (12 : Int32) = nI 12 from rfl, nI_leI (by omega) (by omega)]; omega
theorem le60n {i : Nat} (h : i < 60) : ¬ (60 : Int32) ≤ nI i := by rw [show (60 : Int32) = nI 60 from rfl, nI_leI (by omega) (by omega)]; omega
theorem le4n {i : Nat} (h : i < 4) : ¬ (4 : Int32) ≤ nI i := by rw [show (4 : Int32) = nI 4 from rfl, nI_leI (by omega) (by omega)]; omega
theorem hasI7 (S : HS) {m i : Nat} (hm : m < 2 ^ 31) (hi : i < 62) : f_X7_has (nI m).toInt64 (nI i) S = some (bI (m.testBit i)) := by rw [nI_toL hm]; exact has7 S (by omega) hi
theorem bsm {α β : Type} (a : α) (f : α → Option β) : (some a).bind f = f a := rfl
theorem ltw2 {w : Nat} (h : w < 4) : (nI w < (2 : Int32)) ↔ w < 2 := by
  match w, h with
  | 0, _ => decide
  | 1, _ => decide
  | 2, _ => decide
  | 3, _ => decide
/-- what a class's board needs of the state around it -/
def HC (S : HS) (b nr : Nat) (kd : Nat → Int32) (fr to : Nat → Nat) (lb : Nat → Bool) (th fo : Nat) : Prop := oc b = some 0 ∧ RC S nr kd fr to ∧ fok fo nr ∧ th < 2 ^ 10 ∧ (∀ k, th.testBit k = true → (S.1 3 k ≤ 0 ↔ lb k = false))
def shN (g w : Nat) (x : Int32) (num : Nat → Int32) (i : Nat) : Nat → Int32 := fun t => if t % 4 = w ∧ t / 4 < i ∧ g.testBit (t / 4) = true then num t + x else num t
def shG (w : Nat) (x : Int32) (lb : Nat → Bool) (num : Nat → Int32) (k : Nat) : Bool := rngB (num (4 * k + w) + x) w && !(decide (2 ≤ w) && lb k && decide (x ≠ 0))
theorem shN_at {g w i : Nat} {x : Int32} {num : Nat → Int32} (hw : w < 4) : shN g w x num i (4 * i + w) = num (4 * i + w) := by
  unfold shN
  rw [if_neg (by omega)]
theorem shN_no {g w i : Nat} {x : Int32} {num : Nat → Int32} (h : g.testBit i = false) : shN g w x num (i + 1) = shN g w x num i := by
  funext t
  unfold shN
  by_cases e : t / 4 = i
  · rw [if_neg (by rw [e, h]; simp), if_neg (by rw [e]; omega)]
  · by_cases h2 : t % 4 = w ∧ t / 4 < i ∧ g.testBit (t / 4) = true
    · rw [if_pos h2, if_pos ⟨h2.1, by omega, h2.2.2⟩]
    · rw [if_neg h2, if_neg (fun q => h2 ⟨q.1, by omega, q.2.2⟩)]
theorem shN_yes {g w i : Nat} {x : Int32} {num : Nat → Int32} (hw : w < 4) (h : g.testBit i = true) : shN g w x num (i + 1) = upd (shN g w x num i) (4 * i + w) (num (4 * i + w) + x) := by
  funext t
  unfold shN upd
  by_cases e : t = 4 * i + w
  · rw [if_pos e, if_pos ⟨by omega, by omega, by rw [e, show (4 * i + w) / 4 = i by omega]; exact h⟩, e]
  · rw [if_neg e]
    dsimp only
    by_cases h2 : t % 4 = w ∧ t / 4 < i ∧ g.testBit (t / 4) = true
    · rw [if_pos h2, if_pos ⟨h2.1, by omega, h2.2.2⟩]
    · rw [if_neg h2, if_neg (fun q => h2 ⟨q.1, by omega, q.2.2⟩)]
theorem shN_0 {g w : Nat} {x : Int32} {num : Nat → Int32} : shN g w x num 0 = num := by
  funext t
  unfold shN
  rw [if_neg (by omega)]
section
variable {S : HS} {b nr : Nat} {kd : Nat → Int32} {fr to : Nat → Nat} {lb : Nat → Bool} {th fo : Nat}
theorem cl_shift (H : HC S b nr kd fr to lb th fo) {g w : Nat} (hgt : sbt g th) (hg : g < 2 ^ 10) (hw : w < 4) (x : Int32) (num tie : Nat → Int32) :
    Ok (f_X0_shiftGroup b (nI g) (nI w) x (wB S b (nI th) (nI fo) num tie)) (fun r => ∃ num' ok, r = (wB S b (nI th) (nI fo) num' tie, bI ok) ∧ (ok = true → num' = shN g w x num 10 ∧ ∀ k, g.testBit k = true → shG w x lb num k = true) ∧ (ok = false → ∃ k, g.testBit k = true ∧ shG w x lb num k = false)) := by
  obtain ⟨hb, hR, hf, ht, hL⟩ := H
  unfold f_X0_shiftGroup f_X0_shiftGroup_b3
  refine ok_fx 10 (fun i v => v = (wB S b (nI th) (nI fo) (shN g w x num i) tie, nI i) ∧ ∀ k, k < i → g.testBit k = true → shG w x lb num k = true) ?_ ?_ (FU_gt (by omega)) ⟨by rw [shN_0]; rfl, fun k hk => absurd hk (by omega)⟩
  · rintro i v rec hi ⟨rfl, hI⟩ hrec
    unfold F_X0_shiftGroup_b3
    dsimp only
    rw [if_neg (le10n hi), hasI7 _ (by omega) (by omega), bsm, ifb]
    unfold f_X0_shiftGroup_b87
    rw [nI_1]
    cases hgi : g.testBit i with
    | false =>
      rw [if_neg (by decide)]
      refine hrec _ ⟨by rw [shN_no hgi], fun k hk hgk => ?_⟩
      rcases Nat.lt_succ_iff_lt_or_eq.mp hk with h | rfl
      · exact hI k h hgk
      · rw [hgi] at hgk; exact absurd hgk (by decide)
    | true =>
      rw [if_pos rfl, num7 hb hi hw, bsm, wB_num, shN_at hw]
      unfold f_X0_shiftGroup_b55 f_X0_shiftGroup_b56 f_X0_shiftGroup_b76 f_X0_shiftGroup_b78 f_X0_shiftGroup_b87
      rw [range7 _ _ hw, bsm, bsm, ifb, ifb, nz_0, nI_1, set7 hb hi hw, bsm, wB_sNum, ← shN_yes hw hgi, letters7 hi, bsm]
      have hl3 : (wB S b (nI th) (nI fo) (shN g w x num i) tie).1 3 i = S.1 3 i := by
        rcases ob_cases hb with rfl | rfl | rfl | rfl <;> rfl
      rw [hl3]
      have hgood : shG w x lb num i = true → Ok (rec (wB S b (nI th) (nI fo) (shN g w x num (i + 1)) tie, nI (i + 1))) (fun r => ∃ num' ok, r = (wB S b (nI th) (nI fo) num' tie, bI ok) ∧ (ok = true → num' = shN g w x num 10 ∧ ∀ k, g.testBit k = true → shG w x lb num k = true) ∧ (ok = false → ∃ k, g.testBit k = true ∧ shG w x lb num k = false)) := fun hq => hrec _ ⟨rfl, fun k hk hgk => by
        rcases Nat.lt_succ_iff_lt_or_eq.mp hk with h | rfl
        · exact hI k h hgk
        · exact hq⟩
      have hbad : shG w x lb num i = false → Ok (if true = true then some (wB S b (nI th) (nI fo) (shN g w x num i) tie, (0 : Int32)) else none) (fun r => ∃ num' ok, r = (wB S b (nI th) (nI fo) num' tie, bI ok) ∧ (ok = true → num' = shN g w x num 10 ∧ ∀ k, g.testBit k = true → shG w x lb num k = true) ∧ (ok = false → ∃ k, g.testBit k = true ∧ shG w x lb num k = false)) := fun hq => ⟨_, if_pos rfl, _, false, rfl, fun q => absurd q (by decide), fun _ => ⟨i, hgi, hq⟩⟩
      have hLi := hL i (hgt i hgi)
      unfold shG at hgood hbad
      by_cases h2 : w < 2
      · rw [if_pos ((ltw2 hw).mpr h2)]
        have h22 : ¬ 2 ≤ w := by omega
        cases hr : rngB (num (4 * i + w) + x) w with
        | true => rw [if_pos rfl, if_pos rfl]; exact hgood (by simp [hr, h22])
        | false => rw [if_neg (by decide)]; exact hbad (by simp [hr])
      · rw [if_neg (fun q => h2 ((ltw2 hw).mp q))]
        have h22 : 2 ≤ w := by omega
        cases hr : rngB (num (4 * i + w) + x) w with
        | false =>
          have := hbad (by simp [hr])
          by_cases h3 : S.1 3 i ≤ 0
          · rw [if_pos h3, if_neg (by decide)]; exact this
          · rw [if_neg h3, if_neg (by decide)]; exact this
        | true =>
          by_cases h3 : S.1 3 i ≤ 0
          · rw [if_pos h3, if_pos rfl, if_pos rfl]; exact hgood (by simp [hr, hLi.mp h3])
          · have hlb : lb i = true := by
              cases e : lb i with
              | true => rfl
              | false => exact absurd (hLi.mpr e) h3
            rw [if_neg h3, if_pos rfl, if_neg (by decide)]
            by_cases h4 : x = 0
            · rw [if_pos h4]; exact hgood (by rw [hr]; simp [h4])
            · rw [if_neg h4]; exact hbad (by simp [h22, hlb, h4])
  · rintro v rec ⟨rfl, hI⟩
    unfold F_X0_shiftGroup_b3
    dsimp only
    rw [if_pos (by decide), nz_1, if_pos rfl]
    refine ⟨_, rfl, _, true, rfl, fun _ => ⟨rfl, fun k hk => hI k (lt10_of hg hk) hk⟩, fun q => absurd q (by decide)⟩
theorem cl_rng (H : HC S b nr kd fr to lb th fo) {w : Nat} (hw : w < 4) (num tie : Nat → Int32) :
    Ok (f_X0_areInRange b (nI w) (wB S b (nI th) (nI fo) num tie)) (fun r => ∃ ok, r = bI ok ∧ (ok = true → ∀ k, th.testBit k = true → rngB (num (4 * k + w)) w = true) ∧ (ok = false → ∃ k, th.testBit k = true ∧ rngB (num (4 * k + w)) w = false)) := by
  obtain ⟨hb, hR, hf, ht, hL⟩ := H
  unfold f_X0_areInRange f_X0_areInRange_b2
  refine ok_fx 10 (fun i v => v = nI i ∧ ∀ k, k < i → th.testBit k = true → rngB (num (4 * k + w)) w = true) ?_ ?_ (FU_gt (by omega)) ⟨rfl, fun k hk => absurd hk (by omega)⟩
  · rintro i v rec hi ⟨rfl, hI⟩ hrec
    unfold F_X0_areInRange_b2 f_X0_areInRange_b35
    dsimp only
    rw [if_neg (le10n hi), wB_th, hasI7 _ (by omega) (by omega), bsm, ifb, nI_1, num7 hb hi hw, bsm, range7 _ _ hw, bsm, ifb, wB_num, nz_0]
    cases hgi : th.testBit i with
    | false =>
      rw [if_neg (by decide)]
      refine hrec _ ⟨rfl, fun k hk hgk => ?_⟩
      rcases Nat.lt_succ_iff_lt_or_eq.mp hk with h | rfl
      · exact hI k h hgk
      · rw [hgi] at hgk; exact absurd hgk (by decide)
    | true =>
      rw [if_pos rfl]
      cases hr : rngB (num (4 * i + w)) w with
      | false => 
        rw [if_neg (by decide), if_pos rfl]
        exact ⟨_, rfl, false, rfl, fun q => absurd q (by decide), fun _ => ⟨i, hgi, hr⟩⟩
      | true =>
        rw [if_pos rfl]
        refine hrec _ ⟨rfl, fun k hk hgk => ?_⟩
        rcases Nat.lt_succ_iff_lt_or_eq.mp hk with h | rfl
        · exact hI k h hgk
        · exact hr
  · rintro v rec ⟨rfl, hI⟩
    unfold F_X0_areInRange_b2
    dsimp only
    rw [if_pos (by decide), nz_1, if_pos rfl]
    exact ⟨_, rfl, true, rfl, fun _ k hk => hI k (lt10_of ht hk) hk, fun q => absurd q (by decide)⟩
end
