/-! the closure as the class and the model find it -/
theorem ok_eq {α : Type} {x : Option α} {a : α} (h : Ok x (fun r => r = a)) : x = some a := by
  obtain ⟨r, h1, h2⟩ := h
  rw [h1, h2]
def RC (S : HS) (nr : Nat) (kd : Nat → Int32) (fr to : Nat → Nat) : Prop := nr ≤ 12 ∧ ∀ k, k < nr → S.1 6 k = kd k ∧ S.1 7 k = nI (fr k) ∧ S.1 8 k = nI (to k) ∧ fr k < 10 ∧ to k < 10
def fok (fo nr : Nat) : Prop := ∀ k, fo.testBit k = true → k < nr
def lkf (fo : Nat) (kd : Nat → Int32) (w k : Nat) : Bool := fo.testBit k && abt (kd k) w
theorem fok_lt {fo nr : Nat} (h : fok fo nr) (hn : nr ≤ 12) : fo < 2 ^ 12 := by
  apply Nat.lt_pow_two_of_testBit
  intro i hi
  cases h1 : fo.testBit i with
  | false => rfl
  | true => exact absurd (h i h1) (by omega)
theorem lkf_ok {S : HS} {fo nr : Nat} {kd : Nat → Int32} {fr to : Nat → Nat} {w : Nat} (hR : RC S nr kd fr to) (hf : fok fo nr) : rOk (lkf fo kd w) fr to := by
  intro k hk
  unfold lkf at hk
  rw [Bool.and_eq_true] at hk
  obtain ⟨-, -, -, h4, h5⟩ := hR.2 k (hf k hk.1)
  exact ⟨h4, h5⟩
theorem isLink7 {S : HS} {b fo nr k w : Nat} {kd : Nat → Int32} {fr to : Nat → Nat} (hb : S.1 b 6 = nI fo) (hR : RC S nr kd fr to) (hf : fok fo nr) (hk : k < 12) (hw : w < 4) : f_X0_isLink b (nI k) (nI w) S = some (bI (lkf fo kd w k)) := by
  have hfo := fok_lt hf hR.1
  unfold f_X0_isLink f_X0_isLink_b34 f_X0_isLink_b35
  rw [hb, nI_toL (by omega), has7 S (by omega) (by omega)]
  dsimp only [Option.bind]
  unfold lkf
  cases h : fo.testBit k with
  | false => simp [bI, nz_0]
  | true =>
    rw [if_neg (by decide), read7 S 6 (by show k < 12; exact hk) (by decide)]
    dsimp only
    rw [(hR.2 k (hf k h)).1, about7 S _ hw]
    dsimp only
    cases abt (kd k) w <;> simp [bI, nz_0, nz_1]
theorem grp_step {S : HS} {b fo nr i w g : Nat} {kd : Nat → Int32} {fr to : Nat → Nat} (hb : S.1 b 6 = nI fo) (hR : RC S nr kd fr to) (hf : fok fo nr) (hi : i < 12) (hw : w < 4) (hg : g < 2 ^ 10) (c : Int32 → Option Int32) :
    ((f_X7_read 7 (nI i) S).bind fun o37 => (f_X7_read 8 (nI i) S).bind fun o51 => if (nI g &&& (((1 : Int32) <<< (o37 &&& 31)) ||| ((1 : Int32) <<< (o51 &&& 31)))) = 0 then c (nI g) else (f_X0_isLink b (nI i) (nI w) S).bind fun o69 => if o69 = 0 then c (nI g) else c (nI g ||| (((1 : Int32) <<< (o37 &&& 31)) ||| ((1 : Int32) <<< (o51 &&& 31))))) = c (nI (rStep (lkf fo kd w) fr to i g)) := by
  rw [read7 S 7 (by show i < 12; exact hi) (by decide), read7 S 8 (by show i < 12; exact hi) (by decide), isLink7 hb hR hf hi hw]
  dsimp only [Option.bind]
  cases h : lkf fo kd w i with
  | false =>
    have e : rStep (lkf fo kd w) fr to i g = g := by
      unfold rStep
      rw [if_neg (fun q => by rw [h] at q; cases q.1)]
    rw [e]
    by_cases h2 : (nI g &&& (((1 : Int32) <<< (S.1 7 i &&& 31)) ||| ((1 : Int32) <<< (S.1 8 i &&& 31)))) = 0
    · rw [if_pos h2]
    · rw [if_neg h2, if_pos (by decide)]
  | true =>
    have h9 := h
    unfold lkf at h9
    rw [Bool.and_eq_true] at h9
    obtain ⟨-, h2, h3, h4, h5⟩ := hR.2 i (hf i h9.1)
    have p1 : 2 ^ fr i < 2 ^ 10 := pow_lt10 h4
    have p2 : 2 ^ to i < 2 ^ 10 := pow_lt10 h5
    rw [h2, h3, shl1 (by omega), shl1 (by omega), fa_or, fa_and]
    have p3 : g &&& (2 ^ fr i ||| 2 ^ to i) < 2 ^ 10 := Nat.lt_of_le_of_lt Nat.and_le_left hg
    by_cases h6 : g.testBit (fr i) = true ∨ g.testBit (to i) = true
    · have e : rStep (lkf fo kd w) fr to i g = g ||| (2 ^ fr i ||| 2 ^ to i) := by
        unfold rStep
        rw [if_pos ⟨h, h6⟩]
      rw [e, if_neg (by rw [nI_0iff (by omega), and_ends]; exact fun q => q h6), if_neg (by decide), fa_or]
    · have e : rStep (lkf fo kd w) fr to i g = g := by
        unfold rStep
        rw [if_neg (fun q => h6 q.2)]
      rw [e, if_pos (by rw [nI_0iff (by omega), and_ends]; exact h6)]
theorem group7 {S : HS} {b fo nr s w : Nat} {kd : Nat → Int32} {fr to : Nat → Nat} (hb : S.1 b 6 = nI fo) (hR : RC S nr kd fr to) (hf : fok fo nr) (hs : s < 10) (hw : w < 4) : f_X0_groupOf b (nI s) (nI w) S = some (nI (clo (lkf fo kd w) fr to s)) := by
  have ho : rOk (lkf fo kd w) fr to := lkf_ok hR hf
  apply ok_eq
  unfold f_X0_groupOf f_X0_groupOf_b7
  rw [shl1 (by omega)]
  refine ok_fx 10 (fun j v => v = (nI (rIter (lkf fo kd w) fr to 12 j (2 ^ s)), nI j)) ?_ ?_ (FU_gt (by omega)) rfl
  · rintro j v rec hj rfl hrec
    show Ok (F_X0_groupOf_b7 b (nI s) (nI w) S rec (_, _)) _
    unfold F_X0_groupOf_b7
    dsimp only
    rw [if_neg (by rw [show (10 : Int32) = nI 10 from rfl, nI_leI (by omega) (by omega)]; omega)]
    generalize hg : rIter (lkf fo kd w) fr to 12 j (2 ^ s) = g
    have hg10 : g < 2 ^ 10 := by rw [← hg]; exact rIter_lt ho 12 j (pow_lt10 hs)
    have hin : f_X0_groupOf_b20 b (nI s) (nI w) rec S (nI g) (nI j) (nI g) 0 = if nI (rPass (lkf fo kd w) fr to 12 g) = nI g then f_X0_groupOf_b101 b (nI s) (nI w) S (nI (rPass (lkf fo kd w) fr to 12 g)) else rec (nI (rPass (lkf fo kd w) fr to 12 g), nI j + 1) := by
      unfold f_X0_groupOf_b20
      refine fx_run 12 (fun i => (nI (rPass (lkf fo kd w) fr to i g), nI j, nI g, nI i)) ?_ ?_ (FU_gt (by omega)) rfl
      · intro i rec2 hi
        unfold F_X0_groupOf_b20
        dsimp only
        rw [if_neg (by rw [show (12 : Int32) = nI 12 from rfl, nI_leI (by omega) (by omega)]; omega)]
        unfold f_X0_groupOf_b80
        rw [show (1 : Int32) = nI 1 from rfl, nI_add]
        exact grp_step hb hR hf hi hw (rPass_lt ho i hg10) (fun x => rec2 (x, nI j, nI g, nI (i + 1)))
      · intro rec2
        unfold F_X0_groupOf_b20
        dsimp only
        rw [if_pos (by decide)]
    rw [hin]
    have p1 := rPass_lt ho 12 hg10
    by_cases e : rPass (lkf fo kd w) fr to 12 g = g
    · rw [if_pos (by rw [e]), e]
      refine ⟨nI g, rfl, ?_⟩
      rw [← hg, clo_of_fix ho hs (by rw [hg]; exact e)]
    · rw [if_neg (fun q => e ((nI_eq (by omega) (by omega)).mp q)), nI_1]
      refine hrec _ ?_
      show _ = (nI (rPass (lkf fo kd w) fr to 12 (rIter (lkf fo kd w) fr to 12 j (2 ^ s))), nI (j + 1))
      rw [hg]
  · rintro v rec rfl
    unfold F_X0_groupOf_b7
    dsimp only
    rw [if_pos (by decide)]
    exact ⟨_, rfl, rfl⟩
