/-! the class drafts an act, and does it -/
theorem put7n (S : HS) (a : Nat) {i : Nat} (v : Int32) (hi : alen a ≤ i) (h31 : i < 2 ^ 31) : f_X7_put a (nI i) v S = some S := by
  unfold f_X7_put f_X7_put_b14
  rw [if_neg (nI_pos h31), if_pos (show Int32.ofNat (alen a) ≤ nI i from (nI_leI (by omega) h31).mpr hi)]
/-- what a draft of an act leaves alone -/
def DF (S S' : HS) (na : Nat) : Prop := (∀ x, x ≠ 10 → x ≠ 11 → x ≠ 12 → S'.1 x = S.1 x) ∧ (∀ a, a < na → S'.1 10 a = S.1 10 a ∧ S'.1 11 a = S.1 11 a ∧ ∀ w, w < 4 → S'.1 12 (4 * a + w) = S.1 12 (4 * a + w)) ∧ S'.2 = S.2
theorem draft6 {S : HS} {na : Nat} (h9 : S.1 9 0 = nI na) (hna : na ≤ 60) (d : Int32) (s : Nat) (q : Nat → Int32) : Ok (f_X6_draft d (nI s) (q 0) (q 1) (q 2) (q 3) S) (fun S' => DF S S' na ∧ (na < 60 → TA S' na d s q)) := by
  unfold f_X6_draft
  rcases Nat.lt_or_ge na 60 with h | h
  · have r0 : ∀ {U : HS} {k : Nat} {v : Int32}, (sI U 10 k v).1 9 0 = U.1 9 0 := fun {U k v} => by rw [sI_o (by omega)]
    have r1 : ∀ {U : HS} {k : Nat} {v : Int32}, (sI U 11 k v).1 9 0 = U.1 9 0 := fun {U k v} => by rw [sI_o (by omega)]
    have r2 : ∀ {U : HS} {k : Nat} {v : Int32}, (sI U 12 k v).1 9 0 = U.1 9 0 := fun {U k v} => by rw [sI_o (by omega)]
    have z0 : nI na * (4 : Int32) + 0 = nI (4 * na + 0) := nI_4 na 0
    have z1 : nI na * (4 : Int32) + 1 = nI (4 * na + 1) := nI_4 na 1
    have z2 : nI na * (4 : Int32) + 2 = nI (4 * na + 2) := nI_4 na 2
    have z3 : nI na * (4 : Int32) + 3 = nI (4 * na + 3) := nI_4 na 3
    have p10 : ∀ {U : HS} {v : Int32}, f_X7_put 10 (nI na) v U = some (sI U 10 na v) := fun {U v} => put7 U 10 v (show na < 60 from h) (by decide)
    have p11 : ∀ {U : HS} {v : Int32}, f_X7_put 11 (nI na) v U = some (sI U 11 na v) := fun {U v} => put7 U 11 v (show na < 60 from h) (by decide)
    have p12 : ∀ {U : HS} {v : Int32} {w : Nat}, w < 4 → f_X7_put 12 (nI (4 * na + w)) v U = some (sI U 12 (4 * na + w) v) := fun {U v w} hw => put7 U 12 v (show 4 * na + w < 240 by omega) (by decide)
    simp only [h9, p10, p11, r0, r1, r2, z0, z1, z2, z3, bsm, p12 (show 0 < 4 by omega), p12 (show 1 < 4 by omega), p12 (show 2 < 4 by omega), p12 (show 3 < 4 by omega)]
    refine ⟨_, rfl, ⟨fun x a b c => ?_, fun a ha => ⟨?_, ?_, fun w hw => ?_⟩, rfl⟩, fun _ => ⟨?_, ?_, fun w hw => ?_⟩⟩
    · rw [sI_o c, sI_o c, sI_o c, sI_o c, sI_o b, sI_o a]
    · rw [sI_o (by omega), sI_o (by omega), sI_o (by omega), sI_o (by omega), sI_o (by omega), sI_k (by omega)]
    · rw [sI_o (by omega), sI_o (by omega), sI_o (by omega), sI_o (by omega), sI_k (by omega), sI_o (by omega)]
    · rw [sI_k (by omega), sI_k (by omega), sI_k (by omega), sI_k (by omega), sI_o (by omega), sI_o (by omega)]
    · rw [sI_o (by omega), sI_o (by omega), sI_o (by omega), sI_o (by omega), sI_o (by omega), sI_at]
    · rw [sI_o (by omega), sI_o (by omega), sI_o (by omega), sI_o (by omega), sI_at]
    · match w, hw with
      | 0, _ => rw [sI_k (by omega), sI_k (by omega), sI_k (by omega), sI_at]
      | 1, _ => rw [sI_k (by omega), sI_k (by omega), sI_at]
      | 2, _ => rw [sI_k (by omega), sI_at]
      | 3, _ => rw [sI_at]
  · have e : na = 60 := by omega
    subst e
    have z0 : nI 60 * (4 : Int32) + 0 = nI (4 * 60 + 0) := nI_4 60 0
    have z1 : nI 60 * (4 : Int32) + 1 = nI (4 * 60 + 1) := nI_4 60 1
    have z2 : nI 60 * (4 : Int32) + 2 = nI (4 * 60 + 2) := nI_4 60 2
    have z3 : nI 60 * (4 : Int32) + 3 = nI (4 * 60 + 3) := nI_4 60 3
    have p10 : ∀ {v : Int32}, f_X7_put 10 (nI 60) v S = some S := fun {v} => put7n S 10 v (show 60 ≤ 60 by omega) (by decide)
    have p11 : ∀ {v : Int32}, f_X7_put 11 (nI 60) v S = some S := fun {v} => put7n S 11 v (show 60 ≤ 60 by omega) (by decide)
    have p12 : ∀ {v : Int32} {w : Nat}, w < 4 → f_X7_put 12 (nI (4 * 60 + w)) v S = some S := fun {v w} hw => put7n S 12 v (show 240 ≤ 4 * 60 + w by omega) (by omega)
    rw [h9, p10, bsm, h9, p11, bsm, h9, z0, p12 (by omega), bsm, h9, z1, p12 (by omega), bsm, h9, z2, p12 (by omega), bsm, h9, z3, p12 (by omega), bsm]
    exact ⟨_, rfl, ⟨fun _ _ _ _ => rfl, fun _ _ => ⟨rfl, rfl, fun _ _ => rfl⟩, rfl⟩, fun q => absurd q (by omega)⟩
theorem DF_TA {S S' : HS} {na a : Nat} {d : Int32} {s : Nat} {q : Nat → Int32} (h : DF S S' na) (ha : a < na) (hT : TA S a d s q) : TA S' a d s q := by
  obtain ⟨h1, h2, h3⟩ := h.2.1 a ha
  unfold TA at hT ⊢
  rw [h1, h2]
  exact ⟨hT.1, hT.2.1, fun w hw => by rw [h3 w hw]; exact hT.2.2 w hw⟩
section
variable {S : HS} {na nr ns b b' : Nat} {kd : Nat → Int32} {fr to : Nat → Nat} {lb : Nat → Bool} {A : AB} {dr ab st : Nat → Nat} {d : Int32} {s : Nat} {q : Nat → Int32}
/-- what a done act leaves in the class -/
def HGF (S S' : HS) (na w : Nat) (dr ab st : Nat → Nat) : Prop := (∀ x, x < 18 ∨ 24 ≤ x → x ≠ 9 → x ≠ 13 → x ≠ 14 → x ≠ 15 → S'.1 x = S.1 x) ∧ CT S' (na + 1) (exF dr na w) (exF ab na (st w)) (stA st w (na + 1)) ∧ (∀ x, x ≠ 16 → S'.2.2 x = S.2.2 x) ∧ S'.2.1 = S.2.1
theorem hang7 {S : HS} (hC : CT S na dr ab st) (gT : TWF na dr ab st) (hna : na < 60) {w : Nat} (hw : w < 4) : Ok (f_X6_hang (nI w) S) (fun S' => (∀ x, x ≠ 9 → x ≠ 13 → x ≠ 14 → x ≠ 15 → S'.1 x = S.1 x) ∧ CT S' (na + 1) (exF dr na w) (exF ab na (st w)) (stA st w (na + 1)) ∧ S'.2 = S.2) := by
  obtain ⟨k1, k2, k3⟩ := hC
  have p13 : f_X7_put 13 (nI na) (nI w) S = some (sI S 13 na (nI w)) := put7 S 13 _ (show na < 60 from hna) (by decide)
  have hst : f_X6_standOf (nI w) (sI S 13 na (nI w)) = some (cI (st w)) := by
    rw [stand7 _ hw, sI_o (by omega), k3 w hw]
  have e1 : (sI S 13 na (nI w)).1 9 0 = nI na := by rw [sI_o (by omega)]; exact k1
  have p14 : f_X7_put 14 (nI na) (cI (st w)) (sI S 13 na (nI w)) = some (sI (sI S 13 na (nI w)) 14 na (cI (st w))) := put7 _ 14 _ (show na < 60 from hna) (by decide)
  have e2 : (sI (sI S 13 na (nI w)) 14 na (cI (st w))).1 9 0 = nI na := by rw [sI_o (by omega)]; exact e1
  have p15 : f_X7_put 15 (nI w) (nI na) (sI (sI S 13 na (nI w)) 14 na (cI (st w))) = some (sI (sI (sI S 13 na (nI w)) 14 na (cI (st w))) 15 w (nI na)) := put7 _ 15 _ (show w < 4 from hw) (by decide)
  have e3 : (sI (sI (sI S 13 na (nI w)) 14 na (cI (st w))) 15 w (nI na)).1 9 0 = nI na := by rw [sI_o (by omega)]; exact e2
  unfold f_X6_hang
  rw [k1, p13, bsm, hst, bsm, e1, p14, bsm, e2, p15, bsm, e3, nI_1]
  refine ⟨_, rfl, fun x h1 h2 h3 h4 => ?_, ⟨sI_at, fun k hk => ⟨?_, ?_⟩, fun x hx => ?_⟩, rfl⟩
  · rw [sI_o h1, sI_o h4, sI_o h3, sI_o h2]
  · rw [sI_o (by omega), sI_o (by omega), sI_o (by omega)]
    by_cases e : k = na
    · rw [e, sI_at, exF_at]
    · rw [sI_k e, exF_ne e]; exact (k2 k (by omega)).1
  · rw [sI_o (by omega), sI_o (by omega)]
    by_cases e : k = na
    · rw [e, sI_at, exF_at]
    · rw [sI_k e, exF_ne e, sI_o (by omega)]; exact (k2 k (by omega)).2
  · rw [sI_o (by omega)]
    unfold stA
    by_cases e : x = w
    · rw [e, sI_at, if_pos rfl]; rfl
    · rw [sI_k e, if_neg e, sI_o (by omega), sI_o (by omega)]; exact k3 x hx
/-- the drafted act is done, or nothing is -/
theorem do7 {S : HS} (hC : CT S na dr ab st) (gT : TWF na dr ab st) (hTA : na < 60 → TA S na d s q) (hR : RC S nr kd fr to) (hL : ∀ k, k < ns → (S.1 3 k ≤ 0 ↔ lb k = false)) (hW : RW nr ns kd fr to) (hA : AI kd fr to lb ns nr A) (hB : RB S 16 18 b b') (hCB : CB S b kd A) (hD : DW nr ns kd d s q) {w : Nat} (hw : w < 4) :
    (na = 60 ∧ f_X7_doDraft (nI w) S = some (S, (3, 0))) ∨ (na < 60 ∧ stp kd fr to lb d s q A = none ∧ Ok (f_X7_doDraft (nI w) S) (fun r => r.2 = (3, 0) ∧ FRc 16 18 S r.1 ∧ r.1.2.1 = S.2.1 ∧ RB r.1 16 18 b b' ∧ CB r.1 b kd A)) ∨ (na < 60 ∧ ∃ B, stp kd fr to lb d s q A = some B ∧ Ok (f_X7_doDraft (nI w) S) (fun r => r.2 = (0, 0) ∧ HGF S r.1 na w dr ab st ∧ RB r.1 16 18 b' b ∧ CB r.1 b' kd B ∧ CB r.1 b kd A)) := by
  have hna := gT.1
  have h9 := hC.1
  rcases Nat.lt_or_ge na 60 with h | h
  · right
    have hU : f_X7_doDraft (nI w) S = (f_X3_tryAct 16 (nI na) S).bind (fun o23 => if o23.2 = 0 then f_X7_doDraft_b29 (nI w) o23.1 else (f_X6_hang (nI w) o23.1).bind (fun o45 => some (o45, ((0 : Nat), (0 : Int32))))) := by
      unfold f_X7_doDraft
      rw [h9, if_neg (le60n h)]
    obtain ⟨r, hr, ok, e2, f1, f2, k1, k2⟩ := c_try2 (Or.inl ⟨rfl, rfl⟩) hB hR hL hW hA hCB h (hTA h) hD
    cases ok with
    | false =>
      left
      obtain ⟨a1, a2, a3⟩ := k2 rfl
      refine ⟨h, a1, ?_⟩
      rw [hU, hr, bsm, e2, if_pos (show bI false = 0 from rfl)]
      exact ⟨_, rfl, rfl, f1, f2, a2, a3⟩
    | true =>
      right
      obtain ⟨B, a1, a2, a3, a4⟩ := k1 rfl
      refine ⟨h, B, a1, ?_⟩
      have hC' : CT r.1 na dr ab st := CT_fr (fun x p p2 => f1.1 x (by omega)) hC
      obtain ⟨S', hS', g1, g2, g3⟩ := hang7 hC' gT h hw
      rw [hU, hr, bsm, e2, if_neg (by decide), hS', bsm]
      have hbo := a2.2.2
      refine ⟨_, rfl, rfl, ⟨fun x h1 h2 h3 h4 h5 => ?_, g2, fun x hx => ?_, ?_⟩, RB_fr (by rw [g3]) a2, CB_fr (lo := 18) (by omega) (fun x p p2 => g1 x (by omega) (by omega) (by omega) (by omega)) a3, CB_fr (lo := 18) (by omega) (fun x p p2 => g1 x (by omega) (by omega) (by omega) (by omega)) a4⟩
      · rw [g1 x h2 h3 h4 h5, f1.1 x (by omega)]
      · rw [g3, (f1.2 x hx).1]
      · rw [g3, f2]
  · left
    have e : na = 60 := by omega
    refine ⟨e, ?_⟩
    unfold f_X7_doDraft f_X7_doDraft_b29
    rw [h9, e, if_pos (by decide)]
end
/-! how many shapes have other numbers -/
def dfA (A B : AB) (k : Nat) : Bool := !(decide (A.2.2.1 k 0 = B.2.2.1 k 0) && decide (A.2.2.1 k 1 = B.2.2.1 k 1) && decide (A.2.2.1 k 2 = B.2.2.1 k 2) && decide (A.2.2.1 k 3 = B.2.2.1 k 3))
theorem dfA_iff {A B : AB} {k : Nat} : dfA A B k = false ↔ ∀ w, w < 4 → A.2.2.1 k w = B.2.2.1 k w := by
  unfold dfA
  simp only [Bool.not_eq_false', Bool.and_eq_true, decide_eq_true_eq]
  constructor
  · rintro ⟨⟨⟨h0, h1⟩, h2⟩, h3⟩ w hw
    match w, hw with
    | 0, _ => exact h0
    | 1, _ => exact h1
    | 2, _ => exact h2
    | 3, _ => exact h3
  · intro h
    exact ⟨⟨⟨h 0 (by omega), h 1 (by omega)⟩, h 2 (by omega)⟩, h 3 (by omega)⟩
theorem differs7 {S : HS} {b b' k : Nat} {A B : AB} {kd : Nat → Int32} (hb : oc b = some 0) (hb' : oc b' = some 0) (hC : CB S b kd A) (hC' : CB S b' kd B) (hk : k < 10) (ha : A.1.testBit k = true) (hc : B.1.testBit k = true) : f_X0_differsAt b' (nI k) b S = some (bI (dfA A B k)) := by
  apply ok_eq
  unfold f_X0_differsAt f_X0_differsAt_b2
  refine ok_fx 4 (fun i v => v = nI i ∧ ∀ w, w < i → A.2.2.1 k w = B.2.2.1 k w) ?_ ?_ (FU_gt (by omega)) ⟨rfl, fun w hw => absurd hw (by omega)⟩
  · rintro i v rec hi ⟨rfl, hI⟩ hrec
    unfold F_X0_differsAt_b2
    dsimp only
    rw [if_neg (le4n hi), num7 hb' hk hi, bsm, num7 hb hk hi, bsm, hC'.2.2.1 k i hc hi, hC.2.2.1 k i ha hi, nI_1, nz_1, if_pos rfl]
    by_cases e : B.2.2.1 k i = A.2.2.1 k i
    · rw [if_pos e]
      refine hrec _ ⟨rfl, fun w hw => ?_⟩
      rcases Nat.lt_succ_iff_lt_or_eq.mp hw with h | rfl
      · exact hI w h
      · exact e.symm
    · rw [if_neg e]
      refine ⟨_, rfl, ?_⟩
      have : dfA A B k = true := by
        cases hd : dfA A B k with
        | true => rfl
        | false => exact absurd (dfA_iff.mp hd i hi).symm e
      rw [this]
      rfl
  · rintro v rec ⟨rfl, hI⟩
    unfold F_X0_differsAt_b2
    dsimp only
    rw [if_pos (by decide), nz_0, if_pos rfl]
    refine ⟨_, rfl, ?_⟩
    rw [dfA_iff.mpr hI]
    rfl
theorem chg7 {S : HS} {b b' : Nat} {A B : AB} {kd : Nat → Int32} (hB : RB S 16 18 b' b) (hC : CB S b kd A) (hC' : CB S b' kd B) (hth : B.1 = A.1) (h10 : A.1 < 2 ^ 10) : f_X3_changedShapes 16 S = some (nI (fb_ct (fun k => A.1.testBit k && dfA A B k) 10)) := by
  have hob' : oc b' = some 0 := HL_oc (Or.inl ⟨rfl, rfl⟩) (RB_lo hB)
  have hob : oc b = some 0 := HL_oc (Or.inl ⟨rfl, rfl⟩) (by have := hB.2.2; omega)
  unfold f_X3_changedShapes f_X3_changedShapes_b4
  refine fx_run 10 (fun i => (nI (fb_ct (fun k => A.1.testBit k && dfA A B k) i), nI i)) ?_ ?_ (FU_gt (by omega)) rfl
  · intro i rec hi
    unfold F_X3_changedShapes_b4 f_X3_changedShapes_b43
    dsimp only
    rw [if_neg (le10n hi), hB.1, rf_some hob', hC'.1, hth, hasI7 S (by omega) (by omega), bsm, ifb, hB.2.1, rf_some hob', rf_some hob, nI_1, nI_1, fb_ct_succ]
    cases ht : A.1.testBit i with
    | false => rw [if_neg (by decide)]; rfl
    | true =>
      rw [if_pos rfl, differs7 hob hob' hC hC' hi ht (by rw [hth]; exact ht), bsm, ifb]
      cases dfA A B i <;> rfl
  · intro rec
    unfold F_X3_changedShapes_b4
    dsimp only
    rw [if_pos (by decide)]
