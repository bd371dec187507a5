/-! the class does all acts of a set anew -/
def FRc (h lo : Nat) (S S' : HS) : Prop := (∀ x, x < lo ∨ lo + 6 ≤ x → S'.1 x = S.1 x) ∧ ∀ x, x ≠ h → S'.2.2 x = S.2.2 x ∧ S'.2.1 x = S.2.1 x
theorem FRc.rf (h lo : Nat) (S : HS) : FRc h lo S S := ⟨fun _ _ => rfl, fun _ _ => ⟨rfl, rfl⟩⟩
theorem FRc.tr {h lo : Nat} {S T U : HS} (h1 : FRc h lo S T) (h2 : FRc h lo T U) : FRc h lo S U := ⟨fun x hx => (h2.1 x hx).trans (h1.1 x hx), fun x hx => ⟨(h2.2 x hx).1.trans (h1.2 x hx).1, (h2.2 x hx).2.trans (h1.2 x hx).2⟩⟩
def RB (S : HS) (h lo b b' : Nat) : Prop := S.2.2 h 1 = some b ∧ S.2.2 h 2 = some b' ∧ (b = lo ∧ b' = lo + 3 ∨ b = lo + 3 ∧ b' = lo)
def HL (h lo : Nat) : Prop := h = 16 ∧ lo = 18 ∨ h = 17 ∧ lo = 24
theorem HL_oc {h lo b : Nat} (hl : HL h lo) (hb : b = lo ∨ b = lo + 3) : oc b = some 0 := by
  rcases hl with ⟨rfl, rfl⟩ | ⟨rfl, rfl⟩ <;> rcases hb with rfl | rfl <;> rfl
theorem FRc_wB {h lo b : Nat} {S : HS} {th fo : Int32} {num tie : Nat → Int32} (hb : b = lo ∨ b = lo + 3) : FRc h lo S (wB S b th fo num tie) := by
  refine ⟨fun x hx => ?_, fun _ _ => ⟨rfl, rfl⟩⟩
  exact wB_out (by omega) (by omega) (by omega)
theorem FRc_swp {h lo b b' : Nat} {S : HS} : FRc h lo S (swp S h b b') := by
  refine ⟨fun x hx => rfl, fun x hx => ⟨?_, rfl⟩⟩
  unfold swp sR
  simp [hx]
theorem FRc_sL {h lo k : Nat} {S : HS} {v : Int64} : FRc h lo S (sL S h k v) := by
  refine ⟨fun x hx => rfl, fun x hx => ⟨rfl, ?_⟩⟩
  unfold sL
  simp [hx]
theorem swp_r {S : HS} {h b b' : Nat} : (swp S h b b').2.2 h 1 = some b' ∧ (swp S h b b').2.2 h 2 = some b := by
  unfold swp sR va_up
  simp
def CE (S : HS) (na nr ns : Nat) (kd : Nat → Int32) (fr to : Nat → Nat) (lb : Nat → Bool) (dd : Nat → Int32) (sj : Nat → Nat) (qq : Nat → Nat → Int32) : Prop := RC S nr kd fr to ∧ (∀ k, k < ns → (S.1 3 k ≤ 0 ↔ lb k = false)) ∧ ∀ a, a < na → TA S a (dd a) (sj a) (qq a)
theorem CE_fr {h lo na nr ns : Nat} {kd : Nat → Int32} {fr to : Nat → Nat} {lb : Nat → Bool} {dd : Nat → Int32} {sj : Nat → Nat} {qq : Nat → Nat → Int32} {S S' : HS} (hlo : HL h lo) (hF : FRc h lo S S') (hC : CE S na nr ns kd fr to lb dd sj qq) : CE S' na nr ns kd fr to lb dd sj qq := by
  have h18 : 18 ≤ lo := by rcases hlo with ⟨-, rfl⟩ | ⟨-, rfl⟩ <;> omega
  obtain ⟨h1, h2, h3⟩ := hC
  have f : ∀ x, x < 18 → S'.1 x = S.1 x := fun x hx => hF.1 x (by omega)
  refine ⟨⟨h1.1, fun k hk => ?_⟩, fun k hk => by rw [f 3 (by omega)]; exact h2 k hk, fun a ha => ?_⟩
  · rw [f 6 (by omega), f 7 (by omega), f 8 (by omega)]
    exact h1.2 k hk
  · unfold TA
    rw [f 10 (by omega), f 11 (by omega), f 12 (by omega)]
    exact h3 a ha
section
variable {S : HS} {na nr ns : Nat} {kd : Nat → Int32} {fr to : Nat → Nat} {lb : Nat → Bool} {dd : Nat → Int32} {sj : Nat → Nat} {qq : Nat → Nat → Int32}
/-- one act tried by the class, with the step of the abstract board -/
theorem c_try2 {h lo b b' a : Nat} {A : AB} {d : Int32} {s : Nat} {q : Nat → Int32} (hl : HL h lo) (hB : RB S h lo b b') (hR : RC S nr kd fr to) (hL : ∀ k, k < ns → (S.1 3 k ≤ 0 ↔ lb k = false)) (hW : RW nr ns kd fr to) (hA : AI kd fr to lb ns nr A) (hC : CB S b kd A) (ha : a < 60) (hT : TA S a d s q) (hD : DW nr ns kd d s q) :
    Ok (f_X3_tryAct h (nI a) S) (fun r => ∃ ok, r.2 = bI ok ∧ FRc h lo S r.1 ∧ r.1.2.1 = S.2.1 ∧ (ok = true → ∃ B, stp kd fr to lb d s q A = some B ∧ RB r.1 h lo b' b ∧ CB r.1 b' kd B ∧ CB r.1 b kd A) ∧ (ok = false → stp kd fr to lb d s q A = none ∧ RB r.1 h lo b b' ∧ CB r.1 b kd A)) := by
  obtain ⟨r1, r2, r3⟩ := hB
  have hbb : b = lo ∨ b = lo + 3 := by omega
  have hbb' : b' = lo ∨ b' = lo + 3 := by omega
  have hob := HL_oc hl hbb
  have hob' := HL_oc hl hbb'
  refine Ok.mono (c_try (nr := nr) (ns := ns) (lb := lb) r1 r2 hob (by omega) ⟨hob', hR, hA.2.1, AI_th hW hA, fun k hk => hL k (hA.1 k hk)⟩ hW hA hC ha hT hD) ?_
  rintro r ⟨th, fo, num, tie, ok, rfl, k1, k2⟩
  have hCb : ∀ T : HS, T.1 = (wB S b' th fo num tie).1 → CB T b kd A := by
    intro T hT
    obtain ⟨c1, c2, c3, c4⟩ := hC
    refine ⟨?_, ?_, ?_, ?_⟩
    · rw [hT, wB_out (by omega) (by omega) (by omega)]; exact c1
    · rw [hT, wB_out (by omega) (by omega) (by omega)]; exact c2
    · rw [hT, wB_out (by omega) (by omega) (by omega)]; exact c3
    · rw [hT, wB_out (by omega) (by omega) (by omega)]; exact c4
  refine ⟨ok, rfl, ?_, ?_, fun e => ?_, fun e => ?_⟩
  · dsimp only
    split
    · exact (FRc_wB hbb').tr FRc_swp
    · exact FRc_wB hbb'
  · dsimp only
    split <;> rfl
  · dsimp only
    rw [if_pos e]
    obtain ⟨B, b1, b2⟩ := k1 e
    obtain ⟨C, c1, c2⟩ := stp_yes ⟨B, b1⟩
    have hae := Does_uniq hW hA b1 c2
    exact ⟨C, c1, ⟨swp_r.1, swp_r.2, by omega⟩, CB_aeq b2 hae, hCb _ rfl⟩
  · dsimp only
    rw [e, if_neg (by decide)]
    exact ⟨stp_no (k2 e), ⟨r1, r2, r3⟩, hCb _ rfl⟩
theorem redo7 {h lo b b' set : Nat} (hl : HL h lo) (hB : RB S h lo b b') (hCE : CE S na nr ns kd fr to lb dd sj qq) (hW : RW nr ns kd fr to) (hWA : WA na nr ns kd lb dd sj qq) (hna : na ≤ 60) (hset : ∀ k, set.testBit k = true → k < na) : Ok (f_X3_redo h (lN set) S) (fun S' => FRc h lo S S' ∧ (∃ b b', RB S' h lo b b' ∧ CB S' b kd (rep kd fr to lb dd sj qq set na).1) ∧ S'.2.1 h 3 = lN (rep kd fr to lb dd sj qq set na).2) := by
  have hs60 : set < 2 ^ 60 := by
    apply Nat.lt_pow_two_of_testBit
    intro i hi
    cases e : set.testBit i with
    | false => rfl
    | true => exact absurd (hset i e) (by omega)
  obtain ⟨r1, r2, r3⟩ := hB
  have hbb : b = lo ∨ b = lo + 3 := by omega
  have hob := HL_oc hl hbb
  unfold f_X3_redo f_X3_redo_b14 f_X0_clear
  rw [r1, rf_some hob, bsm]
  have hcl : sI (sI S b 5 0) b 6 0 = wB S b 0 0 (S.1 (b + 1)) (S.1 (b + 2)) := by
    conv => lhs; arg 1; arg 1; rw [← wB_self (S := S) (b := b)]
    rw [wB_sTh, wB_sFo]
  rw [hcl]
  refine ok_fx 60 (fun i u => ∃ S', u = (S', nI i) ∧ FRc h lo S S' ∧ (∃ b b', RB S' h lo b b' ∧ CB S' b kd (rep kd fr to lb dd sj qq set i).1) ∧ S'.2.1 h 3 = lN (rep kd fr to lb dd sj qq set i).2) ?_ ?_ (FU_gt (by omega)) ⟨_, rfl, (FRc_wB hbb).tr FRc_sL, ⟨b, b', ⟨r1, r2, r3⟩, ⟨?_, ?_, fun k w hk => absurd hk (by show ¬ (0 : Nat).testBit k = true; rw [Nat.zero_testBit]; decide), fun k w hk => absurd hk (by show ¬ (0 : Nat).testBit k = true; rw [Nat.zero_testBit]; decide)⟩⟩, ?_⟩
  · rintro i u rec hi ⟨S', rfl, hF, ⟨c, c', hB', hC'⟩, h3⟩ hrec
    unfold F_X3_redo_b14 f_X3_redo_b48
    dsimp only
    rw [if_neg (le60n hi), has7 S' (by omega) (by omega), bsm, ifb, nI_1]
    cases hs : set.testBit i with
    | false =>
      rw [if_neg (by decide)]
      exact hrec _ ⟨S', rfl, hF, ⟨c, c', hB', by rw [rep_skip hs]; exact hC'⟩, by rw [rep_skip hs]; exact h3⟩
    | true =>
      have hin := hset i hs
      obtain ⟨hAI, -, hlt, -⟩ := rep_ok (set := set) hW hWA i (by omega)
      have hCE' := CE_fr hl hF hCE
      rw [if_pos rfl]
      refine Ok.bind (c_try2 hl hB' hCE'.1 hCE'.2.1 hW hAI hC' hi (hCE'.2.2 i hin) (hWA.1 i hin).1) ?_
      rintro r ⟨ok, e2, f1, f2, k1, k2⟩
      rw [e2, ifb]
      cases ok with
      | true =>
        obtain ⟨B, b1, b2, b3, -⟩ := k1 rfl
        rw [if_pos rfl]
        exact hrec _ ⟨r.1, rfl, hF.tr f1, ⟨c', c, b2, by rw [rep_some hs b1]; exact b3⟩, by rw [rep_some hs b1, f2]; exact h3⟩
      | false =>
        obtain ⟨b1, b2, b3⟩ := k2 rfl
        have hv60 : (rep kd fr to lb dd sj qq set i).2 < 2 ^ 60 := Nat.lt_of_lt_of_le hlt (Nat.pow_le_pow_right (by omega) (by omega))
        rw [if_neg (by decide), f2, h3, shlL (by omega), lN_or (by omega) (Nat.pow_lt_pow_right (by omega) (by omega))]
        refine hrec _ ⟨_, rfl, (hF.tr f1).tr FRc_sL, ⟨c, c', b2, by rw [rep_none hs b1]; exact b3⟩, ?_⟩
        rw [rep_none hs b1]
        unfold sL
        simp [vp_updL]
  · rintro u rec ⟨S', rfl, hF, hB', h3⟩
    unfold F_X3_redo_b14
    dsimp only
    rw [if_pos (by decide)]
    have ho := rep_out (kd := kd) (fr := fr) (to := to) (lb := lb) (dd := dd) (sj := sj) (qq := qq) hset (60 - na)
    rw [show na + (60 - na) = 60 by omega] at ho
    rw [ho] at hB' h3
    exact ⟨_, rfl, hF, hB', h3⟩
  · show (wB S b 0 0 (S.1 (b + 1)) (S.1 (b + 2))).1 b 5 = _
    rw [wB_th]; rfl
  · show (wB S b 0 0 (S.1 (b + 1)) (S.1 (b + 2))).1 b 6 = _
    rw [wB_fo]; rfl
  · unfold sL
    simp [vp_updL]
    rfl
end
