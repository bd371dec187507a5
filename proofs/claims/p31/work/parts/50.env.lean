/-! what later rules and shapes do not change; acts done anew -/
section
variable {nr ns : Nat} {kd kd' : Nat → Int32} {fr to fr' to' : Nat → Nat} {lb lb' : Nat → Bool} {A : AB}
def EQ (nr ns : Nat) (kd kd' : Nat → Int32) (fr to fr' to' : Nat → Nat) (lb lb' : Nat → Bool) : Prop := (∀ k, k < nr → kd k = kd' k ∧ fr k = fr' k ∧ to k = to' k) ∧ ∀ k, k < ns → lb k = lb' k
theorem EQ.symm (h : EQ nr ns kd kd' fr to fr' to' lb lb') : EQ nr ns kd' kd fr' to' fr to lb' lb := ⟨fun k hk => ⟨(h.1 k hk).1.symm, (h.1 k hk).2.1.symm, (h.1 k hk).2.2.symm⟩, fun k hk => (h.2 k hk).symm⟩
theorem lkf_env (h : EQ nr ns kd kd' fr to fr' to' lb lb') {fo w : Nat} (hf : fok fo nr) : lkf fo kd' w = lkf fo kd w := by
  funext k
  unfold lkf
  cases e : fo.testBit k with
  | false => rfl
  | true => rw [(h.1 k (hf k e)).1]
theorem clo_env {lk : Nat → Bool} (h : ∀ j, lk j = true → fr j = fr' j ∧ to j = to' j) (s : Nat) : clo lk fr' to' s = clo lk fr to s := by
  have h1 : ∀ k g, rStep lk fr' to' k g = rStep lk fr to k g := by
    intro k g
    unfold rStep
    cases e : lk k with
    | false => rfl
    | true => rw [(h k e).1, (h k e).2]
  have h2 : ∀ n g, rPass lk fr' to' n g = rPass lk fr to n g := by
    intro n g
    induction n with
    | zero => rfl
    | succ n ih =>
      show rStep lk fr' to' n (rPass lk fr' to' n g) = rStep lk fr to n (rPass lk fr to n g)
      rw [ih, h1]
  have h3 : ∀ i g, rIter lk fr' to' 12 i g = rIter lk fr to 12 i g := by
    intro i g
    induction i with
    | zero => rfl
    | succ i ih =>
      show rPass lk fr' to' 12 (rIter lk fr' to' 12 i g) = rPass lk fr to 12 (rIter lk fr to 12 i g)
      rw [ih, h2]
  exact h3 10 _
theorem TS_env {lk : Nat → Bool} {gp gp' : Nat → Int32} {fx : Nat} {n c : Nat → Int32} {ok : Bool} (h : ∀ j, lk j = true → fr j = fr' j ∧ to j = to' j) (hg : ∀ j, lk j = true → gp j = gp' j) (hT : TS lk fr to gp fx n c ok) : TS lk fr' to' gp' fx n c ok := by
  have hD : ∀ k, Dm lk fr' to' fx k ↔ Dm lk fr to fx k := by
    intro k
    unfold Dm
    constructor
    · rintro ⟨f, f1, f2⟩
      exact ⟨f, f1, by rw [← clo_env h]; exact f2⟩
    · rintro ⟨f, f1, f2⟩
      exact ⟨f, f1, by rw [clo_env h]; exact f2⟩
  have hL : ∀ m, LSo lk fr' to' gp' (Dm lk fr' to' fx) m ↔ LSo lk fr to gp (Dm lk fr to fx) m := by
    intro m
    unfold LSo
    constructor
    · intro q j hj hd
      have := q j hj (by rw [hD, ← (h j hj).1]; exact hd)
      rw [← (h j hj).1, ← (h j hj).2, ← hg j hj] at this
      exact this
    · intro q j hj hd
      rw [hD, ← (h j hj).1] at hd
      have := q j hj hd
      rw [(h j hj).1, (h j hj).2, hg j hj] at this
      exact this
  obtain ⟨a1, a2, a3⟩ := hT
  refine ⟨fun k hk => a1 k (fun q => hk ((hD k).mpr q)), fun q => ⟨(a2 q).1, (hL c).mpr (a2 q).2⟩, fun q => ?_⟩
  rintro ⟨m, m1, m2⟩
  exact a3 q ⟨m, m1, (hL m).mp m2⟩
theorem fixF_env {lk : Nat → Bool} (h : ∀ j, lk j = true → fr j = fr' j ∧ to j = to' j) (ld : Nat) (ch : Nat → Bool) : ∀ n, fixF lk fr' to' ld ch n = fixF lk fr to ld ch n
  | 0 => rfl
  | n + 1 => by
    show (if ch n = true then fixF lk fr' to' ld ch n ||| 2 ^ rp lk fr' to' ld n else fixF lk fr' to' ld ch n) = (if ch n = true then fixF lk fr to ld ch n ||| 2 ^ rp lk fr to ld n else fixF lk fr to ld ch n)
    have : rp lk fr' to' ld n = rp lk fr to ld n := by unfold rp; rw [clo_env h]
    rw [fixF_env h ld ch n, this]
theorem GrA_env (h : EQ nr ns kd kd' fr to fr' to' lb lb') (hA : AI kd fr to lb ns nr A) {x g ld : Nat} {v : Int32} {N N' : Nat → Nat → Int32} {T : Nat → Nat → Int32} (hg : sbt g A.1) (hG : GrA kd fr to lb A.1 A.2.1 T x g ld v N N') : GrA kd' fr' to' lb' A.1 A.2.1 T x g ld v N N' := by
  obtain ⟨h1, h2, h3, c, h4, h5⟩ := hG
  have hft : ∀ j, lkf A.2.1 kd x j = true → fr j = fr' j ∧ to j = to' j := fun j hj => (h.1 j (hA.2.1 j (lkf_fo hj))).2
  refine ⟨fun k hk hl => h1 k hk (by rw [h.2 k (hA.1 k (hg k hk))]; exact hl), h2, h3, c, ?_, h5⟩
  rw [lkf_env h hA.2.1, fixF_env hft]
  refine TS_env hft (fun j hj => ?_) h4
  obtain ⟨e1, e2, -⟩ := h.1 j (hA.2.1 j (lkf_fo hj))
  unfold gpA
  rw [e1, e2]
theorem Does_env (h : EQ nr ns kd kd' fr to fr' to' lb lb') (hA : AI kd fr to lb ns nr A) {d : Int32} {s : Nat} {q : Nat → Int32} (hs : d = 3 → s < nr) {B : AB} (hD : Does kd fr to lb d s q A B) : Does kd' fr' to' lb' d s q A B := by
  have hft : ∀ w j, lkf A.2.1 kd w j = true → fr j = fr' j ∧ to j = to' j := fun w j hj => (h.1 j (hA.2.1 j (lkf_fo hj))).2
  have hT : ∀ {T T' : Nat → Nat → Int32}, TSm kd A.2.1 T T' → TSm kd' A.2.1 T T' := by
    intro T T' q j w hj h6 hw
    exact q j w hj (by rw [(h.1 j (hA.2.1 j hj)).1]; exact h6) hw
  have hcl : ∀ w s, clo (lkf A.2.1 kd' w) fr' to' s = clo (lkf A.2.1 kd w) fr to s := fun w s => by rw [lkf_env h hA.2.1, clo_env (hft w)]
  unfold Does at hD ⊢
  by_cases d0 : d = 0
  · rw [if_pos d0] at hD ⊢
    exact ⟨hD.1, hD.2.1, hD.2.2.1, hT hD.2.2.2⟩
  · rw [if_neg d0] at hD ⊢
    by_cases d1 : d = 1
    · rw [if_pos d1] at hD ⊢
      obtain ⟨a0, a1, a2, a3, a4, a5⟩ := hD
      refine ⟨a0, a1, a2, hT a3, a4, fun k w hk hw => ?_⟩
      rw [hcl]
      exact a5 k w hk hw
    · rw [if_neg d1] at hD ⊢
      by_cases d2 : d = 2
      · rw [if_pos d2] at hD ⊢
        obtain ⟨a0, a1, a2, a3, a4, N1, a5, a6⟩ := hD
        refine ⟨a0, a1, a2, hT a3, a4, N1, ?_, ?_⟩
        · rw [hcl]; exact GrA_env h hA (clo_th hA a0) a5
        · rw [hcl]; exact GrA_env h hA (clo_th hA a0) a6
      · rw [if_neg d2] at hD ⊢
        by_cases d3 : d = 3
        · rw [if_pos d3] at hD ⊢
          obtain ⟨e1, e2, e3⟩ := h.1 s (hs d3)
          obtain ⟨a0, a1, a2, a3, a4, a5⟩ := hD
          refine ⟨by rw [← e2]; exact a0, by rw [← e3]; exact a1, a2, a3, a4, ?_⟩
          unfold LyA at a5 ⊢
          rw [← e1, ← e2, ← e3]
          by_cases k0 : kd s = 0
          · rw [if_pos k0] at a5 ⊢
            rw [hcl]
            exact ⟨GrA_env h hA (clo_th hA a1) a5.1, hT a5.2⟩
          · rw [if_neg k0] at a5 ⊢
            by_cases k1 : kd s = 1
            · rw [if_pos k1] at a5 ⊢
              rw [hcl]
              exact ⟨GrA_env h hA (clo_th hA a1) a5.1, hT a5.2⟩
            · rw [if_neg k1] at a5 ⊢
              by_cases k6 : kd s = 6
              · rw [if_pos k6] at a5 ⊢
                refine ⟨a5.1, a5.2.1, fun j w hj hf h6 hw => a5.2.2 j w hj hf ?_ hw⟩
                rw [(h.1 j (hA.2.1 j hf)).1]; exact h6
              · rw [if_neg k6] at a5 ⊢
                obtain ⟨w0, b0, b1, b2, b3, b4, b5⟩ := a5
                refine ⟨w0, b0, b1, b2, ?_, fun k w hk hw => ?_, hT b5⟩
                · rw [hcl]; exact b3
                · rw [hcl]; exact b4 k w hk hw
        · rw [if_neg d3] at hD ⊢
          exact ⟨hD.1, hD.2.1, hD.2.2.1, hD.2.2.2.1, hT hD.2.2.2.2⟩
theorem AI_env (h : EQ nr ns kd kd' fr to fr' to' lb lb') (hA : AI kd fr to lb ns nr A) : AI kd' fr' to' lb' ns nr A := by
  obtain ⟨i1, i2, i3, i4, i5, i6⟩ := hA
  refine ⟨i1, i2, fun j hj => ?_, i4, fun j w hw hj => ?_, fun k hk hl => i6 k hk (by rw [h.2 k (i1 k hk)]; exact hl)⟩
  · obtain ⟨-, e2, e3⟩ := h.1 j (i2 j hj)
    rw [← e2, ← e3]; exact i3 j hj
  · rw [lkf_env h i2] at hj
    obtain ⟨-, e2, e3⟩ := h.1 j (i2 j (lkf_fo hj))
    rw [← e2, ← e3]; exact i5 j w hw hj
/-- an act is done, if it can be done -/
noncomputable def stp (kd : Nat → Int32) (fr to : Nat → Nat) (lb : Nat → Bool) (d : Int32) (s : Nat) (q : Nat → Int32) (A : AB) : Option AB := @dite _ (∃ B, Does kd fr to lb d s q A B) (Classical.propDecidable _) (fun h => some (Classical.choose h)) (fun _ => none)
theorem stp_yes {d : Int32} {s : Nat} {q : Nat → Int32} (h : ∃ B, Does kd fr to lb d s q A B) : ∃ B, stp kd fr to lb d s q A = some B ∧ Does kd fr to lb d s q A B := by
  unfold stp
  rw [dif_pos h]
  exact ⟨_, rfl, Classical.choose_spec h⟩
theorem stp_no {d : Int32} {s : Nat} {q : Nat → Int32} (h : ¬ ∃ B, Does kd fr to lb d s q A B) : stp kd fr to lb d s q A = none := by
  unfold stp
  rw [dif_neg h]
theorem stp_does {d : Int32} {s : Nat} {q : Nat → Int32} {B : AB} (h : stp kd fr to lb d s q A = some B) : Does kd fr to lb d s q A B := by
  by_cases e : ∃ B, Does kd fr to lb d s q A B
  · obtain ⟨C, c1, c2⟩ := stp_yes e
    rw [c1] at h
    cases h
    exact c2
  · rw [stp_no e] at h
    cases h
theorem stp_env (h : EQ nr ns kd kd' fr to fr' to' lb lb') (hA : AI kd fr to lb ns nr A) {d : Int32} {s : Nat} {q : Nat → Int32} (hs : d = 3 → s < nr) : stp kd fr to lb d s q A = stp kd' fr' to' lb' d s q A := by
  have : (fun B => Does kd fr to lb d s q A B) = fun B => Does kd' fr' to' lb' d s q A B := by
    funext B
    exact propext ⟨fun q => Does_env h hA hs q, fun q => Does_env h.symm (AI_env h hA) hs q⟩
  by_cases e : ∃ B, Does kd fr to lb d s q A B
  · have e' : ∃ B, Does kd' fr' to' lb' d s q A B := by
      obtain ⟨B, hB⟩ := e
      exact ⟨B, Does_env h hA hs hB⟩
    unfold stp
    rw [dif_pos e, dif_pos e']
    congr 1
    congr 1
  · have e' : ¬ ∃ B, Does kd' fr' to' lb' d s q A B := by
      rintro ⟨B, hB⟩
      exact e ⟨B, Does_env h.symm (AI_env h hA) hs hB⟩
    rw [stp_no e, stp_no e']
/-- all acts below n of a set, one after the other; those that are void -/
noncomputable def rep (kd : Nat → Int32) (fr to : Nat → Nat) (lb : Nat → Bool) (dd : Nat → Int32) (sj : Nat → Nat) (qq : Nat → Nat → Int32) (set : Nat) : Nat → AB × Nat
  | 0 => ((0, 0, fun _ _ => 0, fun _ _ => 0), 0)
  | n + 1 => if set.testBit n = true then (match stp kd fr to lb (dd n) (sj n) (qq n) (rep kd fr to lb dd sj qq set n).1 with | some B => (B, (rep kd fr to lb dd sj qq set n).2) | none => ((rep kd fr to lb dd sj qq set n).1, (rep kd fr to lb dd sj qq set n).2 ||| 2 ^ n)) else rep kd fr to lb dd sj qq set n
theorem rep_some {dd : Nat → Int32} {sj : Nat → Nat} {qq : Nat → Nat → Int32} {set n : Nat} {B : AB} (h : set.testBit n = true) (hs : stp kd fr to lb (dd n) (sj n) (qq n) (rep kd fr to lb dd sj qq set n).1 = some B) : rep kd fr to lb dd sj qq set (n + 1) = (B, (rep kd fr to lb dd sj qq set n).2) := by
  rw [rep, if_pos h, hs]
theorem rep_none {dd : Nat → Int32} {sj : Nat → Nat} {qq : Nat → Nat → Int32} {set n : Nat} (h : set.testBit n = true) (hs : stp kd fr to lb (dd n) (sj n) (qq n) (rep kd fr to lb dd sj qq set n).1 = none) : rep kd fr to lb dd sj qq set (n + 1) = ((rep kd fr to lb dd sj qq set n).1, (rep kd fr to lb dd sj qq set n).2 ||| 2 ^ n) := by
  rw [rep, if_pos h, hs]
theorem rep_skip {dd : Nat → Int32} {sj : Nat → Nat} {qq : Nat → Nat → Int32} {set n : Nat} (h : set.testBit n = false) : rep kd fr to lb dd sj qq set (n + 1) = rep kd fr to lb dd sj qq set n := by
  rw [rep, if_neg (by rw [h]; decide)]
/-- the acts that were made -/
def WA (na nr ns : Nat) (kd : Nat → Int32) (lb : Nat → Bool) (dd : Nat → Int32) (sj : Nat → Nat) (qq : Nat → Nat → Int32) : Prop := (∀ a, a < na → DW nr ns kd (dd a) (sj a) (qq a) ∧ (dd a = 0 → lb (sj a) = true → qq a 3 = 2)) ∧ ∀ a b, a < b → b < na → dd a = 0 → dd b = 0 → sj a ≠ sj b
section
variable {dd dd' : Nat → Int32} {sj sj' : Nat → Nat} {qq qq' : Nat → Nat → Int32} {set : Nat}
theorem AI_0 : AI kd fr to lb ns nr ((0, 0, fun _ _ => 0, fun _ _ => 0) : AB) := ⟨fun k hk => absurd hk (by show ¬ (0 : Nat).testBit k = true; rw [Nat.zero_testBit]; decide), fun k hk => absurd hk (by show ¬ (0 : Nat).testBit k = true; rw [Nat.zero_testBit]; decide), fun k hk => absurd hk (by show ¬ (0 : Nat).testBit k = true; rw [Nat.zero_testBit]; decide), fun w _ k hk => absurd hk (by show ¬ (0 : Nat).testBit k = true; rw [Nat.zero_testBit]; decide), fun j w _ hj => absurd (lkf_fo hj) (by show ¬ (0 : Nat).testBit j = true; rw [Nat.zero_testBit]; decide), fun k hk => absurd hk (by show ¬ (0 : Nat).testBit k = true; rw [Nat.zero_testBit]; decide)⟩
theorem Does_th {d : Int32} {s : Nat} {q : Nat → Int32} {B : AB} (h : Does kd fr to lb d s q A B) : ∀ k, B.1.testBit k = true → A.1.testBit k = true ∨ d = 0 ∧ k = s := by
  intro k hk
  unfold Does at h
  by_cases d0 : d = 0
  · rw [if_pos d0] at h
    rw [h.1, fb_bit_set, Bool.or_eq_true, decide_eq_true_eq] at hk
    exact hk.imp id (fun q => ⟨d0, q⟩)
  · left
    rw [if_neg d0] at h
    by_cases d1 : d = 1
    · rw [if_pos d1] at h; rw [h.2.1] at hk; exact hk
    · rw [if_neg d1] at h
      by_cases d2 : d = 2
      · rw [if_pos d2] at h; rw [h.2.1] at hk; exact hk
      · rw [if_neg d2] at h
        by_cases d3 : d = 3
        · rw [if_pos d3] at h; rw [h.2.2.1] at hk; exact hk
        · rw [if_neg d3] at h; rw [h.2.1] at hk; exact hk
theorem rep_ok {na : Nat} (hW : RW nr ns kd fr to) (hA : WA na nr ns kd lb dd sj qq) : ∀ n, n ≤ na → AI kd fr to lb ns nr (rep kd fr to lb dd sj qq set n).1 ∧ (∀ k, (rep kd fr to lb dd sj qq set n).1.1.testBit k = true → ∃ a, a < n ∧ dd a = 0 ∧ sj a = k) ∧ (rep kd fr to lb dd sj qq set n).2 < 2 ^ n ∧ ∀ k, (rep kd fr to lb dd sj qq set n).2.testBit k = true → set.testBit k = true
  | 0, _ => ⟨AI_0, fun k hk => absurd hk (by show ¬ (0 : Nat).testBit k = true; rw [Nat.zero_testBit]; decide), by show 0 < 2 ^ 0; decide, fun k hk => absurd hk (by show ¬ (0 : Nat).testBit k = true; rw [Nat.zero_testBit]; decide)⟩
  | n + 1, hn => by
    obtain ⟨h1, h2, h3, h4⟩ := rep_ok hW hA n (by omega)
    have hlt : (rep kd fr to lb dd sj qq set n).2 < 2 ^ (n + 1) := Nat.lt_of_lt_of_le h3 (Nat.pow_le_pow_right (by omega) (by omega))
    rw [rep]
    by_cases e : set.testBit n = true
    · rw [if_pos e]
      cases hst : stp kd fr to lb (dd n) (sj n) (qq n) (rep kd fr to lb dd sj qq set n).1 with
      | none =>
        refine ⟨h1, fun k hk => ?_, Nat.or_lt_two_pow hlt (Nat.pow_lt_pow_right (by omega) (by omega)), fun k hk => ?_⟩
        · obtain ⟨a, a1, a2⟩ := h2 k hk
          exact ⟨a, by omega, a2⟩
        · dsimp only at hk
          rw [fb_bit_set, Bool.or_eq_true, decide_eq_true_eq] at hk
          rcases hk with hk | rfl
          · exact h4 k hk
          · exact e
      | some B =>
        have hB := stp_does hst
        obtain ⟨w1, w2⟩ := hA.1 n (by omega)
        have hD2 : DW2 lb (rep kd fr to lb dd sj qq set n).1.1 (dd n) (sj n) (qq n) := by
          intro d0
          refine ⟨?_, w2 d0⟩
          cases e2 : (rep kd fr to lb dd sj qq set n).1.1.testBit (sj n) with
          | false => rfl
          | true =>
            obtain ⟨a, a1, a2, a3⟩ := h2 _ e2
            exact absurd a3 (hA.2 a n a1 (by omega) a2 d0)
        refine ⟨AI_step hW h1 w1 hD2 hB, fun k hk => ?_, hlt, h4⟩
        rcases Does_th hB k hk with h | ⟨d0, rfl⟩
        · obtain ⟨a, a1, a2⟩ := h2 k h
          exact ⟨a, by omega, a2⟩
        · exact ⟨n, by omega, d0, rfl⟩
    · rw [if_neg e]
      refine ⟨h1, fun k hk => ?_, hlt, h4⟩
      obtain ⟨a, a1, a2⟩ := h2 k hk
      exact ⟨a, by omega, a2⟩
theorem DW_3 {d : Int32} {s : Nat} {q : Nat → Int32} (h : DW nr ns kd d s q) : d = 3 → s < nr := by
  intro e
  rcases h with ⟨h, -⟩ | ⟨h, -⟩ | ⟨h, -⟩ | ⟨-, h, -⟩ | ⟨-, h⟩
  · rw [h] at e; exact absurd e (by decide)
  · rw [h] at e; exact absurd e (by decide)
  · rw [h] at e; exact absurd e (by decide)
  · exact h
  · exact h
theorem rep_env {na : Nat} (h : EQ nr ns kd kd' fr to fr' to' lb lb') (hW : RW nr ns kd fr to) (hA : WA na nr ns kd lb dd sj qq) (ha : ∀ a, a < na → dd a = dd' a ∧ sj a = sj' a ∧ qq a = qq' a) : ∀ n, n ≤ na → rep kd' fr' to' lb' dd' sj' qq' set n = rep kd fr to lb dd sj qq set n
  | 0, _ => rfl
  | n + 1, hn => by
    have ih := rep_env h hW hA ha n (by omega)
    obtain ⟨e1, e2, e3⟩ := ha n (by omega)
    rw [rep, rep, ih, ← e1, ← e2, ← e3, stp_env h (rep_ok hW hA n (by omega)).1 (DW_3 (hA.1 n (by omega)).1)]
/-- acts that do not count change nothing -/
theorem rep_out {na : Nat} (hs : ∀ k, set.testBit k = true → k < na) : ∀ d, rep kd fr to lb dd sj qq set (na + d) = rep kd fr to lb dd sj qq set na
  | 0 => rfl
  | d + 1 => by
    rw [← Nat.add_assoc, rep, if_neg (fun q => absurd (hs _ q) (by omega))]
    exact rep_out hs d
/-- the acts below n alone -/
theorem rep_set {set' : Nat} : ∀ n, (∀ k, k < n → set.testBit k = set'.testBit k) → rep kd fr to lb dd sj qq set n = rep kd fr to lb dd sj qq set' n
  | 0, _ => rfl
  | n + 1, h => by rw [rep, rep, rep_set n (fun k hk => h k (by omega)), h n (by omega)]
end
end
