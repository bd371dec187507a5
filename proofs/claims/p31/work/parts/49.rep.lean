/-! acts one after the other on an abstract board -/
section
variable {nr ns : Nat} {kd : Nat → Int32} {fr to : Nat → Nat} {lb : Nat → Bool} {A B : AB}
def aeq (kd : Nat → Int32) (A B : AB) : Prop := A.1 = B.1 ∧ A.2.1 = B.2.1 ∧ NSm A.1 A.2.2.1 B.2.2.1 ∧ TSm kd A.2.1 A.2.2.2 B.2.2.2
theorem Does_uniq (hW : RW nr ns kd fr to) (hA : AI kd fr to lb ns nr A) {d : Int32} {s : Nat} {q : Nat → Int32} {B C : AB} (h1 : Does kd fr to lb d s q A B) (h2 : Does kd fr to lb d s q A C) : aeq kd B C := by
  unfold Does at h1 h2
  by_cases d0 : d = 0
  · rw [if_pos d0] at h1 h2
    obtain ⟨a1, a2, a3, a4⟩ := h1
    obtain ⟨b1, b2, b3, b4⟩ := h2
    refine ⟨by rw [a1, b1], by rw [a2, b2], fun k w hk hw => ?_, fun j w hj h6 hw => ?_⟩
    · rw [a3 k w hk hw, b3 k w (by rw [b1, ← a1]; exact hk) hw]
    · rw [a2] at hj
      rw [a4 j w hj h6 hw, b4 j w hj h6 hw]
  · rw [if_neg d0] at h1 h2
    by_cases d1 : d = 1
    · rw [if_pos d1] at h1 h2
      obtain ⟨a0, a1, a2, a4, -, a3⟩ := h1
      obtain ⟨b0, b1, b2, b4, -, b3⟩ := h2
      refine ⟨by rw [a1, b1], by rw [a2, b2], fun k w hk hw => ?_, fun j w hj h6 hw => ?_⟩
      · rw [a1] at hk
        rw [a3 k w hk hw, b3 k w hk hw]
      · rw [a2] at hj
        rw [a4 j w hj h6 hw, b4 j w hj h6 hw]
    · rw [if_neg d1] at h1 h2
      by_cases d2 : d = 2
      · rw [if_pos d2] at h1 h2
        obtain ⟨a0, a1, a2, a4, -, N1, a5, a6⟩ := h1
        obtain ⟨b0, b1, b2, b4, -, N2, b5, b6⟩ := h2
        refine ⟨by rw [a1, b1], by rw [a2, b2], ?_, fun j w hj h6 hw => ?_⟩
        · rw [a1]
          have e1 := GrA_uniq hW hA a5 b5
          have e2 := GrA_cong hW hA (by omega) (clo_th hA a0) a6 e1 (fun _ _ _ _ => rfl) (fun _ _ _ _ _ => rfl)
          exact GrA_uniq hW hA e2 b6
        · rw [a2] at hj
          rw [a4 j w hj h6 hw, b4 j w hj h6 hw]
      · rw [if_neg d2] at h1 h2
        by_cases d3 : d = 3
        · rw [if_pos d3] at h1 h2
          obtain ⟨a0, a00, a1, a2, -, a3⟩ := h1
          obtain ⟨b0, b00, b1, b2, -, b3⟩ := h2
          have hTS : kd s ≠ 6 → ∀ {T' T'' : Nat → Nat → Int32}, TSm kd A.2.1 A.2.2.2 T' → TSm kd A.2.1 A.2.2.2 T'' → ∀ j w, (A.2.1 ||| 2 ^ s).testBit j = true → kd j = 6 → w < 2 → T'' j w = T' j w := by
            intro hs6 T' T'' h1 h2 j w hj h6 hw
            rw [fb_bit_set, Bool.or_eq_true, decide_eq_true_eq] at hj
            rcases hj with hj | rfl
            · rw [h1 j w hj h6 hw, h2 j w hj h6 hw]
            · exact absurd h6 hs6
          refine ⟨by rw [a1, b1], by rw [a2, b2], ?_, ?_⟩
          · rw [a1]
            unfold LyA at a3 b3
            by_cases k0 : kd s = 0
            · rw [if_pos k0] at a3 b3
              exact GrA_uniq hW hA a3.1 b3.1
            · rw [if_neg k0] at a3 b3
              by_cases k1 : kd s = 1
              · rw [if_pos k1] at a3 b3
                exact GrA_uniq hW hA a3.1 b3.1
              · rw [if_neg k1] at a3 b3
                by_cases k6 : kd s = 6
                · rw [if_pos k6] at a3 b3
                  intro k w hk hw
                  rw [a3.1 k w hk hw, b3.1 k w hk hw]
                · rw [if_neg k6] at a3 b3
                  obtain ⟨w0, c0, w1, c1, c2, c3, c4⟩ := a3
                  obtain ⟨v0, d0', v1, d1', d2', d3', d4'⟩ := b3
                  rw [← w1] at v1
                  subst v1
                  rw [← c1] at d1'
                  subst d1'
                  intro k w hk hw
                  rw [c3 k w hk hw, d3' k w hk hw]
          · rw [a2]
            unfold LyA at a3 b3
            by_cases k0 : kd s = 0
            · rw [if_pos k0] at a3 b3
              exact hTS (by rw [k0]; decide) a3.2 b3.2
            · rw [if_neg k0] at a3 b3
              by_cases k1 : kd s = 1
              · rw [if_pos k1] at a3 b3
                exact hTS (by rw [k1]; decide) a3.2 b3.2
              · rw [if_neg k1] at a3 b3
                by_cases k6 : kd s = 6
                · rw [if_pos k6] at a3 b3
                  intro j w hj h6 hw
                  by_cases e : j = s
                  · rw [e, a3.2.1 w hw, b3.2.1 w hw]
                  · rw [fb_bit_set, Bool.or_eq_true, decide_eq_true_eq] at hj
                    rw [a3.2.2 j w e (hj.resolve_right e) h6 hw, b3.2.2 j w e (hj.resolve_right e) h6 hw]
                · rw [if_neg k6] at a3 b3
                  obtain ⟨w0, c0, w1, c1, c2, c3, c4⟩ := a3
                  obtain ⟨v0, d0', v1, d1', d2', d3', d4'⟩ := b3
                  exact hTS k6 c4 d4'
        · rw [if_neg d3] at h1 h2
          obtain ⟨a0, a1, a2, a3, a4⟩ := h1
          obtain ⟨b0, b1, b2, b3, b4⟩ := h2
          have hfo : A.2.1 < 2 ^ 12 := fok_lt hA.2.1 hW.1
          have hs12 : s < 12 := by
            rcases Nat.lt_or_ge s 12 with h | h
            · exact h
            · have := hA.2.1 s a0
              have := hW.1
              omega
          refine ⟨by rw [a1, b1], by rw [a2, b2], fun k w hk hw => ?_, fun j w hj h6 hw => ?_⟩
          · rw [a1] at hk
            rw [a3 k w hk hw, b3 k w hk hw]
          · rw [a2, clr_bit (by omega) (by omega), Bool.and_eq_true] at hj
            rw [a4 j w hj.1 h6 hw, b4 j w hj.1 h6 hw]
/-- what an act needs, that what always holds goes on -/
def DW2 (lb : Nat → Bool) (th : Nat) (d : Int32) (s : Nat) (q : Nat → Int32) : Prop := d = 0 → th.testBit s = false ∧ (lb s = true → q 3 = 2)
theorem GrA_AI (hW : RW nr ns kd fr to) (hA : AI kd fr to lb ns nr A) {x g ld s : Nat} {v : Int32} {N N' : Nat → Nat → Int32} (hx : x < 2) (hs : A.1.testBit s = true) (hg : g = clo (lkf A.2.1 kd (x + 2)) fr to s) (hv : rngB v (x + 2) = true) (hN : ∀ k w, A.1.testBit k = true → w = 2 ∨ w = 3 → N k w = A.2.2.1 k w ∨ w ≠ x + 2 ∧ True) (hN2 : ∀ k, A.1.testBit k = true → N k (x + 2) = A.2.2.1 k (x + 2)) (h : GrA kd fr to lb A.1 A.2.1 A.2.2.2 x g ld v N N') : RG A.1 N' (x + 2) ∧ (∀ j, lkf A.2.1 kd (x + 2) j = true → N' (fr j) (x + 2) = N' (to j) (x + 2)) ∧ (∀ k, A.1.testBit k = true → lb k = true → N' k (x + 2) = N k (x + 2)) := by
  have ho := RW_ok (w := x + 2) hW hA.2.1
  have hl := RW_lt (w := x + 2) hW hA.2.1
  have hs10 := lt10_of (AI_th hW hA) hs
  obtain ⟨h1, h2, h3, -⟩ := h
  refine ⟨fun k hk => ?_, fun j hj => ?_, fun k hk hl2 => ?_⟩
  · rw [h2 k hk]
    split
    · exact hv
    · rw [hN2 k hk]; exact hA.2.2.2.1 (x + 2) (by omega) k hk
  · obtain ⟨j1, j2⟩ := hA.2.2.1 j (lkf_fo hj)
    have hcl := clo_closed ho hl hs10 j hj
    rw [← hg] at hcl
    rw [h2 _ j1, h2 _ j2]
    by_cases e : g.testBit (fr j) = true
    · rw [if_pos e, if_pos (hcl.mp e)]
    · rw [if_neg e, if_neg (fun q => e (hcl.mpr q)), hN2 _ j1, hN2 _ j2]
      exact hA.2.2.2.2.1 j (x + 2) (by omega) hj
  · rw [h2 k hk]
    split
    · next e => exact (h1 k e hl2).symm
    · rfl
theorem AI_step (hW : RW nr ns kd fr to) (hA : AI kd fr to lb ns nr A) {d : Int32} {s : Nat} {q : Nat → Int32} (hD : DW nr ns kd d s q) (hD2 : DW2 lb A.1 d s q) {B : AB} (h : Does kd fr to lb d s q A B) : AI kd fr to lb ns nr B := by
  obtain ⟨i1, i2, i3, i4, i5, i6⟩ := hA
  have hA : AI kd fr to lb ns nr A := ⟨i1, i2, i3, i4, i5, i6⟩
  rcases hD with ⟨rfl, hs, hq⟩ | ⟨rfl, hs, hq0, hq1⟩ | ⟨rfl, hs, hq2, hq3⟩ | ⟨rfl, hs, hk⟩ | ⟨rfl, hs⟩
  · obtain ⟨a1, a2, a3, a4⟩ := Does0.mp h
    obtain ⟨hno, hlb⟩ := hD2 rfl
    have hin : ∀ k, A.1.testBit k = true → B.1.testBit k = true ∧ k ≠ s := fun k hk => ⟨by rw [a1, fb_bit_set, hk]; rfl, fun e => by rw [e, hno] at hk; exact absurd hk (by decide)⟩
    have hB : ∀ k, B.1.testBit k = true → A.1.testBit k = true ∨ k = s := fun k hk => by rw [a1, fb_bit_set, Bool.or_eq_true, decide_eq_true_eq] at hk; exact hk
    refine ⟨fun k hk => ?_, by rw [a2]; exact i2, fun j hj => ?_, fun w hw k hk => ?_, fun j w hw hj => ?_, fun k hk hl => ?_⟩
    · rcases hB k hk with h1 | rfl
      · exact i1 k h1
      · exact hs
    · rw [a2] at hj
      exact ⟨(hin _ (i3 j hj).1).1, (hin _ (i3 j hj).2).1⟩
    · rw [a3 k w hk hw]
      by_cases e : k = s
      · rw [if_pos e]; exact hq w hw
      · rw [if_neg e]; exact i4 w hw k ((hB k hk).resolve_right e)
    · rw [a2] at hj
      obtain ⟨j1, j2⟩ := i3 j (lkf_fo hj)
      rw [a3 _ w (hin _ j1).1 (by omega), a3 _ w (hin _ j2).1 (by omega), if_neg (hin _ j1).2, if_neg (hin _ j2).2]
      exact i5 j w hw hj
    · rw [a3 k 3 hk (by omega)]
      by_cases e : k = s
      · rw [if_pos e]; rw [e] at hl; exact hlb hl
      · rw [if_neg e]; exact i6 k ((hB k hk).resolve_right e) hl
  · obtain ⟨a0, a1, a2, a4, ⟨r0, r1⟩, a3⟩ := Does1.mp h
    have hsz : ∀ k w, A.1.testBit k = true → w = 2 ∨ w = 3 → B.2.2.1 k w = A.2.2.1 k w := fun k w hk hw => by
      rw [a3 k w hk (by omega), if_neg (by omega), i32_00]
    refine ⟨by rw [a1]; exact i1, by rw [a2]; exact i2, by rw [a2, a1]; exact i3, fun w hw k hk => ?_, fun j w hw hj => ?_, fun k hk hl => ?_⟩
    · rw [a1] at hk
      match w, hw with
      | 0, _ => exact r0 k hk
      | 1, _ => exact r1 k hk
      | 2, _ => rw [hsz k 2 hk (by omega)]; exact i4 2 (by omega) k hk
      | 3, _ => rw [hsz k 3 hk (by omega)]; exact i4 3 (by omega) k hk
    · rw [a2] at hj
      obtain ⟨j1, j2⟩ := i3 j (lkf_fo hj)
      rw [hsz _ w j1 hw, hsz _ w j2 hw]
      exact i5 j w hw hj
    · rw [a1] at hk
      rw [hsz k 3 hk (by omega)]
      exact i6 k hk hl
  · obtain ⟨a0, a1, a2, a4, ⟨r0, r1⟩, N1, G0, G1⟩ := Does2.mp h
    obtain ⟨u1, u2, u3⟩ := GrA_AI hW hA (x := 0) (by omega) a0 rfl hq2 (fun k w _ hw => by
      by_cases e : w = 2
      · exact Or.inl rfl
      · exact Or.inl rfl) (fun _ _ => rfl) G0
    have e3 : ∀ k, A.1.testBit k = true → N1 k 3 = A.2.2.1 k 3 := fun k hk => G0.2.2.1 k 3 hk (by omega) (by omega) (by omega)
    obtain ⟨v1, v2, v3⟩ := GrA_AI hW hA (x := 1) (by omega) a0 rfl hq3 (fun k w hk hw => by
      by_cases e : w = 1 + 2
      · left; rw [e]; exact e3 k hk
      · exact Or.inr ⟨e, trivial⟩) e3 G1
    have e2 : ∀ k, A.1.testBit k = true → B.2.2.1 k 2 = N1 k 2 := fun k hk => G1.2.2.1 k 2 hk (by omega) (by omega) (by omega)
    refine ⟨by rw [a1]; exact i1, by rw [a2]; exact i2, by rw [a2, a1]; exact i3, fun w hw k hk => ?_, fun j w hw hj => ?_, fun k hk hl => ?_⟩
    · rw [a1] at hk
      match w, hw with
      | 0, _ => exact r0 k hk
      | 1, _ => exact r1 k hk
      | 2, _ => rw [e2 k hk]; exact u1 k hk
      | 3, _ => exact v1 k hk
    · rw [a2] at hj
      obtain ⟨j1, j2⟩ := i3 j (lkf_fo hj)
      rcases hw with rfl | rfl
      · rw [e2 _ j1, e2 _ j2]; exact u2 j hj
      · exact v2 j hj
    · rw [a1] at hk
      rw [v3 k hk hl, e3 k hk]
      exact i6 k hk hl
  · obtain ⟨a0, a00, a1, a2, ⟨r0, r1⟩, hl⟩ := Does3.mp h
    have hofo : fok B.2.1 nr := by
      rw [a2]
      intro k hk
      rw [fb_bit_set, Bool.or_eq_true, decide_eq_true_eq] at hk
      rcases hk with hk | rfl
      · exact i2 k hk
      · exact hs
    have hoth : ∀ j, B.2.1.testBit j = true → B.1.testBit (fr j) = true ∧ B.1.testBit (to j) = true := by
      rw [a2, a1]
      intro k hk
      rw [fb_bit_set, Bool.or_eq_true, decide_eq_true_eq] at hk
      rcases hk with hk | rfl
      · exact i3 k hk
      · exact ⟨a0, a00⟩
    -- the sizes
    have hmain : (∀ w, w = 2 ∨ w = 3 → RG A.1 B.2.2.1 w) ∧ (∀ j w, w = 2 ∨ w = 3 → lkf A.2.1 kd w j = true → B.2.2.1 (fr j) w = B.2.2.1 (to j) w) ∧ (∀ w, w = 2 ∨ w = 3 → abt (kd s) w = true → B.2.2.1 (fr s) w = B.2.2.1 (to s) w) ∧ ∀ k, A.1.testBit k = true → lb k = true → B.2.2.1 k 3 = 2 := by
      have hplain : (∀ k w, A.1.testBit k = true → w = 2 ∨ w = 3 → B.2.2.1 k w = A.2.2.1 k w) → kd s ≠ 0 → kd s ≠ 1 → (∀ w, w = 2 ∨ w = 3 → RG A.1 B.2.2.1 w) ∧ (∀ j w, w = 2 ∨ w = 3 → lkf A.2.1 kd w j = true → B.2.2.1 (fr j) w = B.2.2.1 (to j) w) ∧ (∀ w, w = 2 ∨ w = 3 → abt (kd s) w = true → B.2.2.1 (fr s) w = B.2.2.1 (to s) w) ∧ ∀ k, A.1.testBit k = true → lb k = true → B.2.2.1 k 3 = 2 := by
        intro hp k0 k1
        refine ⟨fun w hw k hk => by rw [hp k w hk hw]; exact i4 w (by omega) k hk, fun j w hw hj => ?_, fun w hw hab => ?_, fun k hk hl2 => by rw [hp k 3 hk (by omega)]; exact i6 k hk hl2⟩
        · obtain ⟨j1, j2⟩ := i3 j (lkf_fo hj)
          rw [hp _ w j1 hw, hp _ w j2 hw]
          exact i5 j w hw hj
        · unfold abt at hab
          rcases hw with rfl | rfl
          · simp [k0] at hab
          · simp [k1] at hab
      have hsize : ∀ x, x < 2 → (kd s = 0 ∧ x = 0 ∨ kd s = 1 ∧ x = 1) → (∀ w, w = 2 ∨ w = 3 → RG A.1 B.2.2.1 w) ∧ (∀ j w, w = 2 ∨ w = 3 → lkf A.2.1 kd w j = true → B.2.2.1 (fr j) w = B.2.2.1 (to j) w) ∧ (∀ w, w = 2 ∨ w = 3 → abt (kd s) w = true → B.2.2.1 (fr s) w = B.2.2.1 (to s) w) ∧ ∀ k, A.1.testBit k = true → lb k = true → B.2.2.1 k 3 = 2 := by
        intro x hx hxk
        obtain ⟨G, -⟩ := (LyA_sz hxk).mp hl
        obtain ⟨u1, u2, u3⟩ := GrA_AI hW hA hx a00 rfl (i4 (x + 2) (by omega) _ a0) (fun k w _ _ => Or.inl rfl) (fun _ _ => rfl) G
        have hoth2 : ∀ k w, A.1.testBit k = true → w = 2 ∨ w = 3 → w ≠ x + 2 → B.2.2.1 k w = A.2.2.1 k w := fun k w hk hw hne => G.2.2.1 k w hk (by omega) (by omega) hne
        refine ⟨fun w hw k hk => ?_, fun j w hw hj => ?_, fun w hw hab => ?_, fun k hk hl2 => ?_⟩
        · by_cases e : w = x + 2
          · rw [e]; exact u1 k hk
          · rw [hoth2 k w hk hw e]; exact i4 w (by omega) k hk
        · obtain ⟨j1, j2⟩ := i3 j (lkf_fo hj)
          by_cases e : w = x + 2
          · subst e; exact u2 j hj
          · rw [hoth2 _ w j1 hw e, hoth2 _ w j2 hw e]; exact i5 j w hw hj
        · have e : w = x + 2 := by
            unfold abt at hab
            rcases hw with rfl | rfl <;> rcases hxk with ⟨h1, rfl⟩ | ⟨h1, rfl⟩ <;> simp [h1] at hab ⊢
          subst e
          rw [G.2.1 _ a0, G.2.1 _ a00, if_pos clo_self]
          split <;> rfl
        · by_cases e : 3 = x + 2
          · have := u3 k hk hl2
            rw [← e] at this
            rw [this]
            exact i6 k hk hl2
          · rw [hoth2 k 3 hk (by omega) e]
            exact i6 k hk hl2
      rcases hk with (hk | hk | hk | hk | hk | hk) | hk
      · exact hsize 0 (by omega) (Or.inl ⟨hk, rfl⟩)
      · exact hsize 1 (by omega) (Or.inr ⟨hk, rfl⟩)
      · obtain ⟨b0, -, -, h3, -⟩ := (LyA_sh (w0 := 0) (Or.inl ⟨Or.inl hk, rfl⟩)).mp hl
        exact hplain (fun k w hk hw => by rw [h3 k w hk (by omega), if_neg (by omega), i32_00]) (by rw [hk]; decide) (by rw [hk]; decide)
      · obtain ⟨b0, -, -, h3, -⟩ := (LyA_sh (w0 := 0) (Or.inl ⟨Or.inr hk, rfl⟩)).mp hl
        exact hplain (fun k w hk hw => by rw [h3 k w hk (by omega), if_neg (by omega), i32_00]) (by rw [hk]; decide) (by rw [hk]; decide)
      · obtain ⟨b0, -, -, h3, -⟩ := (LyA_sh (w0 := 1) (Or.inr ⟨Or.inl hk, rfl⟩)).mp hl
        exact hplain (fun k w hk hw => by rw [h3 k w hk (by omega), if_neg (by omega), i32_00]) (by rw [hk]; decide) (by rw [hk]; decide)
      · obtain ⟨b0, -, -, h3, -⟩ := (LyA_sh (w0 := 1) (Or.inr ⟨Or.inr hk, rfl⟩)).mp hl
        exact hplain (fun k w hk hw => by rw [h3 k w hk (by omega), if_neg (by omega), i32_00]) (by rw [hk]; decide) (by rw [hk]; decide)
      · obtain ⟨h3, -⟩ := (LyA_tie hk).mp hl
        exact hplain (fun k w hk hw => h3 k w hk (by omega)) (by rw [hk]; decide) (by rw [hk]; decide)
    obtain ⟨z1, z2, z3, z4⟩ := hmain
    refine ⟨by rw [a1]; exact i1, hofo, hoth, fun w hw k hk => ?_, fun j w hw hj => ?_, fun k hk hl2 => ?_⟩
    · rw [a1] at hk
      match w, hw with
      | 0, _ => exact r0 k hk
      | 1, _ => exact r1 k hk
      | 2, _ => exact z1 2 (by omega) k hk
      | 3, _ => exact z1 3 (by omega) k hk
    · have hj2 := hj
      unfold lkf at hj2
      rw [a2, fb_bit_set, Bool.and_eq_true, Bool.or_eq_true, decide_eq_true_eq] at hj2
      by_cases e : j = s
      · rw [e] at hj2 ⊢
        exact z3 w hw hj2.2
      · refine z2 j w hw ?_
        unfold lkf
        rw [hj2.1.resolve_right e, hj2.2]
        rfl
    · rw [a1] at hk
      exact z4 k hk hl2
  · obtain ⟨a0, a1, a2, a3, a4⟩ := Does4.mp h
    have hfo : A.2.1 < 2 ^ 12 := fok_lt i2 hW.1
    have hn := hW.1
    have hsub : ∀ j, B.2.1.testBit j = true → A.2.1.testBit j = true := by
      intro j hj
      rw [a2, clr_bit (by omega) (by omega), Bool.and_eq_true] at hj
      exact hj.1
    refine ⟨by rw [a1]; exact i1, fun j hj => i2 j (hsub j hj), by rw [a1]; exact fun j hj => i3 j (hsub j hj), fun w hw k hk => ?_, fun j w hw hj => ?_, fun k hk hl => ?_⟩
    · rw [a1] at hk
      rw [a3 k w hk hw]
      exact i4 w hw k hk
    · have hj2 : lkf A.2.1 kd w j = true := by
        unfold lkf at hj ⊢
        rw [Bool.and_eq_true] at hj ⊢
        exact ⟨hsub j hj.1, hj.2⟩
      obtain ⟨j1, j2⟩ := i3 j (lkf_fo hj2)
      rw [a3 _ w j1 (by omega), a3 _ w j2 (by omega)]
      exact i5 j w hw hj2
    · rw [a1] at hk
      rw [a3 k 3 hk (by omega)]
      exact i6 k hk hl
end
