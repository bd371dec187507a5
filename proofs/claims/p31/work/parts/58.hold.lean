/-! rules in force hold on a board; what was laid, what is void -/
section
variable {nr ns : Nat} {kd : Nat → Int32} {fr to : Nat → Nat} {lb : Nat → Bool} {A B : AB}
def HI (kd : Nat → Int32) (fr to : Nat → Nat) (A : AB) : Prop := ∀ j w, w < 2 → lkf A.2.1 kd w j = true → A.2.2.1 (to j) w = A.2.2.1 (fr j) w + gpA A.2.2.1 A.2.2.2 kd fr w j
theorem gpA_cong {N N' T T' : Nat → Nat → Int32} {w j : Nat} (h1 : kd j = 2 ∨ kd j = 4 → N' (fr j) (w + 2) = N (fr j) (w + 2)) (h2 : kd j = 6 → T' j w = T j w) : gpA N' T' kd fr w j = gpA N T kd fr w j := by
  unfold gpA
  by_cases e : kd j = 2 ∨ kd j = 4
  · rw [if_pos e, if_pos e, h1 e]
  · rw [if_neg e, if_neg e]
    by_cases e6 : kd j = 6
    · rw [if_pos e6, if_pos e6, h2 e6]
    · rw [if_neg e6, if_neg e6]
theorem lkf_abt {fo w j : Nat} (h : lkf fo kd w j = true) : abt (kd j) w = true := by
  unfold lkf at h
  rw [Bool.and_eq_true] at h
  exact h.2
theorem GrA_HI (hW : RW nr ns kd fr to) (hA : AI kd fr to lb ns nr A) {T N N' : Nat → Nat → Int32} {x g ld : Nat} {v : Int32} (hx : x < 2) (h : GrA kd fr to lb A.1 A.2.1 T x g ld v N N') (hN : ∀ j w, w < 2 → lkf A.2.1 kd w j = true → N (to j) w = N (fr j) w + gpA N T kd fr w j) : ∀ j w, w < 2 → lkf A.2.1 kd w j = true → N' (to j) w = N' (fr j) w + gpA N' T kd fr w j := by
  intro j w hw hj
  obtain ⟨-, h2, h3, c, hT, hc⟩ := h
  have ho := RW_ok (w := w) hW hA.2.1
  have hl := RW_lt (w := w) hW hA.2.1
  obtain ⟨ef, et⟩ := hA.2.2.1 j (lkf_fo hj)
  by_cases e : w = x
  · subst e
    have hg2 : gpA N' T kd fr w j = gpA (setc N g (w + 2) v) T kd fr w j := gpA_cong (fun _ => by
      rw [h2 _ ef]
      unfold setc
      by_cases q : g.testBit (fr j) = true
      · rw [if_pos q, if_pos ⟨rfl, q⟩]
      · rw [if_neg q, if_neg (fun z => q z.2)]) (fun _ => rfl)
    have hf10 := fixF_lt (ld := ld) (ch := fun k => g.testBit k && decide (N k (w + 2) ≠ v)) ho (Nat.le_refl 10)
    have c1 : N' (to j) w = c (to j) := hc _ et
    have c2 : N' (fr j) w = c (fr j) := hc _ ef
    by_cases hD : Dm (lkf A.2.1 kd w) fr to (fixF (lkf A.2.1 kd w) fr to ld (fun k => g.testBit k && decide (N k (w + 2) ≠ v)) 10) (fr j)
    · have := (hT.2.1 rfl).2 j hj hD
      rw [c1, c2, hg2]
      exact this
    · have hD2 : ¬ Dm (lkf A.2.1 kd w) fr to (fixF (lkf A.2.1 kd w) fr to ld (fun k => g.testBit k && decide (N k (w + 2) ≠ v)) 10) (to j) := fun q => hD ((Dm_link ho hl hf10 hj).mpr q)
      have b1 : c (to j) = N (to j) w := hT.1 _ hD2
      have b2 : c (fr j) = N (fr j) w := hT.1 _ hD
      have b3 : gpA (setc N g (w + 2) v) T kd fr w j = gpA N T kd fr w j := gpA_cong (fun _ => by
        unfold setc
        by_cases q : g.testBit (fr j) = true
        · rw [if_pos ⟨rfl, q⟩]
          by_cases q2 : N (fr j) (w + 2) = v
          · exact q2.symm
          · exact absurd ((fixF_Dm ho hl (Nat.le_refl 10)).mpr ⟨fr j, (ho j hj).1, by rw [q, decide_eq_true q2]; rfl, clo_self⟩) hD
        · rw [if_neg (fun z => q z.2)]) (fun _ => rfl)
      rw [c1, c2, b1, b2, hg2, b3]
      exact hN j w hw hj
  · have a1 : N' (to j) w = N (to j) w := h3 _ w et (by omega) e (by omega)
    have a2 : N' (fr j) w = N (fr j) w := h3 _ w ef (by omega) e (by omega)
    have a3 : N' (fr j) (w + 2) = N (fr j) (w + 2) := h3 _ (w + 2) ef (by omega) (by omega) (by omega)
    rw [a1, a2, gpA_cong (fr := fr) (N := N) (N' := N') (T := T) (T' := T) (fun _ => a3) (fun _ => rfl)]
    exact hN j w hw hj
theorem i32_mv {a f g : Int32} : a + (g - (a - f)) = f + g := by grind
theorem i32_ad {a b g x : Int32} (h : a = b + g) : a + x = b + x + g := by grind
theorem HI_step (hW : RW nr ns kd fr to) (hA : AI kd fr to lb ns nr A) (hH : HI kd fr to A) {d : Int32} {s : Nat} {q : Nat → Int32} (hD : DW nr ns kd d s q) (hD2 : DW2 lb A.1 d s q) {B : AB} (h : Does kd fr to lb d s q A B) : HI kd fr to B := by
  intro j w hw hj
  rcases hD with ⟨rfl, -⟩ | ⟨rfl, -⟩ | ⟨rfl, -⟩ | ⟨rfl, hs, hk⟩ | ⟨rfl, -⟩
  · obtain ⟨h1, h2, h3, h4⟩ := Does0.mp h
    have hn := (hD2 rfl).1
    rw [h2] at hj
    obtain ⟨ef, et⟩ := hA.2.2.1 j (lkf_fo hj)
    have nf : ∀ k, A.1.testBit k = true → ∀ v, v < 4 → B.2.2.1 k v = A.2.2.1 k v := fun k hk v hv => by
      have hk2 : B.1.testBit k = true := by rw [h1, Nat.testBit_or, hk]; rfl
      rw [h3 k v hk2 hv, if_neg]
      rintro rfl
      rw [hn] at hk
      exact absurd hk (by decide)
    rw [nf _ et w (by omega), nf _ ef w (by omega), gpA_cong (fr := fr) (N := A.2.2.1) (T := A.2.2.2) (fun _ => nf _ ef _ (by omega)) (fun e6 => h4 j w (lkf_fo hj) e6 hw)]
    exact hH j w hw hj
  · obtain ⟨h0, h1, h2, h3, -, h5⟩ := Does1.mp h
    rw [h2] at hj
    obtain ⟨ef, et⟩ := hA.2.2.1 j (lkf_fo hj)
    have hs10 : s < 10 := by
      have := hA.1 s h0
      have := hW.2.1
      omega
    have hcl := clo_closed (RW_ok (w := w) hW hA.2.1) (RW_lt (w := w) hW hA.2.1) hs10 j hj
    have hgp : gpA B.2.2.1 B.2.2.2 kd fr w j = gpA A.2.2.1 A.2.2.2 kd fr w j := gpA_cong (fun _ => by rw [h5 _ (w + 2) ef (by omega), if_neg (fun z => absurd z.1 (by omega)), i32_00]) (fun e6 => h3 j w (lkf_fo hj) e6 hw)
    rw [h5 _ w et (by omega), h5 _ w ef (by omega), hgp]
    by_cases e : (clo (lkf A.2.1 kd w) fr to s).testBit (fr j) = true
    · rw [if_pos ⟨hw, hcl.mp e⟩, if_pos ⟨hw, e⟩]
      exact i32_ad (hH j w hw hj)
    · rw [if_neg (fun z => e (hcl.mpr z.2)), if_neg (fun z => e z.2), i32_00, i32_00]
      exact hH j w hw hj
  · obtain ⟨h0, h1, h2, h3, -, N1, g0, g1⟩ := Does2.mp h
    rw [h2] at hj
    have e0 := GrA_HI hW hA (by omega) g0 hH
    have e1 := GrA_HI hW hA (by omega) g1 e0 j w hw hj
    rw [e1, gpA_cong (fr := fr) (N := B.2.2.1) (N' := B.2.2.1) (T := A.2.2.2) (T' := B.2.2.2) (fun _ => rfl) (fun e6 => h3 j w (lkf_fo hj) e6 hw)]
  · obtain ⟨ef, et, h1, h2, -, hL⟩ := Does3.mp h
    rw [h2] at hj
    have hold : j ≠ s → lkf A.2.1 kd w j = true := by
      intro e
      unfold lkf at hj ⊢
      rw [fb_bit_set, Bool.and_eq_true, Bool.or_eq_true, decide_eq_true_eq] at hj
      rw [Bool.and_eq_true]
      exact ⟨hj.1.resolve_right e, hj.2⟩
    have hab := lkf_abt hj
    have hs10 : to s < 10 := by
      have := hA.1 _ et
      have := hW.2.1
      omega
    have hsz : ∀ x, x < 2 → (kd s = 0 ∧ x = 0 ∨ kd s = 1 ∧ x = 1) → B.2.2.1 (to j) w = B.2.2.1 (fr j) w + gpA B.2.2.1 B.2.2.2 kd fr w j := by
      intro x hx hx2
      obtain ⟨g0, g1⟩ := (LyA_sz hx2).mp hL
      have hjs : j ≠ s := by
        rintro rfl
        rcases hx2 with ⟨e, -⟩ | ⟨e, -⟩ <;> rw [e] at hab <;> (match w, hw with
          | 0, _ => exact absurd hab (by decide)
          | 1, _ => exact absurd hab (by decide))
      have e1 := GrA_HI hW hA hx g0 hH j w hw (hold hjs)
      rw [e1, gpA_cong (fr := fr) (N := B.2.2.1) (N' := B.2.2.1) (T := A.2.2.2) (T' := B.2.2.2) (fun _ => rfl) (fun e6 => g1 j w (lkf_fo (hold hjs)) e6 hw)]
    have hsh : ∀ w0, ((kd s = 2 ∨ kd s = 3) ∧ w0 = 0 ∨ (kd s = 4 ∨ kd s = 5) ∧ w0 = 1) → B.2.2.1 (to j) w = B.2.2.1 (fr j) w + gpA B.2.2.1 B.2.2.2 kd fr w j := by
      intro w0 hw0
      obtain ⟨b0, hb, hz, hN, hT⟩ := (LyA_sh hw0).mp hL
      have h6 : kd s ≠ 6 := by rcases hw0 with ⟨e | e, -⟩ | ⟨e | e, -⟩ <;> rw [e] <;> decide
      have hsz2 : ∀ k, A.1.testBit k = true → B.2.2.1 k (w + 2) = A.2.2.1 k (w + 2) := fun k hk => by
        rw [hN k (w + 2) hk (by omega), if_neg (fun z => by have := z.1; omega), i32_00]
      by_cases hjs : j = s
      · subst hjs
        have hww : w = w0 := by
          have := abt_w (Or.inr (Or.inr hw0)) w (by omega)
          rw [this] at hab
          exact of_decide_eq_true hab
        subst hww
        have hf : B.2.2.1 (fr j) w = A.2.2.1 (fr j) w := by
          rw [hN _ w ef (by omega)]
          by_cases e : (clo (lkf A.2.1 kd w) fr to (to j)).testBit (fr j) = true
          · rw [if_pos ⟨rfl, e⟩, hz e, i32_00]
          · rw [if_neg (fun z => e z.2), i32_00]
        have hg : gpA B.2.2.1 B.2.2.2 kd fr w j = (if kd j = 2 ∨ kd j = 4 then A.2.2.1 (fr j) (w + 2) else 0) := by
          unfold gpA
          rw [hsz2 _ ef, if_neg h6]
        rw [hf, hg, hN _ w et (by omega), if_pos ⟨rfl, clo_self⟩, hb]
        exact i32_mv
      · have hj2 := hold hjs
        obtain ⟨jf, jt⟩ := hA.2.2.1 j (lkf_fo hj2)
        have hgp : gpA B.2.2.1 B.2.2.2 kd fr w j = gpA A.2.2.1 A.2.2.2 kd fr w j := gpA_cong (fun _ => hsz2 _ jf) (fun e6 => hT j w (lkf_fo hj2) e6 hw)
        rw [hN _ w jt (by omega), hN _ w jf (by omega), hgp]
        by_cases hww : w = w0
        · subst hww
          have hcl := clo_closed (RW_ok (w := w) hW hA.2.1) (RW_lt (w := w) hW hA.2.1) hs10 j hj2
          by_cases e : (clo (lkf A.2.1 kd w) fr to (to s)).testBit (fr j) = true
          · rw [if_pos ⟨rfl, hcl.mp e⟩, if_pos ⟨rfl, e⟩]
            exact i32_ad (hH j w hw hj2)
          · rw [if_neg (fun z => e (hcl.mpr z.2)), if_neg (fun z => e z.2), i32_00, i32_00]
            exact hH j w hw hj2
        · rw [if_neg (fun z => hww z.1), if_neg (fun z => hww z.1), i32_00, i32_00]
          exact hH j w hw hj2
    rcases hk with (e | e | e | e | e | e) | e
    · exact hsz 0 (by omega) (Or.inl ⟨e, rfl⟩)
    · exact hsz 1 (by omega) (Or.inr ⟨e, rfl⟩)
    · exact hsh 0 (Or.inl ⟨Or.inl e, rfl⟩)
    · exact hsh 0 (Or.inl ⟨Or.inr e, rfl⟩)
    · exact hsh 1 (Or.inr ⟨Or.inl e, rfl⟩)
    · exact hsh 1 (Or.inr ⟨Or.inr e, rfl⟩)
    · obtain ⟨g0, g1, g2⟩ := (LyA_tie e).mp hL
      by_cases hjs : j = s
      · subst hjs
        have hg : gpA B.2.2.1 B.2.2.2 kd fr w j = A.2.2.1 (to j) w - A.2.2.1 (fr j) w := by
          unfold gpA
          rw [if_neg (by rw [e]; decide), if_pos e]
          exact g1 w hw
        rw [g0 _ w et (by omega), g0 _ w ef (by omega), hg]
        exact (i32_by rfl).symm
      · have hj2 := hold hjs
        obtain ⟨jf, jt⟩ := hA.2.2.1 j (lkf_fo hj2)
        rw [g0 _ w jt (by omega), g0 _ w jf (by omega), gpA_cong (fr := fr) (N := A.2.2.1) (T := A.2.2.2) (fun _ => g0 _ _ jf (by omega)) (fun e6 => g2 j w hjs (lkf_fo hj2) e6 hw)]
        exact hH j w hw hj2
  · obtain ⟨h0, h1, h2, h3, h4⟩ := Does4.mp h
    have hj2 : lkf A.2.1 kd w j = true := by
      unfold lkf at hj ⊢
      rw [Bool.and_eq_true] at hj ⊢
      refine ⟨?_, hj.2⟩
      have hfo := fok_lt hA.2.1 hW.1
      have hs12 : s < 12 := by
        have := hA.2.1 s h0
        have := hW.1
        omega
      have := hj.1
      rw [h2, clr_bit (by omega) (by omega), Bool.and_eq_true] at this
      exact this.1
    obtain ⟨jf, jt⟩ := hA.2.2.1 j (lkf_fo hj2)
    rw [h3 _ w jt (by omega), h3 _ w jf (by omega), gpA_cong (fr := fr) (N := A.2.2.1) (T := A.2.2.2) (fun _ => h3 _ _ jf (by omega)) (fun e6 => h4 j w (lkf_fo hj2) e6 hw)]
    exact hH j w hw hj2
theorem Does_fo {d : Int32} {s : Nat} {q : Nat → Int32} (hD : DW nr ns kd d s q) (hA : AI kd fr to lb ns nr A) (hW : RW nr ns kd fr to) (h : Does kd fr to lb d s q A B) : ∀ j, B.2.1.testBit j = true → A.2.1.testBit j = true ∨ d = 3 ∧ j = s := by
  intro j hj
  rcases hD with ⟨rfl, -⟩ | ⟨rfl, -⟩ | ⟨rfl, -⟩ | ⟨rfl, -⟩ | ⟨rfl, -⟩
  · rw [(Does0.mp h).2.1] at hj; exact Or.inl hj
  · rw [(Does1.mp h).2.2.1] at hj; exact Or.inl hj
  · rw [(Does2.mp h).2.2.1] at hj; exact Or.inl hj
  · rw [(Does3.mp h).2.2.2.1, fb_bit_set, Bool.or_eq_true, decide_eq_true_eq] at hj
    exact hj.imp id (fun e => ⟨rfl, e⟩)
  · obtain ⟨h0, -, h2, -⟩ := Does4.mp h
    have hfo := fok_lt hA.2.1 hW.1
    have hs12 : s < 12 := by
      have := hA.2.1 s h0
      have := hW.1
      omega
    rw [h2, clr_bit (by omega) (by omega), Bool.and_eq_true] at hj
    exact Or.inl hj.1
variable {dd : Nat → Int32} {sj : Nat → Nat} {qq : Nat → Nat → Int32} {set : Nat}
/-- what is sure of a board that acts made, beside what always holds -/
theorem rep_more {na : Nat} (hW : RW nr ns kd fr to) (hA : WA na nr ns kd lb dd sj qq) : ∀ n, n ≤ na → HI kd fr to (rep kd fr to lb dd sj qq set n).1 ∧ (∀ j, (rep kd fr to lb dd sj qq set n).1.2.1.testBit j = true → ∃ a, a < n ∧ dd a = 3 ∧ sj a = j ∧ set.testBit a = true ∧ (rep kd fr to lb dd sj qq set n).2.testBit a = false) ∧ ∀ a, (rep kd fr to lb dd sj qq set n).2.testBit a = true → dd a ≠ 0
  | 0, _ => ⟨fun j w _ hj => absurd (lkf_fo hj) (by show ¬ (0 : Nat).testBit j = true; rw [Nat.zero_testBit]; decide), fun k hk => absurd hk (by show ¬ (0 : Nat).testBit k = true; rw [Nat.zero_testBit]; decide), fun k hk => absurd hk (by show ¬ (0 : Nat).testBit k = true; rw [Nat.zero_testBit]; decide)⟩
  | n + 1, hn => by
    obtain ⟨m1, m2, m3⟩ := rep_more hW hA n (by omega)
    obtain ⟨h1, h2, h3, h4⟩ := rep_ok (set := set) hW hA n (by omega)
    obtain ⟨w1, w2⟩ := hA.1 n (by omega)
    have hvn : (rep kd fr to lb dd sj qq set n).2.testBit n = false := Nat.testBit_lt_two_pow h3
    rw [rep]
    by_cases e : set.testBit n = true
    · rw [if_pos e]
      cases hst : stp kd fr to lb (dd n) (sj n) (qq n) (rep kd fr to lb dd sj qq set n).1 with
      | none =>
        refine ⟨m1, fun j hj => ?_, fun a ha => ?_⟩
        · obtain ⟨a, a1, a2, a3, a4, a5⟩ := m2 j hj
          refine ⟨a, by omega, a2, a3, a4, ?_⟩
          dsimp only
          rw [fb_bit_set, a5, decide_eq_false (by omega)]
          rfl
        · dsimp only at ha
          rw [fb_bit_set, Bool.or_eq_true, decide_eq_true_eq] at ha
          rcases ha with ha | rfl
          · exact m3 a ha
          · intro d0
            rw [d0] at hst
            obtain ⟨C, c1, -⟩ := stp_yes (kd := kd) (fr := fr) (to := to) (lb := lb) (A := (rep kd fr to lb dd sj qq set a).1) (d := 0) (s := sj a) (q := qq a) ⟨((rep kd fr to lb dd sj qq set a).1.1 ||| 2 ^ sj a, (rep kd fr to lb dd sj qq set a).1.2.1, fun k w => if k = sj a then qq a w else (rep kd fr to lb dd sj qq set a).1.2.2.1 k w, (rep kd fr to lb dd sj qq set a).1.2.2.2), Does0.mpr ⟨rfl, rfl, fun _ _ _ _ => rfl, fun _ _ _ _ _ => rfl⟩⟩
            rw [hst] at c1
            cases c1
      | some B =>
        have hB := stp_does hst
        have hD2 : DW2 lb (rep kd fr to lb dd sj qq set n).1.1 (dd n) (sj n) (qq n) := by
          intro d0
          refine ⟨?_, w2 d0⟩
          cases e2 : (rep kd fr to lb dd sj qq set n).1.1.testBit (sj n) with
          | false => rfl
          | true =>
            obtain ⟨a, a1, a2, a3⟩ := h2 _ e2
            exact absurd a3 (hA.2 a n a1 (by omega) a2 d0)
        refine ⟨HI_step hW h1 m1 w1 hD2 hB, fun j hj => ?_, m3⟩
        rcases Does_fo w1 h1 hW hB j hj with h | ⟨d3, rfl⟩
        · obtain ⟨a, a1, a2⟩ := m2 j h
          exact ⟨a, by omega, a2⟩
        · exact ⟨n, by omega, d3, rfl, e, hvn⟩
    · rw [if_neg e]
      refine ⟨m1, fun j hj => ?_, m3⟩
      obtain ⟨a, a1, a2⟩ := m2 j hj
      exact ⟨a, by omega, a2⟩
end
