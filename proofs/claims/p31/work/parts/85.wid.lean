/-! a label keeps its width -/
def WdI (lb : Nat → Bool) (W : Nat → Int32) (A : AB) : Prop := ∀ k, A.1.testBit k = true → lb k = true → A.2.2.1 k 2 = W k
section
variable {kd : Nat → Int32} {fr to : Nat → Nat} {lb : Nat → Bool} {ns nr : Nat} {A B : AB} {W : Nat → Int32}
theorem GrA_W {T N N' : Nat → Nat → Int32} {x g ld th fo : Nat} {v : Int32} (hx : x < 2) (h : GrA kd fr to lb th fo T x g ld v N N') (hN : ∀ k, th.testBit k = true → lb k = true → N k 2 = W k) : ∀ k, th.testBit k = true → lb k = true → N' k 2 = W k := by
  intro k hk hl
  obtain ⟨h1, h2, h3, -⟩ := h
  match x, hx with
  | 0, _ =>
    have := h2 k hk
    rw [show (0 : Nat) + 2 = 2 from rfl] at this
    rw [this]
    by_cases e : g.testBit k = true
    · rw [if_pos e, ← h1 k e hl]
      exact hN k hk hl
    · rw [if_neg e]
      exact hN k hk hl
  | 1, _ =>
    rw [h3 k 2 hk (by omega) (by omega) (by omega)]
    exact hN k hk hl
theorem WdI_step (hW : RW nr ns kd fr to) (hA : AI kd fr to lb ns nr A) (hH : WdI lb W A) {d : Int32} {s : Nat} {q : Nat → Int32} (hD : DW nr ns kd d s q) (hq : d = 0 → lb s = true → q 2 = W s) (h : Does kd fr to lb d s q A B) : WdI lb W B := by
  intro k hk hl
  rcases hD with ⟨rfl, -⟩ | ⟨rfl, -⟩ | ⟨rfl, -⟩ | ⟨rfl, hs, hkk⟩ | ⟨rfl, -⟩
  · obtain ⟨h1, h2, h3, h4⟩ := Does0.mp h
    rw [h3 k 2 hk (by omega)]
    by_cases e : k = s
    · subst e
      rw [if_pos rfl]
      exact hq rfl hl
    · rw [if_neg e]
      refine hH k ?_ hl
      rw [h1, fb_bit_set, Bool.or_eq_true, decide_eq_true_eq] at hk
      exact hk.resolve_right e
  · obtain ⟨h0, h1, h2, h3, -, h5⟩ := Does1.mp h
    rw [h1] at hk
    rw [h5 k 2 hk (by omega), if_neg (fun z => absurd z.1 (by omega)), i32_00]
    exact hH k hk hl
  · obtain ⟨h0, h1, h2, h3, -, N1, g0, g1⟩ := Does2.mp h
    rw [h1] at hk
    exact GrA_W (by omega) g1 (GrA_W (by omega) g0 hH) k hk hl
  · obtain ⟨ef, et, h1, h2, -, hL⟩ := Does3.mp h
    rw [h1] at hk
    rcases hkk with (e | e | e | e | e | e) | e
    · exact GrA_W (by omega) ((LyA_sz (Or.inl ⟨e, rfl⟩)).mp hL).1 hH k hk hl
    · exact GrA_W (by omega) ((LyA_sz (Or.inr ⟨e, rfl⟩)).mp hL).1 hH k hk hl
    · obtain ⟨b0, hb, hz, hN, hT⟩ := (LyA_sh (w0 := 0) (Or.inl ⟨Or.inl e, rfl⟩)).mp hL
      rw [hN k 2 hk (by omega), if_neg (fun z => absurd z.1 (by omega)), i32_00]
      exact hH k hk hl
    · obtain ⟨b0, hb, hz, hN, hT⟩ := (LyA_sh (w0 := 0) (Or.inl ⟨Or.inr e, rfl⟩)).mp hL
      rw [hN k 2 hk (by omega), if_neg (fun z => absurd z.1 (by omega)), i32_00]
      exact hH k hk hl
    · obtain ⟨b0, hb, hz, hN, hT⟩ := (LyA_sh (w0 := 1) (Or.inr ⟨Or.inl e, rfl⟩)).mp hL
      rw [hN k 2 hk (by omega), if_neg (fun z => absurd z.1 (by omega)), i32_00]
      exact hH k hk hl
    · obtain ⟨b0, hb, hz, hN, hT⟩ := (LyA_sh (w0 := 1) (Or.inr ⟨Or.inr e, rfl⟩)).mp hL
      rw [hN k 2 hk (by omega), if_neg (fun z => absurd z.1 (by omega)), i32_00]
      exact hH k hk hl
    · obtain ⟨g0, g1, g2⟩ := (LyA_tie e).mp hL
      rw [g0 k 2 hk (by omega)]
      exact hH k hk hl
  · obtain ⟨h0, h1, h2, h3, h4⟩ := Does4.mp h
    rw [h1] at hk
    rw [h3 k 2 hk (by omega)]
    exact hH k hk hl
variable {dd : Nat → Int32} {sj : Nat → Nat} {qq : Nat → Nat → Int32} {set : Nat}
theorem rep_wid {na : Nat} (hW : RW nr ns kd fr to) (hA : WA na nr ns kd lb dd sj qq) (hq : ∀ a, a < na → dd a = 0 → lb (sj a) = true → qq a 2 = W (sj a)) : ∀ n, n ≤ na → WdI lb W (rep kd fr to lb dd sj qq set n).1
  | 0, _ => fun k hk => absurd hk (by show ¬ (0 : Nat).testBit k = true; rw [Nat.zero_testBit]; decide)
  | n + 1, hn => by
    have m1 := rep_wid hW hA hq n (by omega)
    obtain ⟨h1, h2, h3, h4⟩ := rep_ok (set := set) hW hA n (by omega)
    obtain ⟨w1, w2⟩ := hA.1 n (by omega)
    rw [rep]
    by_cases e : set.testBit n = true
    · rw [if_pos e]
      cases hst : stp kd fr to lb (dd n) (sj n) (qq n) (rep kd fr to lb dd sj qq set n).1 with
      | none => exact m1
      | some B => exact WdI_step hW h1 m1 w1 (hq n (by omega)) (stp_does hst)
    · rw [if_neg e]
      exact m1
end
