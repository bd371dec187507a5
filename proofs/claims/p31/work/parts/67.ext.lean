/-! one act more -/
def exF {α : Type} (f : Nat → α) (n : Nat) (x : α) : Nat → α := fun a => if a = n then x else f a
theorem exF_at {α : Type} {f : Nat → α} {n : Nat} {x : α} : exF f n x n = x := if_pos rfl
theorem exF_ne {α : Type} {f : Nat → α} {n a : Nat} {x : α} (h : a ≠ n) : exF f n x a = f a := if_neg h
/-- a world that has grown -/
def XE (ns nr ns' nr' : Nat) (len len' : Nat → Nat) (trn trn' : Nat → Bool) (txt txt' : Nat → Nat → Nat) (kd kd' : Nat → Int32) (fr fr' to to' : Nat → Nat) : Prop := ns ≤ ns' ∧ nr ≤ nr' ∧ (∀ k, k < ns → len' k = len k ∧ trn' k = trn k ∧ txt' k = txt k) ∧ ∀ k, k < nr → kd' k = kd k ∧ fr' k = fr k ∧ to' k = to k
section
variable {ns nr na ns' nr' : Nat} {len len' fr to fr' to' sj dr ab st : Nat → Nat} {trn trn' : Nat → Bool} {txt txt' : Nat → Nat → Nat} {kd kd' dd : Nat → Int32} {qq : Nat → Nat → Int32}
theorem XE_EQ (h : XE ns nr ns' nr' len len' trn trn' txt txt' kd kd' fr fr' to to') : EQ nr ns kd kd' fr to fr' to' (lbL len) (lbL len') := by
  refine ⟨fun k hk => ?_, fun k hk => ?_⟩
  · obtain ⟨e1, e2, e3⟩ := h.2.2.2 k hk
    exact ⟨e1.symm, e2.symm, e3.symm⟩
  · unfold lbL
    rw [(h.2.2.1 k hk).1]
theorem DW_mono {d : Int32} {s : Nat} {q : Nat → Int32} (hns : ns ≤ ns') (hnr : nr ≤ nr') (hk : ∀ k, k < nr → kd' k = kd k) (h : DW nr ns kd d s q) : DW nr' ns' kd' d s q := by
  rcases h with ⟨h1, h2, h3⟩ | ⟨h1, h2, h3⟩ | ⟨h1, h2, h3⟩ | ⟨h1, h2, h3⟩ | ⟨h1, h2⟩
  · exact Or.inl ⟨h1, by omega, h3⟩
  · exact Or.inr (Or.inl ⟨h1, by omega, h3⟩)
  · exact Or.inr (Or.inr (Or.inl ⟨h1, by omega, h3⟩))
  · exact Or.inr (Or.inr (Or.inr (Or.inl ⟨h1, by omega, by rw [hk s h2]; exact h3⟩)))
  · exact Or.inr (Or.inr (Or.inr (Or.inr ⟨h1, by omega⟩)))
theorem DW_s {d : Int32} {s : Nat} {q : Nat → Int32} (h : DW nr ns kd d s q) (hd : d = 0) : s < ns := by
  rcases h with ⟨-, h, -⟩ | ⟨h, -⟩ | ⟨h, -⟩ | ⟨h, -⟩ | ⟨h, -⟩
  · exact h
  · rw [h] at hd; exact absurd hd (by decide)
  · rw [h] at hd; exact absurd hd (by decide)
  · rw [h] at hd; exact absurd hd (by decide)
  · rw [h] at hd; exact absurd hd (by decide)
theorem WA_env (hX : XE ns nr ns' nr' len len' trn trn' txt txt' kd kd' fr fr' to to') (h : WA na nr ns kd (lbL len) dd sj qq) : WA na nr' ns' kd' (lbL len') dd sj qq := by
  refine ⟨fun a ha => ⟨DW_mono hX.1 hX.2.1 (fun k hk => (hX.2.2.2 k hk).1) (h.1 a ha).1, fun h0 hl => ?_⟩, h.2⟩
  refine (h.1 a ha).2 h0 ?_
  have hs := DW_s (h.1 a ha).1 h0
  unfold lbL at hl ⊢
  rw [(hX.2.2.1 _ hs).1] at hl
  exact hl
theorem WA_next {d : Int32} {s : Nat} {q : Nat → Int32} {lb : Nat → Bool} (h : WA na nr ns kd lb dd sj qq) (hD : DW nr ns kd d s q) (hD2 : d = 0 → lb s = true → q 3 = 2) (hD3 : d = 0 → ∀ a, a < na → dd a = 0 → sj a ≠ s) : WA (na + 1) nr ns kd lb (exF dd na d) (exF sj na s) (exF qq na q) := by
  refine ⟨fun a ha => ?_, fun a c hac hc ha0 hc0 => ?_⟩
  · by_cases e : a = na
    · rw [e, exF_at, exF_at, exF_at]; exact ⟨hD, hD2⟩
    · rw [exF_ne e, exF_ne e, exF_ne e]; exact h.1 a (by omega)
  · rw [exF_ne (show a ≠ na by omega)] at ha0 ⊢
    by_cases e : c = na
    · subst e
      rw [exF_at] at hc0 ⊢
      exact hD3 hc0 a hac ha0
    · rw [exF_ne e] at hc0 ⊢
      exact h.2 a c hac (by omega) ha0 hc0
theorem TWF_next (hT : TWF na dr ab st) {w : Nat} (hw : w < 4) (hna : na < 60) : TWF (na + 1) (exF dr na w) (exF ab na (st w)) (stA st w (na + 1)) := by
  obtain ⟨h1, h2, h3⟩ := hT
  refine ⟨by omega, fun k hk => ?_, fun x hx => ?_⟩
  · by_cases e : k = na
    · subst e
      rw [exF_at, exF_at]
      refine ⟨hw, (h3 w hw).1, fun j hj => ?_⟩
      have := (h3 w hw).1
      rw [exF_ne (show j ≠ k by omega)]
      exact (h3 w hw).2 j hj
    · rw [exF_ne e, exF_ne e]
      obtain ⟨a1, a2, a3⟩ := h2 k (by omega)
      refine ⟨a1, a2, fun j hj => ?_⟩
      rw [exF_ne (show j ≠ na by omega)]
      exact a3 j hj
  · unfold stA
    by_cases e : x = w
    · rw [if_pos e]
      refine ⟨by omega, fun j hj => ?_⟩
      rw [show j = na by omega, exF_at, e]
    · rw [if_neg e]
      obtain ⟨a1, a2⟩ := h3 x hx
      refine ⟨by omega, fun j hj => ?_⟩
      rw [exF_ne (show j ≠ na by omega)]
      exact a2 j hj
theorem way_ex {n : Nat} {v : Nat} : ∀ m s, s ≤ n → (∀ k, k < n → ab k ≤ k) → way (exF ab n v) m s = way ab m s
  | 0, s, _, _ => by
    match s with
    | 0 => rfl
    | s + 1 => rfl
  | m + 1, 0, _, _ => rfl
  | m + 1, k + 1, h, hab => by
    have := hab k (by omega)
    show 2 ^ k ||| way (exF ab n v) m (exF ab n v k) = 2 ^ k ||| way ab m (ab k)
    rw [exF_ne (show k ≠ n by omega), way_ex m (ab k) (by omega) hab]
theorem wy_ex {n s v : Nat} (hs : s ≤ n) (hab : ∀ k, k < n → ab k ≤ k) : wy (exF ab n v) s = wy ab s := way_ex s s hs hab
theorem cset_next (hT : TWF na dr ab st) {w : Nat} (hw : w < 4) (hna : na < 60) : (cset (stA st w (na + 1)) (exF ab na (st w))).testBit na = true ∧ ∀ k, k < na → (cset (stA st w (na + 1)) (exF ab na (st w))).testBit k = (cset st ab).testBit k := by
  have hT' := TWF_next hT hw hna
  have hab : ∀ k, k < na → ab k ≤ k := fun k hk => (hT.2.1 k hk).2.1
  have hab' : ∀ k, k < na + 1 → exF ab na (st w) k ≤ k := fun k hk => (hT'.2.1 k hk).2.1
  have hsw := (hT.2.2 w hw).1
  have hw1 : wy (exF ab na (st w)) (na + 1) = 2 ^ na ||| wy ab (st w) := by
    rw [wy_s hab' (by omega), exF_at, wy_ex hsw hab]
  constructor
  · rw [cset_bit hT' (by omega), exF_at]
    show (wy (exF ab na (st w)) (if w = w then na + 1 else st w)).testBit na = true
    rw [if_pos rfl, hw1, Nat.testBit_or, Nat.testBit_two_pow_self]
    rfl
  · intro k hk
    rw [cset_bit hT' (by omega), cset_bit hT hk, exF_ne (show k ≠ na by omega)]
    show (wy (exF ab na (st w)) (if dr k = w then na + 1 else st (dr k))).testBit k = _
    by_cases e : dr k = w
    · rw [if_pos e, hw1, Nat.testBit_or, Nat.testBit_two_pow, e]
      have : ¬ na = k := by omega
      simp [this]
    · rw [if_neg e, wy_ex ((hT.2.2 _ (hT.2.1 k hk).1).1) hab]
theorem nmS_cong {N N' : Nat → Int32} : ∀ {n}, (∀ w, w < n → N w = N' w) → nmS N n = nmS N' n
  | 0, _ => rfl
  | n + 1, h => by
    show nmS N n ++ _ = nmS N' n ++ _
    rw [nmS_cong (n := n) (fun w hw => h w (by omega)), h n (by omega)]
theorem alS_cong {th : Nat} {N : Nat → Nat → Int32} (h : ∀ k, th.testBit k = true → len' k = len k ∧ trn' k = trn k ∧ txt' k = txt k) : ∀ n, alS th N len' trn' txt' n = alS th N len trn txt n
  | 0 => rfl
  | n + 1 => by
    show alS th N len' trn' txt' n ++ (if th.testBit n = true then shS N len' trn' txt' n else []) = alS th N len trn txt n ++ (if th.testBit n = true then shS N len trn txt n else [])
    rw [alS_cong h n]
    congr 1
    by_cases e : th.testBit n = true
    · rw [if_pos e, if_pos e]
      obtain ⟨e1, e2, e3⟩ := h n e
      unfold shS
      rw [e1, e2, e3]
    · rw [if_neg e, if_neg e]
theorem TX_cong {A : AB} (h : ∀ k, A.1.testBit k = true → len' k = len k ∧ trn' k = trn k ∧ txt' k = txt k) : TX A len' trn' txt' = TX A len trn txt := by
  unfold TX
  rw [alS_cong h]
end
theorem EC_cong {S : HS} {ne nm : Nat} {se : Nat → Nat} {T T' : Nat → List Nat} (hT : ∀ e, e < ne → T' e = T e) (h : EC S ne nm se T) : EC S ne nm se T' := by
  obtain ⟨h1, h2, h3, h4⟩ := h
  refine ⟨h1, h2, fun e he => ?_, h4⟩
  rw [hT e he]
  exact h3 e he
section
variable {S : HS} {sp ns nr na ne nm : Nat} {lt len fr to sj dr ab st lby se : Nat → Nat} {trn : Nat → Bool} {txt : Nat → Nat → Nat} {kd dd : Nat → Int32} {qq : Nat → Nat → Int32} {ns' nr' w s : Nat} {len' fr' to' lby' : Nat → Nat} {trn' : Nat → Bool} {txt' : Nat → Nat → Nat} {kd' : Nat → Int32} {d : Int32} {q : Nat → Int32} {B : AB}
theorem rep_next (g2 : GW ns nr na len kd fr to dd sj qq dr ab st lby) (hX : XE ns nr ns' nr' len len' trn trn' txt txt' kd kd' fr fr' to to') (hw : w < 4) (hna : na < 60) (hst : stp kd' fr' to' (lbL len') d s q (rep kd fr to (lbL len) dd sj qq (cset st ab) na).1 = some B) : rep kd' fr' to' (lbL len') (exF dd na d) (exF sj na s) (exF qq na q) (cset (stA st w (na + 1)) (exF ab na (st w))) (na + 1) = (B, (rep kd fr to (lbL len) dd sj qq (cset st ab) na).2) := by
  obtain ⟨gW, gA, gT, -⟩ := g2
  obtain ⟨k1, k2⟩ := cset_next gT hw hna
  have hr : rep kd' fr' to' (lbL len') (exF dd na d) (exF sj na s) (exF qq na q) (cset (stA st w (na + 1)) (exF ab na (st w))) na = rep kd fr to (lbL len) dd sj qq (cset st ab) na := by
    rw [rep_env (XE_EQ hX) gW gA (fun a ha => ⟨(exF_ne (by omega)).symm, (exF_ne (by omega)).symm, (exF_ne (by omega)).symm⟩) na (Nat.le_refl _)]
    exact rep_set na k2
  rw [rep_some k1 (B := B) (by rw [hr, exF_at, exF_at, exF_at]; exact hst), hr]
theorem rep_ext (g2 : GW ns nr na len kd fr to dd sj qq dr ab st lby) (hX : XE ns nr ns' nr' len len' trn trn' txt txt' kd kd' fr fr' to to') {set : Nat} (hs : ∀ k, set.testBit k = true → k < na) : rep kd' fr' to' (lbL len') (exF dd na d) (exF sj na s) (exF qq na q) set (na + 1) = rep kd fr to (lbL len) dd sj qq set na := by
  obtain ⟨gW, gA, gT, -⟩ := g2
  rw [rep_skip (by
    cases e : set.testBit na with
    | false => rfl
    | true => exact absurd (hs na e) (by omega))]
  exact rep_env (XE_EQ hX) gW gA (fun a ha => ⟨(exF_ne (by omega)).symm, (exF_ne (by omega)).symm, (exF_ne (by omega)).symm⟩) na (Nat.le_refl _)
end
