/-! the law's rows grow -/
theorem mk_row {w s : Nat} {c : Int32} {d : Int32} (hw : w < 4) (hs : s < 64) (hc : c = if d = 0 then 1 else 0) : (nI w ||| (nI s <<< ((2 : Int32) &&& 31))) ||| (c <<< ((8 : Int32) &&& 31)) = nI (w + 4 * s + if d = 0 then 256 else 0) := by
  have e1 : nI s <<< ((2 : Int32) &&& 31) = nI (s * 2 ^ 2) := pk_shlN _ 2 (by decide) (by omega)
  have e2 : nI w ||| nI (s * 2 ^ 2) = nI (w + 4 * s) := by
    have := fa_or_sum (a := w) (k := 2) s (by omega)
    rw [fa_or] at this ⊢
    rw [Nat.or_comm, Nat.mul_comm s, this]
    congr 1
    omega
  rw [e1, e2]
  by_cases e : d = 0
  · rw [if_pos e] at hc ⊢
    subst hc
    have e3 : (1 : Int32) <<< ((8 : Int32) &&& 31) = nI (2 ^ 8 * 1) := by decide
    have := fa_or_sum (a := w + 4 * s) (k := 8) 1 (by omega)
    rw [fa_or] at this
    rw [e3, fa_or, Nat.or_comm, this]
    congr 1
    omega
  · rw [if_neg e] at hc ⊢
    subst hc
    have e3 : (0 : Int32) <<< ((8 : Int32) &&& 31) = nI 0 := by decide
    rw [e3, fa_or, Nat.or_zero]
    rfl
section
variable {S : HS} {sp ns nr na ne nm : Nat} {lt len fr to sj dr ab st lby se : Nat → Nat} {trn : Nat → Bool} {txt : Nat → Nat → Nat} {kd dd : Nat → Int32} {qq : Nat → Nat → Int32} {w : Nat}
theorem k_makes {d c : Int32} (hL : LI S na ns nr ne nm kd dd fr to dr ab st lby) (hw : w < 4) (hna : na < 60) (hst : st w ≤ na) (hc : c = if d = 0 then 1 else 0) : ∃ S', f_L_makes (nI w) c S = some S' ∧ (∀ x, x < 36 → S'.1 x = S.1 x) ∧ S'.2 = S.2 ∧ S'.1 40 = S.1 40 ∧ LI S' (na + 1) ns nr ne nm kd (exF dd na d) fr to (exF dr na w) (exF ab na (st w)) (stA st w (na + 1)) lby := by
  obtain ⟨l1, l2, l3, l4, l5, l6, l7, l8⟩ := hL
  have e1 : (sI S 36 na (nI (w + 4 * st w + if d = 0 then 256 else 0))).1 38 0 = nI na := by rw [sI_o (by omega), l3]
  refine ⟨sI (sI (sI S 36 na (nI (w + 4 * st w + if d = 0 then 256 else 0))) 38 0 (nI (na + 1))) 39 w (nI (na + 1)), ?_, fun x hx => by rw [sI_o (by omega), sI_o (by omega), sI_o (by omega)], rfl, by rw [sI_o (by omega), sI_o (by omega), sI_o (by omega)], ?_, ?_, ?_, ?_, ?_, ?_, ?_, ?_⟩
  · unfold f_L_makes
    rw [if_pos ib05, if_pos (ib_nI hw (by omega)), cl0, l3, if_pos (ib_nI hna (by omega)), if_pos ib05, if_pos ib05, if_pos ib05, if_pos (ib_nI hw (by omega)), nI_cl (by omega), nI_cl (by omega), l8 w hw, mk_row hw (by omega) hc, e1, nI_1, sI_at]
  · intro k hk
    rw [sI_o (by omega), sI_o (by omega)]
    by_cases e : k = na
    · subst e
      rw [sI_at]
      unfold tW
      rw [exF_at, exF_at, exF_at]
    · rw [sI_k e, l1 k (by omega)]
      unfold tW
      rw [exF_ne e, exF_ne e, exF_ne e]
  · intro j hj
    rw [sI_o (by omega), sI_o (by omega), sI_o (by omega)]
    exact l2 j hj
  · rw [sI_o (by omega), sI_at]
  · rw [sI_o (by omega), sI_k (by omega), sI_o (by omega)]
    exact l4
  · rw [sI_o (by omega), sI_k (by omega), sI_o (by omega)]
    exact l5
  · rw [sI_o (by omega), sI_k (by omega), sI_o (by omega)]
    exact l6
  · rw [sI_o (by omega), sI_k (by omega), sI_o (by omega)]
    exact l7
  · intro x hx
    unfold stA
    by_cases e : x = w
    · subst e
      rw [sI_at, if_pos rfl]
    · rw [sI_k e, sI_o (by omega), sI_o (by omega), if_neg e]
      exact l8 x hx
/-- a row of a rule is written -/
theorem LI_rule (hL : LI S na ns nr ne nm kd dd fr to dr ab st lby) {m a c : Nat} (hm : m < 7) (ha : a < 10) (hc : c < 10) (hna : na < 60) : (((nI m ||| (nI a <<< ((3 : Int32) &&& 31))) ||| (nI c <<< ((7 : Int32) &&& 31))) ||| (nI na <<< ((11 : Int32) &&& 31))) = nI (m + 8 * a + 128 * c + 2048 * na) ∧ LI (sI (sI S 37 nr (nI (m + 8 * a + 128 * c + 2048 * na))) 38 2 (nI (nr + 1))) na ns (nr + 1) ne nm (exF kd nr (nI m)) dd (exF fr nr a) (exF to nr c) dr ab st (exF lby nr na) := by
  obtain ⟨l1, l2, l3, l4, l5, l6, l7, l8⟩ := hL
  refine ⟨?_, ?_, ?_, ?_, ?_, ?_, ?_, ?_, ?_⟩
  · rw [pk_shlN (n := a) _ 3 (by decide) (by omega), pk_shlN (n := c) _ 7 (by decide) (by omega), pk_shlN (n := na) _ 11 (by decide) (by omega)]
    have f1 := fa_or_sum (a := m) (k := 3) a (by omega)
    have f2 := fa_or_sum (a := m + 8 * a) (k := 7) c (by omega)
    have f3 := fa_or_sum (a := m + 8 * a + 128 * c) (k := 11) na (by omega)
    rw [fa_or, Nat.or_comm] at f1 f2 f3
    rw [fa_or, Nat.mul_comm a, f1, show 2 ^ 3 * a + m = m + 8 * a by omega, fa_or, Nat.mul_comm c, f2, show 2 ^ 7 * c + (m + 8 * a) = m + 8 * a + 128 * c by omega, fa_or, Nat.mul_comm na, f3]
    congr 1
    omega
  · intro k hk
    rw [sI_o (by omega), sI_o (by omega)]
    exact l1 k hk
  · intro j hj
    rw [sI_o (by omega)]
    by_cases e : j = nr
    · subst e
      rw [sI_at]
      unfold rW
      rw [exF_at, exF_at, exF_at, exF_at, show kN (nI m) = m from nI_cl (by omega)]
    · rw [sI_k e, l2 j (by omega)]
      unfold rW
      rw [exF_ne e, exF_ne e, exF_ne e, exF_ne e]
  · rw [sI_k (by omega), sI_o (by omega)]
    exact l3
  · rw [sI_k (by omega), sI_o (by omega)]
    exact l4
  · rw [sI_at]
  · rw [sI_k (by omega), sI_o (by omega)]
    exact l6
  · rw [sI_k (by omega), sI_o (by omega)]
    exact l7
  · intro x hx
    rw [sI_o (by omega), sI_o (by omega)]
    exact l8 x hx
end
/-- labels' widths in the acts that add them -/
def WX (na : Nat) (len sj : Nat → Nat) (dd : Nat → Int32) (qq : Nat → Nat → Int32) : Prop := ∀ a, a < na → dd a = 0 → 0 < len (sj a) → qq a 2 = nI (2 * len (sj a))
theorem WX_x {na s : Nat} {len sj : Nat → Nat} {dd : Nat → Int32} {qq : Nat → Nat → Int32} {d : Int32} {q : Nat → Int32} (h : WX na len sj dd qq) (hd : d ≠ 0) : WX (na + 1) len (exF sj na s) (exF dd na d) (exF qq na q) := by
  intro a ha h0 hl
  by_cases e : a = na
  · subst e
    rw [exF_at] at h0
    exact absurd h0 hd
  · rw [exF_ne e] at h0 hl ⊢
    rw [exF_ne e]
    exact h a (by omega) h0 hl
/-- what stands before every step of a board -/
def BI (S : HS) (sp : Nat) : Prop := ∃ (ns nr na ne nm : Nat) (lt len fr to sj dr ab st lby se : Nat → Nat) (trn : Nat → Bool) (txt : Nat → Nat → Nat) (kd dd : Nat → Int32) (qq : Nat → Nat → Int32), CL S sp ns nr na ne nm lt len fr to sj dr ab st lby se trn txt kd dd qq ∧ WX na len sj dd qq
