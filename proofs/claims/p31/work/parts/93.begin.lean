/-! what a board starts from, and its draws -/
theorem BI_0 : BI S0 0 := by
  refine ⟨0, 0, 0, 0, 0, fun _ => 0, fun _ => 0, fun _ => 0, fun _ => 0, fun _ => 0, fun _ => 0, fun _ => 0, fun _ => 0, fun _ => 0, fun _ => 0, fun _ => false, fun _ _ => 0, fun _ => 0, fun _ => 0, fun _ _ => 0, ⟨⟨⟨⟨by omega, fun i hi => absurd hi (by omega), by omega, by omega, fun e he => absurd he (by omega)⟩, ⟨by omega, by omega, fun k hk => absurd hk (by omega)⟩, ⟨fun a ha => absurd ha (by omega), fun a b _ hb => absurd hb (by omega)⟩, ⟨by omega, fun k hk => absurd hk (by omega), fun d hd => ⟨Nat.zero_le _, fun j hj => absurd (show 0 = j + 1 from hj) (by omega)⟩⟩, fun k hk => absurd hk (by omega), fun k hk => absurd hk (by omega), fun v => rfl⟩, ⟨rfl, fun i hi => absurd hi (by omega)⟩, ⟨rfl, rfl, ⟨fun k => ⟨Nat.zero_le _, fun hk => absurd hk (by omega)⟩, 0, by omega, rfl, fun k hk => absurd hk (by omega)⟩, ⟨by omega, fun k hk => absurd hk (by omega)⟩, fun a ha => absurd ha (by omega), rfl, fun k hk => absurd hk (by omega), fun d hd => ?_⟩, ⟨⟨18, 21, ⟨rfl, rfl, Or.inl ⟨rfl, rfl⟩⟩, rfl, rfl, ?_, ?_⟩, rfl⟩, ⟨24, 27, rfl, rfl, Or.inl ⟨rfl, rfl⟩⟩, ⟨rfl, rfl, fun e he => absurd he (by omega), fun i => rfl, fun i => rfl⟩⟩, ⟨fun k hk => absurd hk (by omega), fun j hj => absurd hj (by omega), rfl, rfl, rfl, rfl, rfl, fun x hx => rfl⟩⟩, fun a ha => absurd ha (by omega)⟩
  · match d, hd with
    | 0, _ => rfl
    | 1, _ => rfl
    | 2, _ => rfl
    | 3, _ => rfl
  · intro k w hk
    exact absurd hk (by show ¬ (0 : Nat).testBit k = true; rw [Nat.zero_testBit]; decide)
  · intro k w hk
    exact absurd hk (by show ¬ (0 : Nat).testBit k = true; rw [Nat.zero_testBit]; decide)
theorem draw7 {xs : Nat → Int32} {L : Nat} (hL : L ≤ 260) {m n : Nat} (hm : m < 2 ^ 31) (hn : 0 < n) (hn2 : n < 2 ^ 31) (S : HS) : ∃ v, v < n ∧ f_L_draw xs L (nI m) (nI n) S = some (nI v) := by
  have hb : ∀ t : Int32, ∃ v, v < n ∧ f_L_draw_b23 xs L (nI m) (nI n) S t = some (nI v) := by
    intro t
    obtain ⟨j, hj, e⟩ := pk_andE t (m := 2147483647) 31 (by decide)
    refine ⟨j % n, Nat.mod_lt _ hn, ?_⟩
    unfold f_L_draw_b23
    rw [k0 (fun q => by have := (nI_0iff hn2).mp q; omega), e, pk_rem hj hn hn2]
  unfold f_L_draw
  by_cases h : (Int32.ofNat L) ≤ nI m
  · rw [if_pos h]
    exact hb _
  · rw [if_neg h]
    have hlt : m < L := by
      rcases Nat.lt_or_ge m L with q | q
      · exact q
      · exact absurd ((nI_leI (show L < 2 ^ 31 by omega) hm).mpr q) h
    rw [if_pos (ib_nI hlt (by omega))]
    exact hb _
