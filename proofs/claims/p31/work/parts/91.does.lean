/-! acts: all four kinds -/
section
variable {S : HS} {sp w : Nat}
theorem k_does {X Y : Nat} {d : Int32} (h : BI S sp) (hw : w < 4) (hX : X < 2 ^ 31) (hY : Y < 2 ^ 31) (hd : d = 2 ∨ d = 3 ∨ d = 4 ∨ d = 5) : Ok (f_L_acts d (nI w) (nI X) (nI Y) S) (fun o => o.2 = 1 ∧ BI o.1 sp) := by
  obtain ⟨ns, nr, na, ne, nm, lt, len, fr, to, sj, dr, ab, st, lby, se, trn, txt, kd, dd, qq, hCL, hWX⟩ := h
  have hns := hCL.1.1.2.1.2.1
  have hnr := hCL.1.1.2.1.1
  have hna := hCL.1.1.2.2.2.1.1
  have h381 : S.1 38 1 = nI ns := hCL.2.2.2.2.1
  unfold f_L_acts
  rw [if_pos ib15, cl1, h381]
  by_cases hn0 : ns = 0
  · rw [if_pos (by rw [hn0]; rfl), nz_1, if_pos rfl]
    exact ⟨_, rfl, rfl, ns, nr, na, ne, nm, lt, len, fr, to, sj, dr, ab, st, lby, se, trn, txt, kd, dd, qq, hCL, hWX⟩
  have hnz : ¬ nI ns = 0 := fun q => hn0 ((nI_0iff (by omega)).mp q)
  obtain ⟨S2, hno, f40, f2, hnt⟩ := k_notes hCL
  have hCL2 : CL S2 sp ns nr na ne nm lt len fr to sj dr ab st lby se trn txt kd dd qq := ⟨CI_lw hCL.1 (fun x hx => f40 x (by omega)) f2, LI_fr (fun x _ hx => f40 x (by omega)) hCL.2⟩
  have h381b : S2.1 38 1 = nI ns := hCL2.2.2.2.2.1
  have h382b : S2.1 38 2 = nI nr := hCL2.2.2.2.2.2.1
  have rX : nI X - nI X / nI ns * nI ns = nI (X % ns) := pk_rem hX (by omega) (by omega)
  have rY : nI Y - nI Y / nI ns * nI ns = nI (Y % ns) := pk_rem hY (by omega) (by omega)
  have lX : X % ns < ns := Nat.mod_lt _ (by omega)
  have lY : Y % ns < ns := Nat.mod_lt _ (by omega)
  have dX10 : nI X / (10 : Int32) = nI (X / 10) := pk_div (d := 10) hX (by decide) (by decide)
  have dX30 : nI X / (30 : Int32) = nI (X / 30) := pk_div (d := 30) hX (by decide) (by decide)
  have dY5 : nI Y / (5 : Int32) = nI (Y / 5) := pk_div (d := 5) hY (by decide) (by decide)
  have bX10 : X / 10 < 2 ^ 31 := Nat.lt_of_le_of_lt (Nat.div_le_self _ _) hX
  have bX30 : X / 30 < 2 ^ 31 := Nat.lt_of_le_of_lt (Nat.div_le_self _ _) hX
  have bY5 : Y / 5 < 2 ^ 31 := Nat.lt_of_le_of_lt (Nat.div_le_self _ _) hY
  have r81 : nI (X / 10) - nI (X / 10) / (81 : Int32) * (81 : Int32) = nI (X / 10 % 81) := pk_rem (d := 81) bX10 (by decide) (by decide)
  have r3 : nI (X / 10) - nI (X / 10) / (3 : Int32) * (3 : Int32) = nI (X / 10 % 3) := pk_rem (d := 3) bX10 (by decide) (by decide)
  have r7 : nI (X / 10) - nI (X / 10) / (7 : Int32) * (7 : Int32) = nI (X / 10 % 7) := pk_rem (d := 7) bX10 (by decide) (by decide)
  have r14x : nI (X / 30) - nI (X / 30) / (14 : Int32) * (14 : Int32) = nI (X / 30 % 14) := pk_rem (d := 14) bX30 (by decide) (by decide)
  have r14 : nI Y - nI Y / (14 : Int32) * (14 : Int32) = nI (Y % 14) := pk_rem (d := 14) hY (by decide) (by decide)
  have r1999 : nI (Y / 5) - nI (Y / 5) / (1999 : Int32) * (1999 : Int32) = nI (Y / 5 % 1999) := pk_rem (d := 1999) bY5 (by decide) (by decide)
  have r81y : nI (Y / 5) - nI (Y / 5) / (81 : Int32) * (81 : Int32) = nI (Y / 5 % 81) := pk_rem (d := 81) bY5 (by decide) (by decide)
  have hpy : ((nI X / (10 : Int32)) - (nI X / (10 : Int32)) / (81 : Int32) * (81 : Int32)) - (40 : Int32) = nI (X / 10 % 81) - 40 := by rw [dX10, r81]
  have g1 := (rng81 (X / 10 % 81) (Nat.mod_lt _ (by omega))).2
  rw [if_neg hnz, if_pos ib15, k0 hnz, hno, bsm, rX]
  rcases hd with rfl | rfl | rfl | rfl
  · rw [if_pos rfl, k0 (by decide), k0 (by decide), k0 (by decide), k0 (by decide), k0 (by decide), dY5, r1999, r81y]
    split
    · exact k_actm hCL2 hWX hnt hw lX (rng1999 _ (Nat.mod_lt _ (by omega))) g1 hpy
    · exact k_actm hCL2 hWX hnt hw lX (rng81 _ (Nat.mod_lt _ (by omega))).1 g1 hpy
  · rw [if_neg (by decide), if_pos rfl, k0 (by decide), k0 (by decide), k0 (by decide), k0 (by decide), k0 (by decide), dX10, r3, r14, dX30, r14x]
    split
    · exact k_actr hCL2 hWX hnt hw lX (rng12 _ (Nat.mod_lt _ (by omega))).1 (by decide)
    · exact k_actr hCL2 hWX hnt hw lX (rng12 _ (Nat.mod_lt _ (by omega))).1 (rng12 _ (Nat.mod_lt _ (by omega))).2
  · rw [if_neg (by decide), if_neg (by decide), if_pos rfl, if_pos ib15, h381b, k0 hnz, k0 (by decide), k0 (by decide), rY, dX10, r7]
    by_cases e : X % ns = Y % ns
    · rw [if_pos (by rw [e]), nz_1, if_pos rfl]
      exact ⟨_, rfl, rfl, ns, nr, na, ne, nm, lt, len, fr, to, sj, dr, ab, st, lby, se, trn, txt, kd, dd, qq, hCL2, hWX⟩
    · rw [if_neg (fun q => e ((nI_eq (by omega) (by omega)).mp q))]
      exact k_actl hCL2 hWX hnt hw lX lY e (Nat.mod_lt _ (by omega)) (fun o => rfl)
  · rw [if_neg (by decide), if_neg (by decide), if_neg (by decide), if_pos ib25, cl2, h382b]
    by_cases hr0 : nr = 0
    · rw [if_pos (by rw [hr0]; rfl), nz_1, if_pos rfl]
      exact ⟨_, rfl, rfl, ns, nr, na, ne, nm, lt, len, fr, to, sj, dr, ab, st, lby, se, trn, txt, kd, dd, qq, hCL2, hWX⟩
    · have hnz2 : ¬ nI nr = 0 := fun q => hr0 ((nI_0iff (by omega)).mp q)
      have rY2 : nI Y - nI Y / nI nr * nI nr = nI (Y % nr) := pk_rem hY (by omega) (by omega)
      have lY2 : Y % nr < nr := Nat.mod_lt _ (by omega)
      rw [if_neg hnz2, if_pos ib25, k0 hnz2, rY2, k_force hCL2.1 lY2, bsm]
      dsimp only
      rw [if_pos rfl]
      exact k_actd hCL2 hWX hnt hw lY2
end
