/-! a board, step for step -/
section
variable {S : HS} {sp ns nr na ne nm : Nat} {lt len fr to sj dr ab st lby se : Nat → Nat} {trn : Nat → Bool} {txt : Nat → Nat → Nat} {kd dd : Nat → Int32} {qq : Nat → Nat → Int32} {w : Nat} {xs : Nat → Int32} {L : Nat} {p1 : Int32} {rec41 : HS × Int32 × Int32 → Option (HS × Int32)} {P : HS × Int32 → Prop} {i : Nat}
theorem b582_ok (h : BI S sp) (hi : i < 66) (hrec : ∀ S' : HS, BI S' sp → Ok (rec41 (S', nI sp, nI (i + 1))) P) : Ok (f_L_board_b582 xs L p1 rec41 S (nI sp) (nI i) 1) P := by
  obtain ⟨ns, nr, na, ne, nm, lt, len, fr, to, sj, dr, ab, st, lby, se, trn, txt, kd, dd, qq, hCL, hWX⟩ := h
  have r3 : nI i - nI i / (3 : Int32) * (3 : Int32) = nI (i % 3) := pk_rem (d := 3) (by omega) (by decide) (by decide)
  unfold f_L_board_b582 f_L_board_b621
  rw [if_neg (by decide), k_trees hCL, bsm]
  dsimp only
  rw [if_neg (by decide), k0 (by decide), r3]
  by_cases e : nI (i % 3) = (2 : Int32)
  · rw [if_pos e]
    obtain ⟨⟨S2, v2⟩, hr, hv, hCL2⟩ := k_board hCL
    dsimp only at hv hCL2
    subst hv
    rw [hr, bsm]
    dsimp only
    rw [if_neg (by decide), nI_1]
    exact hrec S2 ⟨ns, nr, na, ne, nm, lt, len, fr, to, sj, dr, ab, st, lby, se, trn, txt, kd, dd, qq, hCL2, hWX⟩
  · rw [if_neg e, nI_1]
    exact hrec S ⟨ns, nr, na, ne, nm, lt, len, fr, to, sj, dr, ab, st, lby, se, trn, txt, kd, dd, qq, hCL, hWX⟩
theorem b582_b {x : Option (HS × Int32)} (h : Ok x (fun o => o.2 = 1 ∧ BI o.1 sp)) (hi : i < 66) (hrec : ∀ S' : HS, BI S' sp → Ok (rec41 (S', nI sp, nI (i + 1))) P) : Ok (x.bind (fun o => f_L_board_b582 xs L p1 rec41 o.1 (nI sp) (nI i) o.2)) P := by
  obtain ⟨⟨S2, v2⟩, rfl, hv, hB⟩ := h
  dsimp only at hv hB
  subst hv
  exact b582_ok hB hi hrec
theorem LI_ne (hL : LI S na ns nr ne nm kd dd fr to dr ab st lby) : LI (sI S 38 3 (nI (ne + 1))) na ns nr (ne + 1) nm kd dd fr to dr ab st lby := by
  obtain ⟨l1, l2, l3, l4, l5, l6, l7, l8⟩ := hL
  refine ⟨fun k hk => ?_, fun j hj => ?_, ?_, ?_, ?_, ?_, ?_, fun x hx => ?_⟩
  · rw [sI_o (by omega)]; exact l1 k hk
  · rw [sI_o (by omega)]; exact l2 j hj
  · rw [sI_k (by omega)]; exact l3
  · rw [sI_k (by omega)]; exact l4
  · rw [sI_k (by omega)]; exact l5
  · rw [sI_at]
  · rw [sI_k (by omega)]; exact l7
  · rw [sI_o (by omega)]; exact l8 x hx
theorem LI_nm (hL : LI S na ns nr ne nm kd dd fr to dr ab st lby) : LI (sI S 38 4 (nI (nm + 1))) na ns nr ne (nm + 1) kd dd fr to dr ab st lby := by
  obtain ⟨l1, l2, l3, l4, l5, l6, l7, l8⟩ := hL
  refine ⟨fun k hk => ?_, fun j hj => ?_, ?_, ?_, ?_, ?_, ?_, fun x hx => ?_⟩
  · rw [sI_o (by omega)]; exact l1 k hk
  · rw [sI_o (by omega)]; exact l2 j hj
  · rw [sI_k (by omega)]; exact l3
  · rw [sI_k (by omega)]; exact l4
  · rw [sI_k (by omega)]; exact l5
  · rw [sI_k (by omega)]; exact l6
  · rw [sI_at]
  · rw [sI_o (by omega)]; exact l8 x hx
theorem ib45' : ib (4 : Int32) 5 = true := by decide
theorem cl3' : (3 : Int32).toNatClampNeg = 3 := by decide
theorem cl4' : (4 : Int32).toNatClampNeg = 4 := by decide
/-- exports are made, once one was asked for -/
theorem b434_ok {Y : Nat} (hY : Y < 2 ^ 31) (h : CL S sp ns nr na ne nm lt len fr to sj dr ab st lby se trn txt kd dd qq) (hX : WX na len sj dd qq) (hne : 0 < ne) (hse : se (ne - 1) = cset st ab) (hi : i < 66) (hrec : ∀ S' : HS, BI S' sp → Ok (rec41 (S', nI sp, nI (i + 1))) P) : Ok (f_L_board_b434 xs L p1 rec41 S (nI sp) (nI i) (nI Y) 1) P := by
  have hne10 := h.1.1.1.2.2.2.1
  have hRW := h.1.1.2.1
  have hWA := h.1.1.2.2.1
  have hwid := rep_wid (W := fun k => nI (2 * len k)) (set := cset st ab) hRW hWA (fun a ha h0 hl => hX a ha h0 (of_decide_eq_true hl)) na (Nat.le_refl _)
  have rY : nI Y - nI Y / (3 : Int32) * (3 : Int32) = nI (Y % 3) := pk_rem (d := 3) hY (by decide) (by decide)
  unfold f_L_board_b434
  refine ok_fx 10 (fun j v => ∃ (S' : HS) (nm' : Nat), v = (S', nI sp, nI i, nI Y, 1) ∧ CL S' sp ns nr na ne nm' lt len fr to sj dr ab st lby se trn txt kd dd qq ∧ j ≤ nm') ?_ ?_ (by omega) ⟨S, nm, rfl, h, Nat.zero_le _⟩
  · rintro j v rec hj ⟨S', nm', rfl, hS, hjm⟩ hrec2
    have h383 : S'.1 38 3 = nI ne := hS.2.2.2.2.2.2.1
    have h384 : S'.1 38 4 = nI nm' := hS.2.2.2.2.2.2.2.1
    have hgo : ∀ t2 : Int32, (t2 = 0 ∨ t2 = 1) → Ok (f_L_board_b459 xs L p1 rec41 rec S' (nI sp) (nI i) (nI Y) 1 (nI nm') (nI ne) t2) P := by
      intro t2 ht
      unfold f_L_board_b459
      by_cases e : nI ne - t2 ≤ nI nm'
      · rw [if_pos e]
        exact b582_ok ⟨ns, nr, na, ne, nm', lt, len, fr, to, sj, dr, ab, st, lby, se, trn, txt, kd, dd, qq, hS, hX⟩ hi hrec
      · rw [if_neg e]
        have hlt : nm' < ne := by
          rcases Nat.lt_or_ge nm' ne with q | q
          · exact q
          · exfalso
            apply e
            rcases ht with rfl | rfl
            · rw [show nI ne - (0 : Int32) = nI ne by grind, nI_leI (by omega) (by have := hS.1.1.1.2.2.1; omega)]
              exact q
            · rw [show (1 : Int32) = nI 1 from rfl, pk_sub (by omega), nI_leI (by omega) (by have := hS.1.1.1.2.2.1; omega)]
              omega
        obtain ⟨hmk, hCm⟩ := k_make hS.1 hlt
        have hL1 : LI (sI S' 30 1 (nI (nm' + 1))) na ns nr ne nm' kd dd fr to dr ab st lby := LI_fr (fun x hx _ => by rw [sI_o (by omega)]) hS.2
        have h383b : (sI S' 30 1 (nI (nm' + 1))).1 38 3 = nI ne := hL1.2.2.2.2.2.1
        have h384b : (sI S' 30 1 (nI (nm' + 1))).1 38 4 = nI nm' := hL1.2.2.2.2.2.2.1
        have hb500 : ∀ T : HS, CI T sp ns nr na ne (nm' + 1) lt len fr to sj dr ab st lby se trn txt kd dd qq → LI T na ns nr ne nm' kd dd fr to dr ab st lby → Ok (f_L_board_b500 xs L p1 rec41 rec T (nI sp) (nI i) (nI Y)) P := by
          intro T hT hLT
          unfold f_L_board_b500 f_L_board_b505
          rw [if_pos ib45', if_pos ib45', cl4', hLT.2.2.2.2.2.2.1, nI_1]
          exact hrec2 _ ⟨_, nm' + 1, rfl, ⟨CI_lw hT (fun x hx => by rw [sI_o (by omega)]) rfl, LI_nm hLT⟩, by omega⟩
        have e1 : nI ne - (1 : Int32) = nI (ne - 1) := by rw [show (1 : Int32) = nI 1 from rfl, pk_sub (by omega)]
        rw [hmk, bsm]
        dsimp only
        rw [if_pos ib45', cl4', h384b, if_pos rfl, if_pos ib45', if_pos (show ib (3 : Int32) 5 = true by decide), cl3', h383b, e1]
        by_cases e2 : nm' < ne - 1
        · rw [if_pos (lt_nI e2 (by omega))]
          exact hb500 _ hCm hL1
        · rw [if_neg (fun q => by
            have : nI nm' < nI (ne - 1) := q
            rw [nI_ltI (by omega) (by omega)] at this
            omega), if_pos ib45']
          obtain ⟨⟨S3, v3⟩, hr, hv, hC3, hf3⟩ := x_export hCm hL1.2.2.2.1 hL1.2.2.2.2.1 (e := nm') (by omega) (by rw [show nm' = ne - 1 by omega]; exact hse) (fun k hk hl => hwid k hk (decide_eq_true hl))
          dsimp only at hv hC3 hf3
          subst hv
          rw [hr, bsm]
          dsimp only
          rw [if_neg (by decide)]
          exact hb500 _ hC3 (LI_fr (fun x hx _ => hf3 x hx) hL1)
    unfold F_L_board_b434
    dsimp only
    rw [if_neg (by decide), if_pos ib45', if_pos (show ib (3 : Int32) 5 = true by decide), k0 (by decide), cl4', cl3', h383, h384]
    split
    · exact hgo 1 (Or.inr rfl)
    · exact hgo 0 (Or.inl rfl)
  · rintro v rec ⟨S', nm', rfl, hS, hjm⟩
    have h383 : S'.1 38 3 = nI ne := hS.2.2.2.2.2.2.1
    have h384 : S'.1 38 4 = nI nm' := hS.2.2.2.2.2.2.2.1
    have hnm := hS.1.1.1.2.2.1
    unfold F_L_board_b434 f_L_board_b459
    dsimp only
    rw [if_neg (by decide), if_pos ib45', if_pos (show ib (3 : Int32) 5 = true by decide), k0 (by decide), cl4', cl3', h383, h384]
    split
    · rw [if_pos (by rw [show (1 : Int32) = nI 1 from rfl, pk_sub (by omega), nI_leI (by omega) (by omega)]; omega)]
      exact b582_ok ⟨ns, nr, na, ne, nm', lt, len, fr, to, sj, dr, ab, st, lby, se, trn, txt, kd, dd, qq, hS, hX⟩ hi hrec
    · rw [if_pos (by rw [show nI ne - (0 : Int32) = nI ne by grind, nI_leI (by omega) (by omega)]; omega)]
      exact b582_ok ⟨ns, nr, na, ne, nm', lt, len, fr, to, sj, dr, ab, st, lby, se, trn, txt, kd, dd, qq, hS, hX⟩ hi hrec
end
