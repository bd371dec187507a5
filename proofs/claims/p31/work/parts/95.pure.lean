/-! a board comes to 1 -/
section
variable {S : HS} {sp i : Nat} {xs : Nat → Int32} {L : Nat} {p1 : Int32} {rec41 : HS × Int32 × Int32 → Option (HS × Int32)} {P : HS × Int32 → Prop}
theorem spell_ok {Y : Nat} (h : BI S sp) (hY : Y < 2 ^ 31) (hi : i < 66) (hrec : ∀ (S' : HS) sp', BI S' sp' → Ok (rec41 (S', nI sp', nI (i + 1))) P) : Ok ((f_L_asks 8 (nI Y - nI Y / (27 : Int32) * (27 : Int32)) 0 0 0 0 S).bind (fun o => f_L_board_b169 xs L p1 rec41 o.1 (nI sp) (nI i) 0 o.2.2)) P := by
  obtain ⟨ns, nr, na, ne, nm, lt, len, fr, to, sj, dr, ab, st, lby, se, trn, txt, kd, dd, qq, ⟨hC, hL⟩, hX⟩ := h
  have hsp := hC.1.1.1
  have r27 : nI Y - nI Y / (27 : Int32) * (27 : Int32) = nI (Y % 27) := pk_rem (d := 27) hY (by decide) (by decide)
  have l27 : Y % 27 < 27 := Nat.mod_lt _ (by omega)
  rw [r27, asks8]
  unfold f_L_board_b169 f_L_board_b220 f_L_board_b236 f_L_board_b256 f_L_board_b261
  by_cases e5 : sp = 5
  · rw [k_spell_n hC e5 l27, awr_3, bsm]
    dsimp only
    rw [if_pos rfl, if_pos (show nI sp = (5 : Int32) by rw [e5]; rfl), if_pos rfl, if_pos rfl, if_pos (show (5 : Int32) ≤ nI sp by rw [e5]; decide), i32_00]
    exact b582_ok ⟨ns, nr, na, ne, nm, lt, len, fr, to, sj, dr, ab, st, lby, se, trn, txt, kd, dd, qq, ⟨hC, hL⟩, hX⟩ hi (fun S' h' => hrec S' sp h')
  · obtain ⟨lt', n, n1, n2, hs, hC1⟩ := k_spell hC (by omega) l27
    have hL1 : LI (sI (sI S 1 sp (nI (Y % 27))) 0 1 (nI (sp + 1))) na ns nr ne nm kd dd fr to dr ab st lby := LI_fr (fun x hx _ => by rw [sI_o (by omega), sI_o (by omega)]) hL
    have hB : BI (sI (sI S 1 sp (nI (Y % 27))) 0 1 (nI (sp + 1))) (sp + 1) := ⟨_, _, _, _, _, _, _, _, _, _, _, _, _, _, _, _, _, _, _, _, ⟨hC1, hL1⟩, hX⟩
    have e2 : (2 : Int32) * nI sp + 2 = nI (2 * sp + 2) := by rw [show (2 : Int32) = nI 2 from rfl, pk_mul, nI_add]
    rw [hs, awr_0, bsm]
    dsimp only
    rw [if_pos rfl, if_neg (show ¬ nI sp = (5 : Int32) from fun q => e5 ((nI_eq (by omega) (by omega)).mp (show nI sp = nI 5 from q))), if_neg (by rw [nI_leI (by omega) (by omega)]; omega), e2, if_neg (by rw [nI_ltI (by omega) (by omega)]; omega), if_pos rfl, if_neg (show ¬ (5 : Int32) ≤ nI sp by rw [show (5 : Int32) = nI 5 from rfl, nI_leI (by omega) (by omega)]; omega), nI_1]
    exact b582_ok hB hi (fun S' h' => hrec S' (sp + 1) h')
theorem clear_ok (h : BI S sp) (hi : i < 66) (hrec : ∀ (S' : HS) sp', BI S' sp' → Ok (rec41 (S', nI sp', nI (i + 1))) P) {t : Int32} (ht : t ≠ 0) : Ok ((f_X7_clearSpelled S).bind (fun o => f_L_board_b169 xs L p1 rec41 o.1 (nI sp) (nI i) t o.2)) P := by
  obtain ⟨ns, nr, na, ne, nm, lt, len, fr, to, sj, dr, ab, st, lby, se, trn, txt, kd, dd, qq, ⟨hC, hL⟩, hX⟩ := h
  obtain ⟨hs, hC1⟩ := k_clear hC
  have hL1 : LI (sI S 0 1 0) na ns nr ne nm kd dd fr to dr ab st lby := LI_fr (fun x hx _ => by rw [sI_o (by omega)]) hL
  have hB : BI (sI S 0 1 0) 0 := ⟨_, _, _, _, _, _, _, _, _, _, _, _, _, _, _, _, _, _, _, _, ⟨hC1, hL1⟩, hX⟩
  rw [hs, bsm]
  unfold f_L_board_b169 f_L_board_b236 f_L_board_b261
  dsimp only
  rw [if_neg ht, if_pos rfl, if_neg ht]
  exact b582_ok (sp := 0) hB hi (fun S' h' => hrec S' 0 h')
theorem ask_ok {Y : Nat} (h : BI S sp) (hY : Y < 2 ^ 31) (hi : i < 66) (hrec : ∀ (S' : HS) sp', BI S' sp' → Ok (rec41 (S', nI sp', nI (i + 1))) P) {K : Option (HS × Int32)} (hK : K = (if ib (3 : Int32) (5) = true then (if (10 : Int32) ≤ (S.1 38 (3 : Int32).toNatClampNeg) then (if ib (4 : Int32) (5) = true then (if (10 : Int32) ≤ (S.1 38 (4 : Int32).toNatClampNeg) then (f_X7_make S).bind (fun o547 => if o547.2 = (-1 : Int32) then f_L_board_b559 xs L p1 rec41 o547.1 (nI sp) (nI i) (1 : Int32) else f_L_board_b559 xs L p1 rec41 o547.1 (nI sp) (nI i) (0 : Int32)) else (f_X7_make S).bind (fun o528 => if ib (4 : Int32) (5) = true then (if o528.2 = (o528.1.1 38 (4 : Int32).toNatClampNeg) then f_L_board_b559 xs L p1 rec41 o528.1 (nI sp) (nI i) (1 : Int32) else f_L_board_b559 xs L p1 rec41 o528.1 (nI sp) (nI i) (0 : Int32)) else none)) else none) else (f_X7_ask S).bind (fun o409 => if o409.2.1 = 0 then (fun (o409 : XO) => if ib (3 : Int32) (5) = true then (if o409.2.2 = (o409.1.1 38 (3 : Int32).toNatClampNeg) then f_L_board_b424 xs L p1 rec41 o409.1 (nI sp) (nI i) (nI Y) (1 : Int32) else f_L_board_b424 xs L p1 rec41 o409.1 (nI sp) (nI i) (nI Y) (0 : Int32)) else none) o409 else none)) else none)) : Ok K P := by
  subst hK
  obtain ⟨ns, nr, na, ne, nm, lt, len, fr, to, sj, dr, ab, st, lby, se, trn, txt, kd, dd, qq, ⟨hC, hL⟩, hX⟩ := h
  have hne := hC.1.1.2.2.2.1
  have hnm := hC.1.1.2.2.1
  have h383 : S.1 38 3 = nI ne := hL.2.2.2.2.2.1
  have h384 : S.1 38 4 = nI nm := hL.2.2.2.2.2.2.1
  have ib35' : ib (3 : Int32) 5 = true := by decide
  rw [if_pos ib35', cl3', h383]
  by_cases e10 : ne = 10
  · rw [if_pos (by rw [show (10 : Int32) = nI 10 from rfl, nI_leI (by omega) (by omega)]; omega), if_pos ib45', cl4', h384]
    by_cases e2 : nm = 10
    · rw [if_pos (by rw [show (10 : Int32) = nI 10 from rfl, nI_leI (by omega) (by omega)]; omega), k_make_n hC (by omega), bsm]
      dsimp only
      unfold f_L_board_b559 f_L_board_b580
      rw [if_pos rfl, if_pos ib45', if_pos ib45', cl4', h384, if_pos (by rw [show (10 : Int32) = nI 10 from rfl, nI_leI (by omega) (by omega)]; omega), if_pos ib45', i32_00, sI_same h384]
      exact b582_ok ⟨ns, nr, na, ne, nm, lt, len, fr, to, sj, dr, ab, st, lby, se, trn, txt, kd, dd, qq, ⟨hC, hL⟩, hX⟩ hi (fun S' h' => hrec S' sp h')
    · obtain ⟨hmk, hCm⟩ := k_make hC (show nm < ne by omega)
      have hL1 : LI (sI S 30 1 (nI (nm + 1))) na ns nr ne nm kd dd fr to dr ab st lby := LI_fr (fun x hx _ => by rw [sI_o (by omega)]) hL
      have h384b : (sI S 30 1 (nI (nm + 1))).1 38 4 = nI nm := hL1.2.2.2.2.2.2.1
      have hB : BI (sI (sI S 30 1 (nI (nm + 1))) 38 4 (nI (nm + 1))) sp := ⟨ns, nr, na, ne, nm + 1, lt, len, fr, to, sj, dr, ab, st, lby, se, trn, txt, kd, dd, qq, ⟨CI_lw hCm (fun x hx => by rw [sI_o (by omega)]) rfl, LI_nm hL1⟩, hX⟩
      rw [if_neg (by rw [show (10 : Int32) = nI 10 from rfl, nI_leI (by omega) (by omega)]; omega), hmk, bsm]
      dsimp only
      unfold f_L_board_b559 f_L_board_b580
      rw [if_pos ib45', h384b, if_pos rfl, if_pos ib45', if_pos ib45', cl4', h384b, if_neg (by rw [show (10 : Int32) = nI 10 from rfl, nI_leI (by omega) (by omega)]; omega), if_pos ib45', nI_1]
      exact b582_ok hB hi (fun S' h' => hrec S' sp h')
  · obtain ⟨⟨S1, e1, v1⟩, hr, hv, hf, hC1⟩ := k_ask hC (by omega)
    dsimp only at hv hf hC1
    obtain ⟨rfl, rfl⟩ := Prod.mk.inj hv
    have hL1 := LI_fr (S' := S1) (fun x hx _ => hf x hx) hL
    have h383b : S1.1 38 3 = nI ne := hL1.2.2.2.2.2.1
    have hL2 := LI_ne hL1
    have hC2 : CI (sI S1 38 3 (nI (ne + 1))) sp ns nr na (ne + 1) nm lt len fr to sj dr ab st lby (fun e => if e = ne then cset st ab else se e) trn txt kd dd qq := CI_lw hC1 (fun x hx => by rw [sI_o (by omega)]) rfl
    rw [if_neg (by rw [show (10 : Int32) = nI 10 from rfl, nI_leI (by omega) (by omega)]; omega), hr, bsm]
    dsimp only
    unfold f_L_board_b424
    rw [if_pos rfl, if_pos ib35', h383b, if_pos rfl, if_pos ib35', if_pos ib35', cl3', h383b, nI_1]
    exact b434_ok hY ⟨hC2, hL2⟩ hX (by omega) (if_pos rfl) hi (fun S' h' => hrec S' sp h')
theorem b125_ok {X Y t : Nat} (h : BI S sp) (hX : X < 2 ^ 31) (hY : Y < 2 ^ 31) (ht : t < 24) (hi : i < 66) (hrec : ∀ (S' : HS) sp', BI S' sp' → Ok (rec41 (S', nI sp', nI (i + 1))) P) : Ok (f_L_board_b125 xs L p1 rec41 S (nI sp) (nI i) (nI X) (nI Y) (nI t)) P := by
  have d7 : nI X / (7 : Int32) = nI (X / 7) := pk_div (d := 7) hX (by decide) (by decide)
  have b7 : X / 7 < 2 ^ 31 := Nat.lt_of_le_of_lt (Nat.div_le_self _ _) hX
  have r3 : nI (X / 7) - nI (X / 7) / (3 : Int32) * (3 : Int32) = nI (X / 7 % 3) := pk_rem (d := 3) b7 (by decide) (by decide)
  have l3 : X / 7 % 3 < 4 := by omega
  have cle : ∀ k : Nat, k < 2 ^ 31 → (nI k ≤ nI t ↔ k ≤ t) := fun k hk => nI_leI hk (by omega)
  have hr1 : ∀ S' : HS, BI S' sp → Ok (rec41 (S', nI sp, nI (i + 1))) P := fun S' h' => hrec S' sp h'
  unfold f_L_board_b125 f_L_board_b347
  rw [k0 (by decide), k0 (by decide), d7, r3]
  by_cases c2 : 2 ≤ t
  · rw [if_pos (show (2 : Int32) ≤ nI t from (cle 2 (by omega)).mpr c2)]
    by_cases c5 : 5 ≤ t
    · rw [if_pos (show (5 : Int32) ≤ nI t from (cle 5 (by omega)).mpr c5)]
      by_cases c17 : 17 ≤ t
      · rw [if_pos (show (17 : Int32) ≤ nI t from (cle 17 (by omega)).mpr c17)]
        by_cases c22 : 22 ≤ t
        · rw [if_pos (show (22 : Int32) ≤ nI t from (cle 22 (by omega)).mpr c22)]
          exact ask_ok (xs := xs) (L := L) (p1 := p1) h hY hi hrec rfl
        · rw [if_neg (show ¬ (22 : Int32) ≤ nI t from fun q => c22 ((cle 22 (by omega)).mp q))]
          exact b582_b (k_goes h l3 hX hY) hi hr1
      · rw [if_neg (show ¬ (17 : Int32) ≤ nI t from fun q => c17 ((cle 17 (by omega)).mp q))]
        by_cases c8 : 8 ≤ t
        · rw [if_pos (show (8 : Int32) ≤ nI t from (cle 8 (by omega)).mpr c8)]
          by_cases c9 : 9 ≤ t
          · rw [if_pos (show (9 : Int32) ≤ nI t from (cle 9 (by omega)).mpr c9)]
            by_cases c15 : 15 ≤ t
            · rw [if_pos (show (15 : Int32) ≤ nI t from (cle 15 (by omega)).mpr c15)]
              split
              · exact b582_b (k_does h l3 hX hY (by decide)) hi hr1
              · exact b582_b (k_does h l3 hX hY (by decide)) hi hr1
            · rw [if_neg (show ¬ (15 : Int32) ≤ nI t from fun q => c15 ((cle 15 (by omega)).mp q))]
              exact b582_b (k_does h l3 hX hY (by decide)) hi hr1
          · rw [if_neg (show ¬ (9 : Int32) ≤ nI t from fun q => c9 ((cle 9 (by omega)).mp q))]
            exact b582_b (k_does h l3 hX hY (by decide)) hi hr1
        · rw [if_neg (show ¬ (8 : Int32) ≤ nI t from fun q => c8 ((cle 8 (by omega)).mp q))]
          exact b582_b (k_does h l3 hX hY (by decide)) hi hr1
    · rw [if_neg (show ¬ (5 : Int32) ≤ nI t from fun q => c5 ((cle 5 (by omega)).mp q))]
      exact b582_b (k_adds h l3 hX hY) hi hr1
  · rw [if_neg (show ¬ (2 : Int32) ≤ nI t from fun q => c2 ((cle 2 (by omega)).mp q))]
    by_cases c0 : t = 0
    · rw [if_pos (by rw [c0]; rfl), k0 (by decide), c0]
      exact spell_ok h hY hi hrec
    · have hz : nI t ≠ (0 : Int32) := fun q => c0 ((nI_0iff (by omega)).mp q)
      rw [if_neg hz]
      exact clear_ok h hi hrec hz
end
theorem board_pure (xs : Nat → Int32) {L : Nat} (hL : L ≤ 260) {a : Nat} (ha : a ≤ 410) : ∃ S, f_L_board_b41 xs L (nI a) S0 0 0 = some (S, 1) := by
  have hok : Ok (f_L_board_b41 xs L (nI a) S0 0 0) (fun o => o.2 = 1) := by
    unfold f_L_board_b41
    refine ok_fx 66 (fun i v => ∃ (S : HS) (sp : Nat), v = (S, nI sp, nI i) ∧ BI S sp) ?_ ?_ (by omega) ⟨S0, 0, rfl, BI_0⟩
    · rintro i v rec hi ⟨S, sp, rfl, hB⟩ hrec
      have hrec' : ∀ (S' : HS) sp', BI S' sp' → Ok (rec (S', nI sp', nI (i + 1))) (fun o => o.2 = 1) := fun S' sp' h' => hrec _ ⟨S', sp', rfl, h'⟩
      have e3 : (3 : Int32) * nI i = nI (3 * i) := by rw [show (3 : Int32) = nI 3 from rfl, pk_mul]
      obtain ⟨X, hX, hdX⟩ := draw7 (xs := xs) hL (m := a + 3 * i + 1) (n := 1073741824) (by omega) (by omega) (by omega) S
      obtain ⟨Y, hY, hdY⟩ := draw7 (xs := xs) hL (m := a + 3 * i + 2) (n := 1073741824) (by omega) (by omega) (by omega) S
      obtain ⟨t, ht, hdt⟩ := draw7 (xs := xs) hL (m := a + 3 * i) (n := 24) (by omega) (by omega) (by omega) S
      have hdX' : f_L_draw xs L (nI (a + 3 * i + 1)) (1073741824 : Int32) S = some (nI X) := hdX
      have hdY' : f_L_draw xs L (nI (a + 3 * i + 2)) (1073741824 : Int32) S = some (nI Y) := hdY
      have hdt' : f_L_draw xs L (nI (a + 3 * i)) (24 : Int32) S = some (nI t) := hdt
      have ea : nI a + nI (3 * i) = nI (a + 3 * i) := nI_add _ _
      have e1 : nI (a + 3 * i) + (1 : Int32) = nI (a + 3 * i + 1) := nI_1 _
      have e2 : nI (a + 3 * i) + (2 : Int32) = nI (a + 3 * i + 2) := nI_add _ 2
      unfold F_L_board_b41
      dsimp only
      rw [if_neg (by rw [show (66 : Int32) = nI 66 from rfl, nI_leI (by omega) (by omega)]; omega), e3, ea, e1, hdX', bsm, e2, hdY', bsm]
      by_cases c2 : 2 ≤ i
      · rw [if_pos (show (2 : Int32) ≤ nI i from (nI_leI (a := 2) (by omega) (by omega)).mpr c2)]
        by_cases c7 : 7 ≤ i
        · rw [if_pos (show (7 : Int32) ≤ nI i from (nI_leI (a := 7) (by omega) (by omega)).mpr c7)]
          by_cases c9 : 9 ≤ i
          · rw [if_pos (show (9 : Int32) ≤ nI i from (nI_leI (a := 9) (by omega) (by omega)).mpr c9), hdt', bsm]
            exact b125_ok hB (by omega) (by omega) ht hi hrec'
          · rw [if_neg (show ¬ (9 : Int32) ≤ nI i from fun q => c9 ((nI_leI (a := 9) (by omega) (by omega)).mp q))]
            exact b125_ok (t := 9) hB (by omega) (by omega) (by omega) hi hrec'
        · rw [if_neg (show ¬ (7 : Int32) ≤ nI i from fun q => c7 ((nI_leI (a := 7) (by omega) (by omega)).mp q))]
          exact b125_ok (t := 2) hB (by omega) (by omega) (by omega) hi hrec'
      · rw [if_neg (show ¬ (2 : Int32) ≤ nI i from fun q => c2 ((nI_leI (a := 2) (by omega) (by omega)).mp q))]
        exact b125_ok (t := 0) hB (by omega) (by omega) (by omega) hi hrec'
    · rintro v rec ⟨S, sp, rfl, hB⟩
      obtain ⟨ns, nr, na, ne, nm, lt, len, fr, to, sj, dr, ab, st, lby, se, trn, txt, kd, dd, qq, hCL, hWX⟩ := hB
      obtain ⟨⟨S2, v2⟩, hr, hv, hCL2⟩ := k_board hCL
      dsimp only at hv
      subst hv
      unfold F_L_board_b41
      dsimp only
      rw [if_pos (by decide), hr, bsm]
      dsimp only
      rw [nz_1, if_pos rfl]
      exact ⟨_, rfl, rfl⟩
  obtain ⟨⟨S, v⟩, h1, h2⟩ := hok
  dsimp only at h2
  subst h2
  exact ⟨S, h1⟩
