/-! the whole of an export -/
section
variable {S : HS} {sp ns nr na ne nm : Nat} {lt len fr to sj dr ab st lby se : Nat → Nat} {trn : Nat → Bool} {txt : Nat → Nat → Nat} {kd dd : Nat → Int32} {qq : Nat → Nat → Int32} {e k : Nat} {T R : List Nat} {p : Nat}
theorem x_rules {P : HS × Int32 → Prop} (h : CI S sp ns nr na ne nm lt len fr to sj dr ab st lby se trn txt kd dd qq) (h2 : S.1 38 2 = nI nr) (hX : XP S (TX (rep kd fr to (lbL len) dd sj qq (cset st ab) na).1 len trn txt) e) (hend : Ok (f_L_isExport_b399 (nI e) S (nI (TX (rep kd fr to (lbL len) dd sj qq (cset st ab) na).1 len trn txt).length) 1 0) P) : Ok (f_L_isExport_b269 (nI e) S (nI (TX (rep kd fr to (lbL len) dd sj qq (cset st ab) na).1 len trn txt).length) (nI (alS (rep kd fr to (lbL len) dd sj qq (cset st ab) na).1.1 (rep kd fr to (lbL len) dd sj qq (cset st ab) na).1.2.2.1 len trn txt 10).length)) P := by
  obtain ⟨r, hr, hP⟩ := hend
  refine ⟨r, ?_, hP⟩
  have hT := hX.2.1
  have hnr := h.1.2.1.1
  have hAI := (rep_ok (set := cset st ab) h.1.2.1 h.1.2.2.1 na (Nat.le_refl _)).1
  have hfk := hAI.2.1
  have hTX : TX (rep kd fr to (lbL len) dd sj qq (cset st ab) na).1 len trn txt = alS (rep kd fr to (lbL len) dd sj qq (cset st ab) na).1.1 (rep kd fr to (lbL len) dd sj qq (cset st ab) na).1.2.2.1 len trn txt 10 ++ ruS (rep kd fr to (lbL len) dd sj qq (cset st ab) na).1.2.1 12 := rfl
  have h12 : ruS (rep kd fr to (lbL len) dd sj qq (cset st ab) na).1.2.1 12 = ruS (rep kd fr to (lbL len) dd sj qq (cset st ab) na).1.2.1 nr := by
    have := ruS_nr hfk (12 - nr)
    rwa [show nr + (12 - nr) = 12 by omega] at this
  have hpos : ∀ j, j ≤ nr → (alS (rep kd fr to (lbL len) dd sj qq (cset st ab) na).1.1 (rep kd fr to (lbL len) dd sj qq (cset st ab) na).1.2.2.1 len trn txt 10).length + (ruS (rep kd fr to (lbL len) dd sj qq (cset st ab) na).1.2.1 j).length ≤ (TX (rep kd fr to (lbL len) dd sj qq (cset st ab) na).1 len trn txt).length := by
    intro j hj
    obtain ⟨R', h'⟩ := ruS_pre (rep kd fr to (lbL len) dd sj qq (cset st ab) na).1.2.1 j (nr - j)
    rw [show j + (nr - j) = nr by omega] at h'
    rw [hTX, h12, h', List.length_append, List.length_append]
    omega
  have hpe : (alS (rep kd fr to (lbL len) dd sj qq (cset st ab) na).1.1 (rep kd fr to (lbL len) dd sj qq (cset st ab) na).1.2.2.1 len trn txt 10).length + (ruS (rep kd fr to (lbL len) dd sj qq (cset st ab) na).1.2.1 nr).length = (TX (rep kd fr to (lbL len) dd sj qq (cset st ab) na).1 len trn txt).length := by rw [hTX, h12, List.length_append]
  unfold f_L_isExport_b269 f_L_isExport_b272
  refine fx_run nr (fun j => (S, nI (TX (rep kd fr to (lbL len) dd sj qq (cset st ab) na).1 len trn txt).length, nI ((alS (rep kd fr to (lbL len) dd sj qq (cset st ab) na).1.1 (rep kd fr to (lbL len) dd sj qq (cset st ab) na).1.2.2.1 len trn txt 10).length + (ruS (rep kd fr to (lbL len) dd sj qq (cset st ab) na).1.2.1 j).length), nI j)) ?_ ?_ (FU_gt (by omega)) rfl
  · intro j rec hj
    have hpj := hpos j (by omega)
    have hpj1 := hpos (j + 1) (by omega)
    unfold F_L_isExport_b272 f_L_isExport_b360
    dsimp only
    rw [if_pos ib25, cl2, h2, if_neg (nlt_le hj (by omega)), if_neg (nI_pos (by omega)), k_force h hj, bsm]
    dsimp only
    rw [if_pos rfl, ifb]
    cases hf : (rep kd fr to (lbL len) dd sj qq (cset st ab) na).1.2.1.testBit j with
    | false =>
      rw [if_neg (by decide), nI_1]
      have : ruS (rep kd fr to (lbL len) dd sj qq (cset st ab) na).1.2.1 (j + 1) = ruS (rep kd fr to (lbL len) dd sj qq (cset st ab) na).1.2.1 j := by
        show ruS _ j ++ (if (rep kd fr to (lbL len) dd sj qq (cset st ab) na).1.2.1.testBit j = true then [114] ++ (nS (nI j) ++ [59]) else []) = _
        rw [hf, if_neg (by decide), List.append_nil]
      rw [this]
    | true =>
      have hr1 : ruS (rep kd fr to (lbL len) dd sj qq (cset st ab) na).1.2.1 (j + 1) = ruS (rep kd fr to (lbL len) dd sj qq (cset st ab) na).1.2.1 j ++ ([114] ++ (nS (nI j) ++ [59])) := by
        show ruS _ j ++ (if (rep kd fr to (lbL len) dd sj qq (cset st ab) na).1.2.1.testBit j = true then [114] ++ (nS (nI j) ++ [59]) else []) = _
        rw [hf, if_pos rfl]
      have hPj : ∃ R', Pos (TX (rep kd fr to (lbL len) dd sj qq (cset st ab) na).1 len trn txt) ((alS (rep kd fr to (lbL len) dd sj qq (cset st ab) na).1.1 (rep kd fr to (lbL len) dd sj qq (cset st ab) na).1.2.2.1 len trn txt 10).length + (ruS (rep kd fr to (lbL len) dd sj qq (cset st ab) na).1.2.1 j).length) (114 :: (nS (nI j) ++ (59 :: R'))) := by
        obtain ⟨R', h'⟩ := ruS_pre (rep kd fr to (lbL len) dd sj qq (cset st ab) na).1.2.1 (j + 1) (nr - (j + 1))
        rw [show j + 1 + (nr - (j + 1)) = nr by omega, hr1] at h'
        refine ⟨R', alS (rep kd fr to (lbL len) dd sj qq (cset st ab) na).1.1 (rep kd fr to (lbL len) dd sj qq (cset st ab) na).1.2.2.1 len trn txt 10 ++ ruS (rep kd fr to (lbL len) dd sj qq (cset st ab) na).1.2.1 j, ?_, by rw [List.length_append]⟩
        rw [hTX, h12, h']
        simp only [List.append_assoc, List.cons_append, List.nil_append]
      obtain ⟨R', hPj⟩ := hPj
      have hlj := hPj.le
      rw [List.length_cons, List.length_append, List.length_cons] at hlj
      rw [if_pos rfl, x_ask hX hPj, bsm]
      dsimp only
      rw [if_pos rfl, if_pos (show nI 114 = (114 : Int32) from rfl), nI_1, x_reads hX (rngI (by omega)) hPj.s, bsm]
      unfold f_L_isExport_b326 f_L_isExport_b358 f_L_isExport_b360
      dsimp only
      rw [if_neg (nI_pos (by omega)), x_ask hX hPj.s.ap, bsm]
      dsimp only
      rw [if_pos rfl, if_pos (show nI 59 = (59 : Int32) from rfl), nI_1, nI_1, hr1]
      congr 5
      simp only [List.length_append, List.length_cons, List.length_nil]
      omega
  · intro rec
    unfold F_L_isExport_b272 f_L_isExport_b366 f_L_isExport_b394
    dsimp only
    rw [if_pos ib25, cl2, h2, if_pos (nle_nI _), hpe, if_pos rfl, asks12, hX.2.2, awr_4, bsm]
    dsimp only
    rw [if_pos rfl]
    exact hr
theorem x_export (h : CI S sp ns nr na ne nm lt len fr to sj dr ab st lby se trn txt kd dd qq) (h1 : S.1 38 1 = nI ns) (h2 : S.1 38 2 = nI nr) (he : e < nm) (hse : se e = cset st ab) (hw : ∀ k, (rep kd fr to (lbL len) dd sj qq (cset st ab) na).1.1.testBit k = true → 0 < len k → (rep kd fr to (lbL len) dd sj qq (cset st ab) na).1.2.2.1 k 2 = nI (2 * len k)) : Ok (f_L_isExport (nI e) S) (fun o => o.2 = 1 ∧ CI o.1 sp ns nr na ne nm lt len fr to sj dr ab st lby se trn txt kd dd qq ∧ ∀ x, 36 ≤ x → o.1.1 x = S.1 x) := by
  have hX := k_XP h he hse
  have hT := hX.2.1
  have hns := h.1.2.1.2.1
  have hAI := (rep_ok (set := cset st ab) h.1.2.1 h.1.2.2.1 na (Nat.le_refl _)).1
  have hln := k_length h he
  rw [hse] at hln
  have hend : Ok (f_L_isExport_b399 (nI e) S (nI (TX (rep kd fr to (lbL len) dd sj qq (cset st ab) na).1 len trn txt).length) 1 0) (fun o => o.2 = 1 ∧ CI o.1 sp ns nr na ne nm lt len fr to sj dr ab st lby se trn txt kd dd qq ∧ ∀ x, 36 ≤ x → o.1.1 x = S.1 x) := by
    unfold f_L_isExport_b399
    refine ok_fx 3 (fun i v => ∃ S' : HS, v = (S', nI (TX (rep kd fr to (lbL len) dd sj qq (cset st ab) na).1 len trn txt).length, 1, nI i) ∧ CI S' sp ns nr na ne nm lt len fr to sj dr ab st lby se trn txt kd dd qq ∧ ∀ x, 36 ≤ x → S'.1 x = S.1 x) ?_ ?_ (FU_gt (by omega)) ⟨S, rfl, h, fun _ _ => rfl⟩
    · rintro i v rec hi ⟨S', rfl, hS, hx⟩ hrec
      unfold F_L_isExport_b399 f_L_isExport_b456 f_L_isExport_b448
      dsimp only
      rw [if_neg (by rw [show (3 : Int32) = nI 3 from rfl, nI_leI (by omega) (by omega)]; omega), nz_1, if_pos rfl]
      by_cases h0 : (TX (rep kd fr to (lbL len) dd sj qq (cset st ab) na).1 len trn txt).length = 0
      · rw [if_pos (by rw [h0]; decide)]
        exact ⟨_, rfl, rfl, hS, hx⟩
      · have hmul : ((TX (rep kd fr to (lbL len) dd sj qq (cset st ab) na).1 len trn txt).length - 1) * i ≤ ((TX (rep kd fr to (lbL len) dd sj qq (cset st ab) na).1 len trn txt).length - 1) * 2 := Nat.mul_le_mul_left _ (by omega)
        have hidx : (nI (TX (rep kd fr to (lbL len) dd sj qq (cset st ab) na).1 len trn txt).length - 1) * nI i / (2 : Int32) = nI (((TX (rep kd fr to (lbL len) dd sj qq (cset st ab) na).1 len trn txt).length - 1) * i / 2) := by
          rw [show (1 : Int32) = nI 1 from rfl, pk_sub (by omega), pk_mul]
          exact pk_div (d := 2) (by omega) (by decide) (by decide)
        have hj : ((TX (rep kd fr to (lbL len) dd sj qq (cset st ab) na).1 len trn txt).length - 1) * i / 2 < (TX (rep kd fr to (lbL len) dd sj qq (cset st ab) na).1 len trn txt).length := by omega
        obtain ⟨⟨S2, e2, v2⟩, hr, hv, hq⟩ := k_charAnew hS he (j := ((TX (rep kd fr to (lbL len) dd sj qq (cset st ab) na).1 len trn txt).length - 1) * i / 2) (by rw [hse]; exact hj)
        dsimp only at hv hq
        rw [hse] at hv
        obtain ⟨rfl, rfl⟩ := Prod.mk.inj hv
        have hS2 := CI_q hS hq
        have hX2 := k_XP hS2 he hse
        rw [if_neg (by rw [lb_le (by omega)]; exact h0), if_neg (by decide), if_neg (by decide), hidx, hr, bsm]
        dsimp only
        rw [if_pos rfl, if_neg (by decide), hX2.1 _ hj, bsm]
        dsimp only
        rw [if_pos rfl, if_pos rfl, nI_1]
        exact hrec _ ⟨S2, rfl, hS2, fun x hx' => by rw [hq.1 x (by omega) (by omega) (by omega)]; exact hx x hx'⟩
    · rintro v rec ⟨S', rfl, hS, hx⟩
      unfold F_L_isExport_b399 f_L_isExport_b456
      dsimp only
      rw [if_pos (by decide), nz_1, if_pos rfl]
      exact ⟨_, rfl, rfl, hS, hx⟩
  obtain ⟨r, hr, hP⟩ := x_rules h h2 hX hend
  refine ⟨r, ?_, hP⟩
  have h10 : alS (rep kd fr to (lbL len) dd sj qq (cset st ab) na).1.1 (rep kd fr to (lbL len) dd sj qq (cset st ab) na).1.2.2.1 len trn txt 10 = alS (rep kd fr to (lbL len) dd sj qq (cset st ab) na).1.1 (rep kd fr to (lbL len) dd sj qq (cset st ab) na).1.2.2.1 len trn txt ns := by
    have := alS_ns (rep kd fr to (lbL len) dd sj qq (cset st ab) na).1.2.2.1 len trn txt hAI.1 (10 - ns)
    rwa [show ns + (10 - ns) = 10 by omega] at this
  have hTX : TX (rep kd fr to (lbL len) dd sj qq (cset st ab) na).1 len trn txt = alS (rep kd fr to (lbL len) dd sj qq (cset st ab) na).1.1 (rep kd fr to (lbL len) dd sj qq (cset st ab) na).1.2.2.1 len trn txt 10 ++ ruS (rep kd fr to (lbL len) dd sj qq (cset st ab) na).1.2.1 12 := rfl
  have hpos : ∀ j, j ≤ ns → (alS (rep kd fr to (lbL len) dd sj qq (cset st ab) na).1.1 (rep kd fr to (lbL len) dd sj qq (cset st ab) na).1.2.2.1 len trn txt j).length ≤ (TX (rep kd fr to (lbL len) dd sj qq (cset st ab) na).1 len trn txt).length := by
    intro j hj
    obtain ⟨R', h'⟩ := alS_pre (rep kd fr to (lbL len) dd sj qq (cset st ab) na).1.1 (rep kd fr to (lbL len) dd sj qq (cset st ab) na).1.2.2.1 len trn txt j (ns - j)
    rw [show j + (ns - j) = ns by omega] at h'
    rw [hTX, h10, h', List.length_append, List.length_append]
    omega
  unfold f_L_isExport
  rw [hln, bsm]
  dsimp only
  rw [if_pos rfl]
  unfold f_L_isExport_b12
  refine fx_run ns (fun j => (S, nI (TX (rep kd fr to (lbL len) dd sj qq (cset st ab) na).1 len trn txt).length, nI (alS (rep kd fr to (lbL len) dd sj qq (cset st ab) na).1.1 (rep kd fr to (lbL len) dd sj qq (cset st ab) na).1.2.2.1 len trn txt j).length, nI j)) ?_ ?_ (FU_gt (by omega)) rfl
  · intro j rec hj
    have hpj := hpos j (by omega)
    unfold F_L_isExport_b12
    dsimp only
    rw [if_pos ib15, cl1, h1, if_neg (nlt_le hj (by omega)), if_neg (nI_pos (by omega)), k_isThere h hj, bsm]
    dsimp only
    rw [if_pos rfl, ifb]
    cases ht : (rep kd fr to (lbL len) dd sj qq (cset st ab) na).1.1.testBit j with
    | false =>
      unfold f_L_isExport_b263
      rw [if_neg (by decide), nI_1]
      have : alS (rep kd fr to (lbL len) dd sj qq (cset st ab) na).1.1 (rep kd fr to (lbL len) dd sj qq (cset st ab) na).1.2.2.1 len trn txt (j + 1) = alS (rep kd fr to (lbL len) dd sj qq (cset st ab) na).1.1 (rep kd fr to (lbL len) dd sj qq (cset st ab) na).1.2.2.1 len trn txt j := by
        show alS _ _ len trn txt j ++ (if (rep kd fr to (lbL len) dd sj qq (cset st ab) na).1.1.testBit j = true then shS (rep kd fr to (lbL len) dd sj qq (cset st ab) na).1.2.2.1 len trn txt j else []) = _
        rw [ht, if_neg (by decide), List.append_nil]
      rw [this]
    | true =>
      have hr1 : alS (rep kd fr to (lbL len) dd sj qq (cset st ab) na).1.1 (rep kd fr to (lbL len) dd sj qq (cset st ab) na).1.2.2.1 len trn txt (j + 1) = alS (rep kd fr to (lbL len) dd sj qq (cset st ab) na).1.1 (rep kd fr to (lbL len) dd sj qq (cset st ab) na).1.2.2.1 len trn txt j ++ shS (rep kd fr to (lbL len) dd sj qq (cset st ab) na).1.2.2.1 len trn txt j := by
        show alS _ _ len trn txt j ++ (if (rep kd fr to (lbL len) dd sj qq (cset st ab) na).1.1.testBit j = true then shS (rep kd fr to (lbL len) dd sj qq (cset st ab) na).1.2.2.1 len trn txt j else []) = _
        rw [ht, if_pos rfl]
      have hPj : ∃ R', Pos (TX (rep kd fr to (lbL len) dd sj qq (cset st ab) na).1 len trn txt) (alS (rep kd fr to (lbL len) dd sj qq (cset st ab) na).1.1 (rep kd fr to (lbL len) dd sj qq (cset st ab) na).1.2.2.1 len trn txt j).length (shS (rep kd fr to (lbL len) dd sj qq (cset st ab) na).1.2.2.1 len trn txt j ++ R') := by
        obtain ⟨R', h'⟩ := alS_pre (rep kd fr to (lbL len) dd sj qq (cset st ab) na).1.1 (rep kd fr to (lbL len) dd sj qq (cset st ab) na).1.2.2.1 len trn txt (j + 1) (ns - (j + 1))
        rw [show j + 1 + (ns - (j + 1)) = ns by omega, hr1] at h'
        refine ⟨R' ++ ruS (rep kd fr to (lbL len) dd sj qq (cset st ab) na).1.2.1 12, alS (rep kd fr to (lbL len) dd sj qq (cset st ab) na).1.1 (rep kd fr to (lbL len) dd sj qq (cset st ab) na).1.2.2.1 len trn txt j, ?_, rfl⟩
        rw [hTX, h10, h']
        simp only [List.append_assoc]
      obtain ⟨R', hPj⟩ := hPj
      have hsh := x_shape (rec12 := rec) (x3 := nI (TX (rep kd fr to (lbL len) dd sj qq (cset st ab) na).1 len trn txt).length) h hX hj ht (hw j ht) hPj
      rw [← List.length_append, ← hr1] at hsh
      rw [shS_md, List.cons_append] at hPj
      rw [if_pos rfl, x_ask hX hPj, bsm]
      unfold f_L_isExport_b64
      dsimp only
      rw [if_pos rfl, nI_1]
      by_cases hl : 0 < len j
      · rw [if_pos hl] at hsh ⊢
        rw [if_neg (by decide), if_pos (show nI 116 = (116 : Int32) from rfl)]
        exact hsh
      · rw [if_neg hl] at hsh ⊢
        rw [if_pos (show nI 98 = (98 : Int32) from rfl)]
        exact hsh
  · intro rec
    unfold F_L_isExport_b12
    dsimp only
    rw [if_pos ib15, cl1, h1, if_pos (nle_nI _), ← h10]
    exact hr
end
