/-! the board -/
theorem le2n {i : Nat} (h : i < 2) : ¬ (2 : Int32) ≤ nI i := by rw [show (2 : Int32) = nI 2 from rfl, nI_leI (by omega) (by omega)]; omega
theorem pop_all : ∀ g, g < 1024 → g ≠ 0 → nI g &&& (nI g - 1) = nI (clr g (low g 10 0)) := by decide +kernel
theorem rPass_12 {lk : Nat → Bool} {fr to : Nat → Nat} {nm : Nat} (h : ∀ j, lk j = true → j < nm) (hn : nm ≤ 12) (g : Nat) : rPass lk fr to nm g = rPass lk fr to 12 g := by
  have := rPass_nm (fr := fr) (to := to) h g (12 - nm)
  rw [show nm + (12 - nm) = 12 by omega] at this
  exact this.symm
theorem crd_12 {g : Nat} (h : g < 2 ^ 10) : fb_ct (fun i => g.testBit i) 12 = crd g := ct_ext (fun k hk => bits_out h hk) (by omega)
section
variable {S : HS} {sp ns nr na ne nm : Nat} {lt len fr to sj dr ab st lby se : Nat → Nat} {trn : Nat → Bool} {txt : Nat → Nat → Nat} {kd dd : Nat → Int32} {qq : Nat → Nat → Int32}
theorem brd_pass {rec9 : HS × Int32 × Int32 × Int32 → Option (HS × Int32)} {rec146 : HS × Int32 × Int32 × Int32 × Int32 × Int32 → Option (HS × Int32)} {rec169 : HS × Int32 × Int32 × Int32 × Int32 × Int32 × Int32 × Int32 → Option (HS × Int32)} {k w g : Nat} {x7 x10 x11 : Int32} (h : CL S sp ns nr na ne nm lt len fr to sj dr ab st lby se trn txt kd dd qq) (hw : w < 2) (hg : g < 2 ^ 10) : f_L_isBoard_b183 rec9 rec146 rec169 S 0 (nI k) x7 (nI w) (nI g) x10 x11 0 = rec169 (S, 0, nI k, x7, nI w, nI (rPass (lkf (rep kd fr to (lbL len) dd sj qq (cset st ab) na).1.2.1 kd w) fr to 12 g), x10, x11) := by
  obtain ⟨hC, hL⟩ := h
  have hR := hC.1.2.1
  have hAI := (rep_ok (set := cset st ab) hR hC.1.2.2.1 na (Nat.le_refl _)).1
  have hro := RW_ok (w := w) hR hAI.2.1
  have hK := hC.1.2.2.2.2.1
  have hlb := hC.1.2.2.2.2.2.1
  have hna := hC.1.2.2.2.1.1
  have hnr := hR.1
  have hns := hR.2.1
  rw [← rPass_12 (nm := nr) (fun j hj => lkf_nr hAI.2.1 hj) hnr]
  unfold f_L_isBoard_b183
  refine fx_run nr (fun i => (S, 0, nI k, x7, nI w, nI (rPass (lkf (rep kd fr to (lbL len) dd sj qq (cset st ab) na).1.2.1 kd w) fr to i g), x10, x11, nI i)) ?_ ?_ (FU_gt (by omega)) rfl
  · intro i rec hi
    obtain ⟨f1, f2⟩ := hR.2.2 i hi
    obtain ⟨p1, p2, p3, p4⟩ := pr_all (S := S) (hK i hi).1 (show fr i < 10 by omega) (show to i < 10 by omega) (show lby i < 60 by have := (hlb i hi).1; omega)
    have hgi := rPass_lt hro i hg
    have h253 : ∀ c : Bool, c = lkf (rep kd fr to (lbL len) dd sj qq (cset st ab) na).1.2.1 kd w i → f_L_isBoard_b253 rec9 rec146 rec169 rec S 0 (nI k) x7 (nI w) (nI (rPass (lkf (rep kd fr to (lbL len) dd sj qq (cset st ab) na).1.2.1 kd w) fr to i g)) x10 x11 (nI i) (bI c) = rec (S, 0, nI k, x7, nI w, nI (rPass (lkf (rep kd fr to (lbL len) dd sj qq (cset st ab) na).1.2.1 kd w) fr to (i + 1) g), x10, x11, nI (i + 1)) := by
      intro c hc
      unfold f_L_isBoard_b253 f_L_isBoard_b301 f_L_isBoard_b302
      have pf1 : 2 ^ fr i < 2 ^ 10 := pow_lt10 (by omega)
      have pf2 : 2 ^ to i < 2 ^ 10 := pow_lt10 (by omega)
      have pf3 : rPass (lkf (rep kd fr to (lbL len) dd sj qq (cset st ab) na).1.2.1 kd w) fr to i g &&& (2 ^ fr i ||| 2 ^ to i) < 2 ^ 10 := Nat.lt_of_le_of_lt Nat.and_le_left hgi
      rw [if_pos (ib_nI (show i < 12 by omega) (by omega)), nI_cl (by omega), hL.2.1 i hi, p2, bsm, if_pos (ib_nI (show i < 12 by omega) (by omega)), p3, bsm, ifb, shl1 (by omega), shl1 (by omega), fa_or, fa_and, nI_1, show (0 : Int32) = nI 0 from rfl, fa_or, Nat.or_zero, fa_or]
      show _ = rec (S, nI 0, nI k, x7, nI w, nI (rStep (lkf (rep kd fr to (lbL len) dd sj qq (cset st ab) na).1.2.1 kd w) fr to i (rPass (lkf (rep kd fr to (lbL len) dd sj qq (cset st ab) na).1.2.1 kd w) fr to i g)), x10, x11, nI (i + 1))
      unfold rStep
      cases c with
      | false => rw [if_neg (by decide), if_neg (fun q => by rw [← hc] at q; exact absurd q.1 (by decide))]
      | true =>
        rw [if_pos rfl]
        by_cases h6 : (rPass (lkf (rep kd fr to (lbL len) dd sj qq (cset st ab) na).1.2.1 kd w) fr to i g).testBit (fr i) = true ∨ (rPass (lkf (rep kd fr to (lbL len) dd sj qq (cset st ab) na).1.2.1 kd w) fr to i g).testBit (to i) = true
        · rw [if_neg (fun q => absurd h6 (and_ends.mp ((nI_eq (by omega) (by omega)).mp q))), if_pos ⟨hc.symm, h6⟩]
        · rw [if_pos (by rw [and_ends.mpr h6]), if_neg (fun q => h6 q.2)]
    unfold F_L_isBoard_b183
    dsimp only
    rw [if_pos ib25, cl2, hL.2.2.2.2.1, if_neg (nlt_le hi (by omega)), if_pos (ib_nI (show i < 12 by omega) (by omega)), nI_cl (by omega), hL.2.1 i hi, p1, bsm, k_force hC hi, bsm]
    dsimp only
    rw [if_pos rfl, ifb]
    unfold f_L_isBoard_b235 f_L_isBoard_b245 f_L_isBoard_b248 f_L_isBoard_b252
    have e0 := h253 false
    have e1 := h253 true
    rw [show bI false = (0 : Int32) from rfl] at e0
    rw [show bI true = (1 : Int32) from rfl] at e1
    unfold lkf at e0 e1
    cases hf : (rep kd fr to (lbL len) dd sj qq (cset st ab) na).1.2.1.testBit i with
    | false =>
      rw [if_neg (by decide)]
      exact e0 (by rw [hf]; rfl)
    | true =>
      rw [if_pos rfl]
      rw [hf, Bool.true_and] at e0 e1
      match w, hw with
      | 0, _ =>
        rcases (hK i hi).1 with (q | q | q | q | q | q) | q <;> rw [q] at e0 e1 ⊢ <;> first | exact e0 (by decide) | exact e1 (by decide)
      | 1, _ =>
        rcases (hK i hi).1 with (q | q | q | q | q | q) | q <;> rw [q] at e0 e1 ⊢ <;> first | exact e0 (by decide) | exact e1 (by decide)
  · intro rec
    unfold F_L_isBoard_b183
    dsimp only
    rw [if_pos ib25, cl2, hL.2.2.2.2.1, if_pos (nle_nI _)]
theorem brd_pop {rec9 : HS × Int32 × Int32 × Int32 → Option (HS × Int32)} {rec146 : HS × Int32 × Int32 × Int32 × Int32 × Int32 → Option (HS × Int32)} {k w : Nat} (h : CL S sp ns nr na ne nm lt len fr to sj dr ab st lby se trn txt kd dd qq) (hk : k < ns) (hw : w < 2) : f_L_isBoard_b318 rec9 rec146 S 0 (nI k) (bI ((rep kd fr to (lbL len) dd sj qq (cset st ab) na).1.1.testBit k)) (nI w) 0 (nI (clo (lkf (rep kd fr to (lbL len) dd sj qq (cset st ab) na).1.2.1 kd w) fr to k)) = rec146 (S, 0, 1, nI k, bI ((rep kd fr to (lbL len) dd sj qq (cset st ab) na).1.1.testBit k), nI (w + 1)) := by
  obtain ⟨hC, hL⟩ := h
  have hR := hC.1.2.1
  have hAI := (rep_ok (set := cset st ab) hR hC.1.2.2.1 na (Nat.le_refl _)).1
  have hns := hR.2.1
  have hcl := clo_lt (RW_ok (w := w) hR hAI.2.1) (show k < 10 by omega)
  have hw1 : (if (1 : Int32) - nI w ≤ 0 then (0 : Int32) else 1) = nI (1 - w) := by
    match w, hw with
    | 0, _ => decide
    | 1, _ => decide
  have hfin : ∀ (rec318 : HS × Int32 × Int32 × Int32 × Int32 × Int32 × Int32 → Option (HS × Int32)) (c g : Nat), g = 0 → c + crd g = crd (clo (lkf (rep kd fr to (lbL len) dd sj qq (cset st ab) na).1.2.1 kd w) fr to k) → F_L_isBoard_b318 rec9 rec146 rec318 (S, 0, nI k, bI ((rep kd fr to (lbL len) dd sj qq (cset st ab) na).1.1.testBit k), nI w, nI c, nI g) = rec146 (S, 0, 1, nI k, bI ((rep kd fr to (lbL len) dd sj qq (cset st ab) na).1.1.testBit k), nI (w + 1)) := by
    rintro rec318 c g rfl hc
    have h0 : crd 0 = 0 := by decide
    rw [h0, Nat.add_zero] at hc
    unfold F_L_isBoard_b318 f_L_isBoard_b366 f_L_isBoard_b374
    dsimp only
    rw [if_pos (by decide), asks11, hw1]
    cases ht : (rep kd fr to (lbL len) dd sj qq (cset st ab) na).1.1.testBit k with
    | false =>
      rw [k_part_n hC hk ht, awr_4, bsm, if_pos (show bI false = 0 from rfl), if_pos rfl, nI_1]
    | true =>
      rw [k_part_y hC hk hw ht, awr_0, bsm, if_neg (show ¬ bI true = 0 by decide), crd_12 hcl, hc, if_pos rfl, nI_1]
  unfold f_L_isBoard_b318
  refine fx_inv 10 (fun i v => ∃ c g, v = (S, 0, nI k, bI ((rep kd fr to (lbL len) dd sj qq (cset st ab) na).1.1.testBit k), nI w, nI c, nI g) ∧ g < 2 ^ 10 ∧ crd g + i ≤ 10 ∧ c + crd g = crd (clo (lkf (rep kd fr to (lbL len) dd sj qq (cset st ab) na).1.2.1 kd w) fr to k)) ?_ ?_ (FU_gt (by omega)) ⟨0, _, rfl, hcl, by have := crd_le (clo (lkf (rep kd fr to (lbL len) dd sj qq (cset st ab) na).1.2.1 kd w) fr to k); omega, by omega⟩
  · rintro i v rec hi ⟨c, g, rfl, hg, hci, hcc⟩ hrec
    by_cases e : g = 0
    · exact hfin rec c g e hcc
    · have hlo := low_le g (by omega) e
      have hin := low_in hg e
      have hcr := crd_clr hg hlo.1 hin
      unfold F_L_isBoard_b318
      dsimp only
      rw [if_neg (by rw [lb_le (by omega)]; exact e), pop_all g (by omega) e, nI_1]
      exact hrec _ ⟨c + 1, _, rfl, clr_lt hg, by omega, by omega⟩
  · rintro v rec ⟨c, g, rfl, hg, hci, hcc⟩
    exact hfin rec c g (crd_0 hg (by omega)) hcc
theorem brd_lnk {rec9 : HS × Int32 × Int32 × Int32 → Option (HS × Int32)} {rec146 : HS × Int32 × Int32 × Int32 × Int32 × Int32 → Option (HS × Int32)} {k w : Nat} (h : CL S sp ns nr na ne nm lt len fr to sj dr ab st lby se trn txt kd dd qq) (hk : k < ns) (hw : w < 2) : f_L_isBoard_b169 rec9 rec146 S 0 (nI k) (bI ((rep kd fr to (lbL len) dd sj qq (cset st ab) na).1.1.testBit k)) (nI w) ((1 : Int32) <<< (nI k &&& 31)) 0 0 = rec146 (S, 0, 1, nI k, bI ((rep kd fr to (lbL len) dd sj qq (cset st ab) na).1.1.testBit k), nI (w + 1)) := by
  have h0 := h
  obtain ⟨hC, hL⟩ := h
  have hR := hC.1.2.1
  have hAI := (rep_ok (set := cset st ab) hR hC.1.2.2.1 na (Nat.le_refl _)).1
  have hns := hR.2.1
  have hro := RW_ok (w := w) hR hAI.2.1
  have hp : 2 ^ k < 2 ^ 10 := pow_lt10 (by omega)
  have hp0 : 0 < 2 ^ k := Nat.pow_pos (by omega)
  have hI : ∀ j, rIter (lkf (rep kd fr to (lbL len) dd sj qq (cset st ab) na).1.2.1 kd w) fr to 12 j (2 ^ k) < 2 ^ 10 := fun j => rIter_lt hro 12 j hp
  have hfin : ∀ (rec169 : HS × Int32 × Int32 × Int32 × Int32 × Int32 × Int32 × Int32 → Option (HS × Int32)) j, rIter (lkf (rep kd fr to (lbL len) dd sj qq (cset st ab) na).1.2.1 kd w) fr to 12 (j + 1) (2 ^ k) = rIter (lkf (rep kd fr to (lbL len) dd sj qq (cset st ab) na).1.2.1 kd w) fr to 12 j (2 ^ k) → F_L_isBoard_b169 rec9 rec146 rec169 (S, 0, nI k, bI ((rep kd fr to (lbL len) dd sj qq (cset st ab) na).1.1.testBit k), nI w, nI (rIter (lkf (rep kd fr to (lbL len) dd sj qq (cset st ab) na).1.2.1 kd w) fr to 12 (j + 1) (2 ^ k)), nI (rIter (lkf (rep kd fr to (lbL len) dd sj qq (cset st ab) na).1.2.1 kd w) fr to 12 j (2 ^ k)), 0) = rec146 (S, 0, 1, nI k, bI ((rep kd fr to (lbL len) dd sj qq (cset st ab) na).1.1.testBit k), nI (w + 1)) := by
    intro rec169 j e
    unfold F_L_isBoard_b169
    dsimp only
    rw [e, if_pos rfl, clo_of_fix hro (show k < 10 by omega) e]
    exact brd_pop h0 hk hw
  rw [shl1 (by omega)]
  unfold f_L_isBoard_b169
  refine fx_inv 11 (fun j v => ∃ pv, v = (S, 0, nI k, bI ((rep kd fr to (lbL len) dd sj qq (cset st ab) na).1.1.testBit k), nI w, nI (rIter (lkf (rep kd fr to (lbL len) dd sj qq (cset st ab) na).1.2.1 kd w) fr to 12 j (2 ^ k)), nI pv, 0) ∧ (j = 0 ∧ pv = 0 ∨ ∃ i, j = i + 1 ∧ pv = rIter (lkf (rep kd fr to (lbL len) dd sj qq (cset st ab) na).1.2.1 kd w) fr to 12 i (2 ^ k))) ?_ ?_ (FU_gt (by omega)) ⟨0, rfl, Or.inl ⟨rfl, rfl⟩⟩
  · rintro j v rec hj ⟨pv, rfl, hpv⟩ hrec
    have hgo : nI (rIter (lkf (rep kd fr to (lbL len) dd sj qq (cset st ab) na).1.2.1 kd w) fr to 12 j (2 ^ k)) ≠ nI pv → F_L_isBoard_b169 rec9 rec146 rec (S, 0, nI k, bI ((rep kd fr to (lbL len) dd sj qq (cset st ab) na).1.1.testBit k), nI w, nI (rIter (lkf (rep kd fr to (lbL len) dd sj qq (cset st ab) na).1.2.1 kd w) fr to 12 j (2 ^ k)), nI pv, 0) = rec146 (S, 0, 1, nI k, bI ((rep kd fr to (lbL len) dd sj qq (cset st ab) na).1.1.testBit k), nI (w + 1)) := by
      intro hne
      unfold F_L_isBoard_b169
      dsimp only
      rw [if_neg hne, brd_pass h0 hw (hI j)]
      exact hrec _ ⟨_, rfl, Or.inr ⟨j, rfl, rfl⟩⟩
    rcases hpv with ⟨rfl, rfl⟩ | ⟨i, rfl, rfl⟩
    · exact hgo (fun q => by have := (nI_eq (Nat.lt_trans hp (by decide)) (by omega)).mp q; omega)
    · by_cases e : rIter (lkf (rep kd fr to (lbL len) dd sj qq (cset st ab) na).1.2.1 kd w) fr to 12 (i + 1) (2 ^ k) = rIter (lkf (rep kd fr to (lbL len) dd sj qq (cset st ab) na).1.2.1 kd w) fr to 12 i (2 ^ k)
      · exact hfin rec i e
      · exact hgo (fun q => e ((nI_eq (by have := hI (i + 1); omega) (by have := hI i; omega)).mp q))
  · rintro v rec ⟨pv, rfl, hpv⟩
    rcases hpv with ⟨e, -⟩ | ⟨i, e, rfl⟩
    · omega
    · have : i = 10 := by omega
      subst this
      refine hfin rec 10 ?_
      rcases rIter_grow hro 12 hp 10 with q | q
      · exact q
      · have := crd_pow (show k < 10 by omega)
        have := crd_le (rIter (lkf (rep kd fr to (lbL len) dd sj qq (cset st ab) na).1.2.1 kd w) fr to 12 10 (2 ^ k))
        omega
end
