/-! exports -/
theorem I0_xp {S U : HS} {sp ns nr na ne nm : Nat} {lt len fr to sj dr ab st lby se : Nat → Nat} {trn : Nat → Bool} {txt : Nat → Nat → Nat} {kd dd : Nat → Int32} {qq : Nat → Nat → Int32} (h : I0 S sp ns nr na ne nm lt len fr to sj dr ab st lby se trn txt kd dd qq) {ne' nm' : Nat} {se' : Nat → Nat} (hG : nm' ≤ ne' ∧ ne' ≤ 10 ∧ ∀ e, e < ne' → ∀ k, (se' e).testBit k = true → k < na) (hE : EC U ne' nm' se' (fun e => TX (rep kd fr to (lbL len) dd sj qq (se' e) na).1 len trn txt)) (hM : EM U ne' nm' (fun e => (rep kd fr to (lbL len) dd sj qq (se' e) na).1)) (f : ∀ x, x < 24 ∨ 36 < x → x < 57 → U.1 x = S.1 x) (f36 : ∀ k, k ≠ 29 → k ≠ 30 → k ≠ 36 → U.1 36 k = S.1 36 k) (f1 : U.2.1 16 = S.2.1 16) (f2 : U.2.2 16 = S.2.2 16) (hN : BN U) : Inv U := by
  obtain ⟨⟨g1, g2⟩, ⟨c1, c2, c3, c4, c5⟩, ⟨m1, m2, m3, m4⟩⟩ := h
  refine I0_inv (ne := ne') (nm := nm') (se := se') ⟨⟨⟨g1.1, g1.2.1, hG⟩, g2⟩, ⟨SC_fr (fun x p => f x (by omega) (by omega)) c1, OC_fr (fun x p q => f x (by omega) (by omega)) c2, BC_fr (fun x p q => f x (by omega) (by omega)) f1 f2 c3, hN, hE⟩, ⟨SM_fr (f36 0 (by omega) (by omega) (by omega)) (f 37 (by omega) (by omega)) m1, OM_fr (fun x p q r => f x (by omega) (by omega)) (fun k p => f36 k (by omega) (by omega) (by omega)) m2, BM_fr (f 51 (by omega) (by omega)) (fun x p q => f x (by omega) (by omega)) (fun k p => f36 k (by omega) (by omega) (by omega)) m3, hM⟩⟩
theorem j_make {S : HS} (h : Inv S) : Ok (f_X7_make S) (fun o => Ok (f_X8_make o.1) (fun r => o.2 = r.2 ∧ Inv r.1)) := by
  obtain ⟨sp, ns, nr, na, ne, nm, lt, len, fr, to, sj, dr, ab, st, lby, se, trn, txt, kd, dd, qq, h⟩ := h
  have hI := I0_inv h
  have h0 := h
  obtain ⟨⟨g1, g2⟩, ⟨c1, c2, c3, c4, c5⟩, ⟨m1, m2, m3, m4⟩⟩ := h
  obtain ⟨gW, gA, gT, gK, gL, gB⟩ := g2
  have hna := gT.1
  have hns := gW.2.1
  have hnr := gW.1
  obtain ⟨s1, s2, s3, s4, s5⟩ := g1
  obtain ⟨x1, x2, x3, x4, x5⟩ := c5
  obtain ⟨y1, y2, y3⟩ := m4
  unfold f_X7_make
  rw [x1, x2]
  by_cases e : nm < ne
  · rw [if_pos (lt_nI e (by omega)), nI_1]
    refine ⟨_, rfl, ?_⟩
    dsimp only
    have e29 : (sI (sI S 30 1 (nI (nm + 1))) 36 36 0).1 36 29 = nI ne := by rw [th_k (by omega), sI_o (by omega)]; exact y1
    have e30 : (sI (sI S 30 1 (nI (nm + 1))) 36 36 0).1 36 30 = nI nm := by rw [th_k (by omega), sI_o (by omega)]; exact y2
    unfold f_X8_make
    rw [e29, e30, if_neg (fun q => absurd ((nI_eq (by omega) (by omega)).mp q) (by omega)), nI_1]
    refine ⟨_, rfl, ?_, ?_⟩
    · dsimp only
      rw [sI_at, sI_at]
    · refine I0_xp h0 (ne' := ne) (nm' := nm + 1) (se' := se) ⟨by omega, s4, s5⟩ ⟨?_, ?_, ?_, ?_, ?_⟩ ⟨?_, ?_, ?_⟩ (fun x p q => ?_) (fun k p q r => ?_) rfl rfl ?_
      · rw [sI_o (by omega), sI_o (by omega), sI_k (by omega)]; exact x1
      · rw [sI_o (by omega), sI_o (by omega), sI_at]
      · refine fun e he => ⟨(x3 e he).1, ?_, fun i hi => ?_⟩
        · rw [sI_o (by omega), sI_o (by omega), sI_o (by omega)]; exact (x3 e he).2.1
        · rw [sI_o (by omega), sI_o (by omega), sI_o (by omega)]; exact (x3 e he).2.2 i hi
      · rw [sI_o (by omega), sI_o (by omega), sI_o (by omega)]; exact x4
      · rw [sI_o (by omega), sI_o (by omega), sI_o (by omega)]; exact x5
      · rw [sI_k (by omega), th_k (by omega), sI_o (by omega)]; exact y1
      · rw [sI_at]
      · unfold MSn
        rw [sI_o (by omega), sI_o (by omega), sI_o (by omega), sI_o (by omega), sI_o (by omega), sI_o (by omega), sI_o (by omega), sI_o (by omega), sI_o (by omega)]
        exact y3
      · rw [sI_o (by omega), sI_o (by omega), sI_o (by omega)]
      · rw [sI_k (by omega), th_k (by omega), sI_o (by omega)]
      · exact BN_fr rfl c4
  · rw [if_neg (fun q => e ((nI_ltI (by omega) (by omega)).mp q))]
    refine ⟨_, rfl, ?_⟩
    dsimp only
    have e29 : (sI S 36 36 0).1 36 29 = nI ne := by rw [th_k (by omega)]; exact y1
    have e30 : (sI S 36 36 0).1 36 30 = nI nm := by rw [th_k (by omega)]; exact y2
    unfold f_X8_make
    rw [e29, e30, if_pos (by rw [show nm = ne by omega])]
    exact ⟨_, rfl, rfl, Inv_q hI (QF_th (by omega))⟩
theorem ch_ex {x : Int32} (h : ch x = true) : ∃ c, c < 65536 ∧ x = nI c := by
  unfold ch at h
  rw [Bool.and_eq_true, decide_eq_true_eq, decide_eq_true_eq] at h
  obtain ⟨h1, h2⟩ := h
  refine nI_ofp (n := 65536) (by decide) (Int32.not_lt.mpr h1) ?_
  rw [Int32.le_iff_toInt_le, show (65535 : Int32).toInt = 65535 from by decide] at h2
  rw [Int32.lt_iff_toInt_lt, toInt_nI (by omega)]
  omega
theorem i2c_ch {x : Int32} (h : ch x = true) : i2c x = x := by
  obtain ⟨c, hc, rfl⟩ := ch_ex h
  exact i2cN hc
theorem ch_m1 {x : Int32} (h : ch x = true) : x ≠ -1 := by
  rintro rfl
  exact absurd h (by decide)
theorem vn_ch {x : Int32} (h : ch x = true) : vp_nar .char x = x := by
  obtain ⟨c, hc, rfl⟩ := ch_ex h
  exact vnc hc
theorem TX_len {kd : Nat → Int32} {fr to : Nat → Nat} {ns nr : Nat} {A : AB} {len : Nat → Nat} {trn : Nat → Bool} {txt : Nat → Nat → Nat} (hA : AI kd fr to (lbL len) ns nr A) (hns : ns ≤ 10) (hl : ∀ k, len k ≤ 5) : (TX A len trn txt).length ≤ 328 := by
  have hal := alS_len (trn := trn) (txt := txt) hA hns (fun k _ => hl k)
  have hru12 := ruS_len A.2.1 12 (by omega)
  rw [if_pos (by omega)] at hru12
  have hal10 := hal 10 (by omega)
  unfold TX
  rw [List.length_append]
  omega
theorem WD_q {S S' : HS} {p : Int32} {L : List Nat} (h : WD S p S' L) : QF S S' := by
  obtain ⟨g, rfl, -⟩ := h
  exact (QF_th (by omega)).tr (QF_th (by omega))
theorem WD_2 {S S' : HS} {p : Int32} {L : List Nat} (h : WD S p S' L) : S'.2 = S.2 := by
  obtain ⟨g, rfl, -⟩ := h
  rfl
theorem J_exE {S1 : HS} {l : List (Nat × Int32)} {x : Option XO} {y : HS → Option (HS × Int32)} {v : Int32} {c : Nat} {k : Int32} (hx : x = some (S1, (c, v))) (hc : c ≠ 0) (hk : k ≠ 0) (hl : ∀ v, wch l (S1, (c, v)) = some (S1, k)) (hy : Ok (y S1) (fun r => r.1.1 36 36 = k ∧ QF S1 r.1)) (hI : Inv S1) : J (wrp l x) y := by
  obtain ⟨r, h1, h2, h3⟩ := hy
  refine ⟨(S1, k), ?_, r, h1, h2, fun q => absurd q hk, Inv_q hI h3⟩
  unfold wrp
  rw [hx, bsm, if_neg hc]
  exact hl v
section
variable {S : HS} {sp ns nr na ne nm : Nat} {lt len fr to sj dr ab st lby se : Nat → Nat} {trn : Nat → Bool} {txt : Nat → Nat → Nat} {kd dd : Nat → Int32} {qq : Nat → Nat → Int32}
/-- the model goes through an export -/
theorem goes_I0 (h : I0 S sp ns nr na ne nm lt len fr to sj dr ab st lby se trn txt kd dd qq) {T : HS} (hm1 : HM1 T ns len trn txt) (hm2 : ∀ e, e < ne → MSn T e (rep kd fr to (lbL len) dd sj qq (se e) na).1) {e : Nat} (he : e < ne) (p : Int32) : Ok (f_X8_goesThrough (nI e) p T) (fun r => WD T p r.1 (TX (rep kd fr to (lbL len) dd sj qq (se e) na).1 len trn txt) ∧ r.2 = nI (TX (rep kd fr to (lbL len) dd sj qq (se e) na).1 len trn txt).length) := by
  obtain ⟨⟨g1, g2⟩, ⟨c1, c2, c3, c4, c5⟩, ⟨m1, m2, m3, m4⟩⟩ := h
  obtain ⟨gW, gA, gT, -⟩ := g2
  obtain ⟨hAI, -, -, -⟩ := rep_ok (set := se e) gW gA na (Nat.le_refl _)
  have h10 := g1.2.2.2.1
  exact goes8 (show e < 10 by omega) hm1 gW.2.1 gW.1 hAI (hm2 e he) (TX_len hAI gW.2.1 (fun k => (c2.2.2.1.1 k).1))
theorem msn_th {T : HS} {e : Nat} {A : AB} {v : Int32} (h : MSn T e A) : MSn (sI T 36 36 v) e A := by
  unfold MSn at h ⊢
  rw [sI_o (by omega), sI_o (by omega), sI_o (by omega)]
  exact h
theorem hm1_th {T : HS} {v : Int32} (h : HM1 T ns len trn txt) : HM1 (sI T 36 36 v) ns len trn txt := HM1_fr (fun x p q => sI_o (by omega)) h
/-- the model's char of an export -/
theorem charOf8 (h : I0 S sp ns nr na ne nm lt len fr to sj dr ab st lby se trn txt kd dd qq) {e : Nat} (he : e < nm) (p : Int32) (hch : ∀ j, j < (TX (rep kd fr to (lbL len) dd sj qq (se e) na).1 len trn txt).length → ch (nI ((TX (rep kd fr to (lbL len) dd sj qq (se e) na).1 len trn txt).getD j 0)) = true) : (∃ j, j < (TX (rep kd fr to (lbL len) dd sj qq (se e) na).1 len trn txt).length ∧ p = nI j ∧ Ok (f_X8_charOf (nI e) p S) (fun r => r.1.1 36 36 = 0 ∧ r.1.2 = S.2 ∧ r.2 = nI ((TX (rep kd fr to (lbL len) dd sj qq (se e) na).1 len trn txt).getD j 0) ∧ QF S r.1)) ∨ ((p < 0 ∨ ¬ p < nI (TX (rep kd fr to (lbL len) dd sj qq (se e) na).1 len trn txt).length) ∧ Ok (f_X8_charOf (nI e) p S) (fun r => r.1.1 36 36 = 2 ∧ ch r.2 = true ∧ QF S r.1)) := by
  have h' := h
  obtain ⟨⟨g1, g2⟩, ⟨c1, c2, c3, c4, c5⟩, ⟨m1, m2, m3, m4⟩⟩ := h
  obtain ⟨s1, s2, s3, s4, s5⟩ := g1
  obtain ⟨y1, y2, y3⟩ := m4
  have hlen : (TX (rep kd fr to (lbL len) dd sj qq (se e) na).1 len trn txt).length ≤ 328 := TX_len (rep_ok (set := se e) g2.1 g2.2.1 na (Nat.le_refl _)).1 g2.1.2.1 (fun k => (c2.2.2.1.1 k).1)
  have hgo := goes_I0 h' m2.1 y3 (show e < ne by omega) p
  generalize (TX (rep kd fr to (lbL len) dd sj qq (se e) na).1 len trn txt) = L at hgo hch hlen ⊢
  have hbad : ∀ U, QF S U → (U.1 36 29 = nI ne) → Ok (f_X8_charOf_b67 (nI e) p U 2) (fun r => r.1.1 36 36 = 2 ∧ ch r.2 = true ∧ QF S r.1) := by
    intro U hU _
    unfold f_X8_charOf_b67 f_X8_charOf_b83
    rw [can8, bsm]
    exact ⟨(sI U 36 36 2, 97), rfl, th_at, rfl, hU.tr (QF_th (by omega))⟩
  have hnm : ¬ nI nm ≤ nI e := fun q => absurd ((nI_leI (by omega) (by omega)).mp q) (by omega)
  have hgo2 : ¬ p < 0 → (∀ j, j < L.length → p = nI j → Ok (f_X8_charOf (nI e) p S) (fun r => r.1.1 36 36 = 0 ∧ r.1.2 = S.2 ∧ r.2 = nI (L.getD j 0) ∧ QF S r.1)) ∧ ((∀ j, j < L.length → p ≠ nI j) → Ok (f_X8_charOf (nI e) p S) (fun r => r.1.1 36 36 = 2 ∧ ch r.2 = true ∧ QF S r.1)) := by
    intro hp
    obtain ⟨r, hr, hW, -⟩ := hgo
    have hq := WD_q hW
    have hq2 := WD_2 hW
    obtain ⟨g, hg, w1, w2⟩ := hW
    have e29 : r.1.1 36 29 = nI ne := by rw [hq.2.1 29 (by omega) (by omega) (by omega)]; exact y1
    have e35 : r.1.1 36 35 = g := by
      rw [hg]
      show (sI (sI S 36 35 g) 36 34 _).1 36 35 = g
      rw [sI_k (by omega), sI_at]
    constructor
    · intro j hj hpj
      have hgv := w1 j hj hpj
      have hcj := hch j hj
      unfold f_X8_charOf f_X8_charOf_b25 f_X8_charOf_b37 f_X8_charOf_b67 f_X8_charOf_b83
      simp only [isEx8 y1, isN_yes (show e < ne by omega) (show ne < 2 ^ 31 by omega), bsm, ob, y2, if_neg hnm, if_neg hp, hr, isEx8 e29, e35, hgv, if_neg (ch_m1 hcj), can8, d00, decide_true, if_neg (show ¬ (1 : Int32) = 0 from by decide)]
      have e35' : (sI r.1 36 36 0).1 36 35 = nI (L.getD j 0) := by rw [th_k (by omega), e35, hgv]
      rw [e35', i2c_ch hcj, if_pos hcj]
      exact ⟨_, rfl, th_at, hq2, rfl, hq.tr (QF_th (by omega))⟩
    · intro hno
      have hgv := w2 hno
      unfold f_X8_charOf f_X8_charOf_b25 f_X8_charOf_b37 f_X8_charOf_b66
      simp only [isEx8 y1, isN_yes (show e < ne by omega) (show ne < 2 ^ 31 by omega), bsm, ob, y2, if_neg hnm, if_neg hp, hr, isEx8 e29, e35, hgv, if_true, if_neg (show ¬ (1 : Int32) = 0 from by decide)]
      exact hbad _ hq e29
  rcases in_or p L.length (by omega) with ⟨j, hj, rfl⟩ | hn
  · exact Or.inl ⟨j, hj, rfl, (hgo2 (nI_pos (by omega))).1 j hj rfl⟩
  · refine Or.inr ⟨hn, ?_⟩
    by_cases hp : p < 0
    · unfold f_X8_charOf f_X8_charOf_b24 f_X8_charOf_b25 f_X8_charOf_b37 f_X8_charOf_b66
      simp only [isEx8 y1, isN_yes (show e < ne by omega) (show ne < 2 ^ 31 by omega), bsm, ob, y2, if_neg hnm, if_pos hp, if_true]
      exact hbad _ (QF.rf S) y1
    · refine (hgo2 hp).2 (fun j hj q => ?_)
      rw [q] at hn
      rcases hn with h | h
      · exact nI_pos (by omega) h
      · exact h (lt_nI hj (by omega))
theorem charOf8w (h : I0 S sp ns nr na ne nm lt len fr to sj dr ab st lby se trn txt kd dd qq) {e : Nat} (h1 : nm ≤ e) (h2 : e < ne) (p : Int32) : f_X8_charOf (nI e) p S = some (sI S 36 36 2, 97) := by
  obtain ⟨⟨g1, g2⟩, ⟨c1, c2, c3, c4, c5⟩, ⟨m1, m2, m3, m4⟩⟩ := h
  obtain ⟨s1, s2, s3, s4, s5⟩ := g1
  obtain ⟨y1, y2, y3⟩ := m4
  unfold f_X8_charOf f_X8_charOf_b24 f_X8_charOf_b25 f_X8_charOf_b37 f_X8_charOf_b66 f_X8_charOf_b67 f_X8_charOf_b83
  simp only [isEx8 y1, isN_yes h2 (show ne < 2 ^ 31 by omega), bsm, ob, y2, if_pos ((nI_leI (show nm < 2 ^ 31 by omega) (show e < 2 ^ 31 by omega)).mpr h1), if_true, can8, d20, zb]
  rfl
theorem charOf8n (h : I0 S sp ns nr na ne nm lt len fr to sj dr ab st lby se trn txt kd dd qq) {q : Int32} (hn : q < 0 ∨ ¬ q < nI ne) (p : Int32) : f_X8_charOf q p S = some (sI S 36 36 1, 97) := by
  obtain ⟨⟨g1, g2⟩, ⟨c1, c2, c3, c4, c5⟩, ⟨m1, m2, m3, m4⟩⟩ := h
  obtain ⟨s1, s2, s3, s4, s5⟩ := g1
  obtain ⟨y1, y2, y3⟩ := m4
  unfold f_X8_charOf f_X8_charOf_b24 f_X8_charOf_b25 f_X8_charOf_b37 f_X8_charOf_b66 f_X8_charOf_b67 f_X8_charOf_b83
  simp only [isEx8 y1, isN_no hn (show ne < 2 ^ 31 by omega), bsm, zb, if_true, can8, d10]
  rfl
end
theorem j_length {S : HS} (h : Inv S) (p : Int32) : J (f_L_length p S) (f_X8_length p) := by
  obtain ⟨sp, ns, nr, na, ne, nm, lt, len, fr, to, sj, dr, ab, st, lby, se, trn, txt, kd, dd, qq, h⟩ := h
  have hI := I0_inv h
  have h0 := h
  obtain ⟨⟨g1, g2⟩, ⟨c1, c2, c3, c4, c5⟩, ⟨m1, m2, m3, m4⟩⟩ := h
  obtain ⟨gW, gA, gT, gK, gL, gB⟩ := g2
  have hna := gT.1
  have hns := gW.2.1
  have hnr := gW.1
  rw [wr_length]
  obtain ⟨s1, s2, s3, s4, s5⟩ := g1
  obtain ⟨x1, x2, x3, x4, x5⟩ := c5
  obtain ⟨y1, y2, y3⟩ := m4
  rcases rMa x1 x2 (by omega) s3 p with ⟨e, he, rfl, hr⟩ | ⟨e, he1, he, rfl, hr⟩ | ⟨hn, hr⟩
  · refine J_v (v := nI (TX (rep kd fr to (lbL len) dd sj qq (se e) na).1 len trn txt).length) ?_ hI (fun T hQ hT => ?_)
    · unfold f_X7_length f_X2_charsOf
      simp only [hr, bsm, if_true, read7 S 32 (show e < alen 32 by show e < 10; omega) (by decide), (x3 e (by omega)).2.1]
    · have t29 : T.1 36 29 = nI ne := by rw [hT]; exact y1
      have t30 : T.1 36 30 = nI nm := by rw [hT]; exact y2
      have hm1 : HM1 (sI T 36 36 0) ns len trn txt := hm1_th (HM1_fr (fun x _ _ => by rw [hT]) m2.1)
      have hm2 : ∀ e, e < ne → MSn (sI T 36 36 0) e (rep kd fr to (lbL len) dd sj qq (se e) na).1 := fun e he => msn_th (by unfold MSn; rw [hT]; exact y3 e he)
      unfold f_X8_length f_X8_length_b26 f_X8_length_b42
      simp only [isEx8 t29, isN_yes (show e < ne by omega) (show ne < 2 ^ 31 by omega), bsm, ob, t30, if_neg (show ¬ nI nm ≤ nI e from fun q => absurd ((nI_leI (by omega) (by omega)).mp q) (by omega)), can8, d00, decide_true]
      refine Ok.bind (goes_I0 h0 hm1 hm2 (show e < ne by omega) 0) ?_
      rintro r ⟨hW, hr2⟩
      refine ⟨_, rfl, ?_, (WD_2 hW).trans rfl, hr2, (QF_th (by omega)).tr (WD_q hW)⟩
      obtain ⟨g, hg, -⟩ := hW
      rw [hg]
      show (sI (sI (sI T 36 36 0) 36 35 g) 36 34 _).1 36 36 = 0
      rw [sI_k (by omega), sI_k (by omega), th_at]
  · refine J_ex (S1 := S) (v := 0) (c := 4) (k := 2) (w := 0) ?_ (by decide) (by decide) (fun v => rfl) ?_ hI
    · unfold f_X7_length
      rw [hr]
      rfl
    · unfold f_X8_length f_X8_length_b26 f_X8_length_b42
      simp only [isEx8 y1, isN_yes he (show ne < 2 ^ 31 by omega), bsm, ob, y2, if_pos ((nI_leI (show nm < 2 ^ 31 by omega) (show e < 2 ^ 31 by omega)).mpr he1), can8, d20, zb]
  · refine J_ex (S1 := S) (v := 0) (c := 1) (k := 1) (w := 0) ?_ (by decide) (by decide) (fun v => rfl) ?_ hI
    · unfold f_X7_length
      rw [hr]
      rfl
    · unfold f_X8_length f_X8_length_b26 f_X8_length_b42
      simp only [isEx8 y1, isN_no hn (show ne < 2 ^ 31 by omega), bsm, zb, can8, d10]
theorem charAt8 {T : HS} {p1 p2 : Int32} {P : HS × Int32 → Prop} (h : Ok (f_X8_charOf p1 p2 T) (fun r => ch r.2 = true ∧ P r)) : Ok (f_X8_charAt p1 p2 T) P ∧ Ok (f_X8_charAnew p1 p2 T) P := by
  obtain ⟨r, hr, h1, h2⟩ := h
  unfold f_X8_charAt f_X8_charAnew
  rw [hr, bsm, if_pos h1]
  exact ⟨⟨_, rfl, h2⟩, ⟨_, rfl, h2⟩⟩
theorem sign2 {S : HS} {e i : Nat} (he : e < 10) (hi : i < 328) (hc : ch (S.1 33 (328 * e + i)) = true) : f_X2_signOf (nI e) (nI i) S = some (S.1 33 (328 * e + i)) := by
  have i1 : nI e * (328 : Int32) + nI i = nI (328 * e + i) := by
    rw [show (328 : Int32) = nI 328 from rfl, pk_mul, nI_add, Nat.mul_comm]
  unfold f_X2_signOf f_X2_signOf_b31
  rw [i1, if_neg (nI_pos (by omega)), if_neg (by rw [show (3280 : Int32) = nI 3280 from rfl, nI_leI (by omega) (by omega)]; omega), if_pos (ib_nI (show 328 * e + i < 3280 by omega) (by omega)), nI_cl (by omega), if_pos hc]
theorem j_charAt {S : HS} (h : Inv S) (p1 p2 : Int32) : J (f_L_charAt p1 p2 S) (f_X8_charAt p1 p2) := by
  obtain ⟨sp, ns, nr, na, ne, nm, lt, len, fr, to, sj, dr, ab, st, lby, se, trn, txt, kd, dd, qq, h⟩ := h
  have hI := I0_inv h
  have h0 := h
  obtain ⟨⟨g1, g2⟩, ⟨c1, c2, c3, c4, c5⟩, ⟨m1, m2, m3, m4⟩⟩ := h
  obtain ⟨gW, gA, gT, gK, gL, gB⟩ := g2
  have hna := gT.1
  have hns := gW.2.1
  have hnr := gW.1
  rw [wr_charAt]
  obtain ⟨s1, s2, s3, s4, s5⟩ := g1
  obtain ⟨x1, x2, x3, x4, x5⟩ := c5
  rcases rMa x1 x2 (by omega) s3 p1 with ⟨e, he, rfl, hr⟩ | ⟨e, he1, he, rfl, hr⟩ | ⟨hn, hr⟩
  · have hlen : (TX (rep kd fr to (lbL len) dd sj qq (se e) na).1 len trn txt).length ≤ 328 := TX_len (rep_ok (set := se e) gW gA na (Nat.le_refl _)).1 hns (fun k => (c2.2.2.1.1 k).1)
    obtain ⟨-, z2, z3⟩ := x3 e (by omega)
    have hch : ∀ j, j < (TX (rep kd fr to (lbL len) dd sj qq (se e) na).1 len trn txt).length → ch (nI ((TX (rep kd fr to (lbL len) dd sj qq (se e) na).1 len trn txt).getD j 0)) = true := fun j hj => by
      rw [← z3 j hj]; exact x4 _
    have hco := fun (T : HS) (hQ : QF S T) => charOf8 (I0_q h0 hQ) he p2 hch
    rcases hco S (QF.rf S) with ⟨j, hj, rfl, -⟩ | ⟨hn, hy⟩
    · refine J_v (v := nI ((TX (rep kd fr to (lbL len) dd sj qq (se e) na).1 len trn txt).getD j 0)) ?_ hI (fun T hQ hT => ?_)
      · unfold f_X7_charAt f_X2_charsOf
        simp only [hr, bsm, if_true, if_neg (nI_pos (show j < 2 ^ 31 by omega)), read7 S 32 (show e < alen 32 by show e < 10; omega) (by decide), z2, if_pos (lt_nI hj (show _ < 2 ^ 31 by omega)), sign2 (show e < 10 by omega) (show j < 328 by omega) (x4 _), x4]
        rw [z3 j hj]
      · rcases hco T hQ with ⟨j2, hj2, e2, hy⟩ | ⟨hn2, -⟩
        · have := (nI_eq (show j < 2 ^ 31 by omega) (show j2 < 2 ^ 31 by omega)).mp e2
          subst j2
          exact (charAt8 (Ok.mono hy (fun r hr => ⟨by rw [hr.2.2.1]; exact hch j hj, hr⟩))).1
        · rcases hn2 with h | h
          · exact absurd h (nI_pos (by omega))
          · exact absurd (lt_nI hj (by omega)) h
    · refine J_exE (S1 := S) (v := 0) (c := 4) (k := 2) ?_ (by decide) (by decide) (fun v => rfl) (charAt8 (Ok.mono hy (fun r hr => ⟨hr.2.1, hr.1, hr.2.2⟩))).1 hI
      unfold f_X7_charAt f_X2_charsOf f_X7_charAt_b21
      by_cases hp : p2 < 0
      · simp only [hr, bsm, if_true, if_pos hp]
      · simp only [hr, bsm, if_true, if_neg hp, read7 S 32 (show e < alen 32 by show e < 10; omega) (by decide), z2, if_neg (hn.resolve_left hp)]
  · refine J_exE (S1 := S) (v := 0) (c := 4) (k := 2) ?_ (by decide) (by decide) (fun v => rfl) (charAt8 ⟨_, charOf8w h0 he1 he p2, rfl, th_at, QF_th (by omega)⟩).1 hI
    unfold f_X7_charAt
    rw [hr]
    rfl
  · refine J_exE (S1 := S) (v := 0) (c := 1) (k := 1) ?_ (by decide) (by decide) (fun v => rfl) (charAt8 ⟨_, charOf8n h0 hn p2, rfl, th_at, QF_th (by omega)⟩).1 hI
    unfold f_X7_charAt
    rw [hr]
    rfl
