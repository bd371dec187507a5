/-! what is found by doing all acts anew; an export is asked for -/
theorem lb_le {m : Nat} (h : m < 2 ^ 31) : nI m ≤ 0 ↔ m = 0 := by
  rw [show (0 : Int32) = nI 0 from rfl, nI_leI h (by omega)]
  omega
theorem HS1_lb {S : HS} {ns : Nat} {len : Nat → Nat} {trn : Nat → Bool} {txt : Nat → Nat → Nat} (h : HS1 S ns len trn txt) : ∀ k, k < ns → (S.1 3 k ≤ 0 ↔ lbL len k = false) := by
  intro k hk
  obtain ⟨h1, h2⟩ := h.1 k
  rw [h2 hk, lb_le (by omega)]
  unfold lbL
  rw [decide_eq_false_iff_not]
  omega
theorem QF_redo {S S' : HS} (hF : FRc 17 24 S S') (hB : ∃ c c', RB S' 17 24 c c') : QF S S' := by
  obtain ⟨f1, f2⟩ := hF
  exact ⟨fun x p _ _ _ => f1 x (by omega), fun k _ _ _ => by rw [f1 36 (by omega)], fun x p => (f2 x p).1, fun x p _ => (f2 x p).2, fun _ => hB, fun h => by rw [f1 35 (by omega)]; exact h⟩
section
variable {S : HS} {sp ns nr na ne nm : Nat} {lt len fr to sj dr ab st lby se : Nat → Nat} {trn : Nat → Bool} {txt : Nat → Nat → Nat} {kd dd : Nat → Int32} {qq : Nat → Nat → Int32}
theorem I0_CE (h : I0 S sp ns nr na ne nm lt len fr to sj dr ab st lby se trn txt kd dd qq) : CE S na nr ns kd fr to (lbL len) dd sj qq := ⟨h.2.1.2.1.2.2.2.1, HS1_lb h.2.1.2.1.2.2.1, h.2.1.2.1.2.2.2.2.1⟩
/-- the second board does a set of acts anew -/
theorem redo_I0 (h : I0 S sp ns nr na ne nm lt len fr to sj dr ab st lby se trn txt kd dd qq) {set : Nat} (hset : ∀ k, set.testBit k = true → k < na) : Ok (f_X3_redo 17 (lN set) S) (fun S' => I0 S' sp ns nr na ne nm lt len fr to sj dr ab st lby se trn txt kd dd qq ∧ ∃ b b', RB S' 17 24 b b' ∧ CB S' b kd (rep kd fr to (lbL len) dd sj qq set na).1) := by
  have h0 := h
  obtain ⟨⟨g1, g2⟩, ⟨c1, c2, c3, c4, c5⟩, ⟨m1, m2, m3, m4⟩⟩ := h
  obtain ⟨gW, gA, gT, -⟩ := g2
  obtain ⟨b, b', hB⟩ := c4
  refine Ok.mono (redo7 (Or.inr ⟨rfl, rfl⟩) hB (I0_CE h0) gW gA gT.1 hset) ?_
  rintro S' ⟨hF, ⟨b, b', h1, h2⟩, -⟩
  exact ⟨I0_q h0 (QF_redo hF ⟨b, b', h1⟩), b, b', h1, h2⟩
end
theorem j_numberAnew {S : HS} (h : Inv S) (p1 p2 : Int32) : J (f_L_numberAnew p1 p2 S) (f_X8_numberAnew p1 p2) := by
  obtain ⟨sp, ns, nr, na, ne, nm, lt, len, fr, to, sj, dr, ab, st, lby, se, trn, txt, kd, dd, qq, h⟩ := h
  have hI := I0_inv h
  have h0 := h
  obtain ⟨⟨g1, g2⟩, ⟨c1, c2, c3, c4, c5⟩, ⟨m1, m2, m3, m4⟩⟩ := h
  obtain ⟨gW, gA, gT, gK, gL, gB⟩ := g2
  have hna := gT.1
  have hns := gW.2.1
  have hnr := gW.1
  rw [wr_numberAnew]
  obtain ⟨hAI, -, -, -⟩ := rep_ok (set := cset st ab) gW gA na (Nat.le_refl _)
  have hth := AI_th gW hAI
  have hm := fun (T : HS) (hT : I0 T sp ns nr na ne nm lt len fr to sj dr ab st lby se trn txt kd dd qq) => numOf8 (T := T) (A := (rep kd fr to (lbL len) dd sj qq (cset st ab) na).1) (ns := ns) hT.2.2.2.1.2.1.2.1 hns hT.2.2.2.2.1.1.1 hth hT.2.2.2.2.1.1.2.2.1 hAI.1 p1 p2
  have h8 : ∀ {T : HS} {r : HS × Int32}, f_X8_numberOf p1 p2 T = some r → f_X8_numberAnew p1 p2 T = some r := fun {T r} q => by
    unfold f_X8_numberAnew
    rw [q]
    rfl
  obtain ⟨S1, hS1, hI1, b, b', hRB, hCB⟩ := redo_I0 h0 (set := cset st ab) (fun k hk => cset_lt gT hk)
  have hob : oc b = some 0 := HL_oc (Or.inr ⟨rfl, rfl⟩) (RB_lo hRB)
  rcases hm S h0 with ⟨k, w, hk, hw, rfl, rfl, ht, -⟩ | ⟨k, w, hk, hw, rfl, rfl, ht, -⟩ | ⟨k, hk, rfl, hw, q⟩ | ⟨hn, q⟩
  · refine J_v (S := S1) (v := (rep kd fr to (lbL len) dd sj qq (cset st ab) na).1.2.2.1 k w) ?_ (I0_inv hI1) (fun T hQ hT => ?_)
    · unfold f_X7_numberAnew
      simp only [rSh_y c2.1 hk (by omega), bsm, if_true, rWh_y hw, counting7 c2.2.2.2.2.2 gT, hS1, hRB.1, rf_some hob, rOn hCB.1 (show (rep kd fr to (lbL len) dd sj qq (cset st ab) na).1.1 < 2 ^ 31 by omega) (show k < 62 by omega), ht, numB7 hob hCB (show k < 10 by omega) hw ht]
    · rcases hm T (I0_q hI1 hQ) with ⟨k2, w2, hk2, hw2, e1, e2, ht2, q⟩ | ⟨k2, w2, hk2, hw2, e1, e2, ht2, -⟩ | ⟨k2, hk2, e1, hw2, -⟩ | ⟨hn2, -⟩
      · rw [h8 q]
        have := (nI_eq (show k < 2 ^ 31 by omega) (show k2 < 2 ^ 31 by omega)).mp e1
        have := (nI_eq (show w < 2 ^ 31 by omega) (show w2 < 2 ^ 31 by omega)).mp e2
        subst k2 w2
        exact ⟨_, rfl, th_at, rfl, rfl, QF_th (by omega)⟩
      · have := (nI_eq (show k < 2 ^ 31 by omega) (show k2 < 2 ^ 31 by omega)).mp e1
        subst k2
        rw [ht] at ht2
        exact absurd ht2 (by decide)
      · rcases hw2 with q | q
        · exact absurd q (nI_pos (by omega))
        · exact absurd (show nI w < (4 : Int32) from lt_nI (n := 4) hw (by decide)) q
      · rcases hn2 with q | q
        · exact absurd q (nI_pos (by omega))
        · exact absurd (lt_nI hk (by omega)) q
  · rcases hm S1 hI1 with ⟨k2, w2, hk2, hw2, e1, e2, ht2, -⟩ | ⟨k2, w2, hk2, hw2, e1, e2, ht2, q⟩ | ⟨k2, hk2, e1, hw2, -⟩ | ⟨hn2, -⟩
    · have := (nI_eq (show k < 2 ^ 31 by omega) (show k2 < 2 ^ 31 by omega)).mp e1
      subst k2
      rw [ht] at ht2
      exact absurd ht2 (by decide)
    · refine J_ex (S1 := S1) (v := 0) (c := 4) (k := 3) (w := 0) ?_ (by decide) (by decide) (fun v => rfl) (h8 q) (I0_inv hI1)
      unfold f_X7_numberAnew
      simp only [rSh_y c2.1 hk (by omega), bsm, if_true, rWh_y hw, counting7 c2.2.2.2.2.2 gT, hS1, hRB.1, rf_some hob, rOn hCB.1 (show (rep kd fr to (lbL len) dd sj qq (cset st ab) na).1.1 < 2 ^ 31 by omega) (show k < 62 by omega), ht]
      rfl
    · rcases hw2 with q | q
      · exact absurd q (nI_pos (by omega))
      · exact absurd (show nI w < (4 : Int32) from lt_nI (n := 4) hw (by decide)) q
    · rcases hn2 with q | q
      · exact absurd q (nI_pos (by omega))
      · exact absurd (lt_nI hk (by omega)) q
  · refine J_ex (S1 := S) (v := 0) (c := 2) (k := 2) (w := 0) ?_ (by decide) (by decide) (fun v => rfl) (h8 q) hI
    unfold f_X7_numberAnew
    simp only [rSh_y c2.1 hk (by omega), bsm, if_true, rWh_n hw]
    rfl
  · refine J_ex (S1 := S) (v := 0) (c := 1) (k := 1) (w := 0) ?_ (by decide) (by decide) (fun v => rfl) (h8 q) hI
    unfold f_X7_numberAnew
    rw [rSh_n c2.1 hn]
    rfl
theorem QF_wT {S : HS} {f : Nat → Int32} {n : Int32} (hc : (∀ i, ch (S.1 35 i) = true) → ∀ i, ch (f i) = true) : QF S (wT S f n) := by
  refine ⟨fun x _ h1 h2 _ => wT_o h1 h2, fun k _ _ _ => by rw [wT_o (by omega) (by omega)], fun _ _ => rfl, fun _ _ _ => rfl, fun h => BN_fr rfl h, fun h => ?_⟩
  have : (wT S f n).1 35 = f := by
    unfold wT
    rw [sI_o (by omega)]
    simp [sA]
  rw [this]
  exact hc h
theorem wT_f {S : HS} {f : Nat → Int32} {n : Int32} : (wT S f n).1 35 = f := by
  unfold wT
  rw [sI_o (by omega)]
  simp [sA]
theorem wT_n {S : HS} {f : Nat → Int32} {n : Int32} : (wT S f n).1 34 1 = n := by
  unfold wT
  exact sI_at
theorem sign1 {S : HS} {i : Nat} (hi : i < 328) (hc : ch (S.1 35 i) = true) : f_X1_signOf (nI i) S = some (S.1 35 i) := by
  unfold f_X1_signOf f_X1_signOf_b23
  rw [if_neg (nI_pos (by omega)), if_neg (by rw [show (328 : Int32) = nI 328 from rfl, nI_leI (by omega) (by omega)]; omega), if_pos (ib_nI hi (by omega)), nI_cl (by omega), if_pos hc]
theorem acts2 {S : HS} {e : Nat} (he : e < 10) : f_X2_actsOf (nI e) S = some (S.2.1 31 e) := by
  unfold f_X2_actsOf f_X2_actsOf_b23
  rw [if_neg (nI_pos (by omega)), if_neg (le10n he), if_pos (ib_nI he (by omega)), nI_cl (by omega)]
theorem j_charAnew {S : HS} (h : Inv S) (p1 p2 : Int32) : J (f_L_charAnew p1 p2 S) (f_X8_charAnew p1 p2) := by
  obtain ⟨sp, ns, nr, na, ne, nm, lt, len, fr, to, sj, dr, ab, st, lby, se, trn, txt, kd, dd, qq, h⟩ := h
  have hI := I0_inv h
  have h0 := h
  obtain ⟨⟨g1, g2⟩, ⟨c1, c2, c3, c4, c5⟩, ⟨m1, m2, m3, m4⟩⟩ := h
  obtain ⟨gW, gA, gT, gK, gL, gB⟩ := g2
  have hna := gT.1
  have hns := gW.2.1
  have hnr := gW.1
  rw [wr_charAnew]
  obtain ⟨s1, s2, s3, s4, s5⟩ := g1
  obtain ⟨x1, x2, x3, x4, x5⟩ := c5
  rcases rMa x1 x2 (by omega) s3 p1 with ⟨e, he, rfl, hr⟩ | ⟨e, he1, he, rfl, hr⟩ | ⟨hn, hr⟩
  · obtain ⟨hAI, -, -, -⟩ := rep_ok (set := se e) gW gA na (Nat.le_refl _)
    have hlen : (TX (rep kd fr to (lbL len) dd sj qq (se e) na).1 len trn txt).length ≤ 328 := TX_len hAI hns (fun k => (c2.2.2.1.1 k).1)
    obtain ⟨z1, z2, z3⟩ := x3 e (by omega)
    have hch : ∀ j, j < (TX (rep kd fr to (lbL len) dd sj qq (se e) na).1 len trn txt).length → ch (nI ((TX (rep kd fr to (lbL len) dd sj qq (se e) na).1 len trn txt).getD j 0)) = true := fun j hj => by
      rw [← z3 j hj]; exact x4 _
    obtain ⟨S1, hS1, hI1, b, b', hRB, hCB⟩ := redo_I0 h0 (set := se e) (fun k hk => s5 e (by omega) k hk)
    have hob : oc b = some 0 := HL_oc (Or.inr ⟨rfl, rfl⟩) (RB_lo hRB)
    obtain ⟨⟨S2, hS2, f, hf, hf1, hf2⟩, -⟩ := show7 hob hI1.2.1.2.1.2.2.1 hns hnr hAI hCB
    have hI2 : I0 S2 sp ns nr na ne nm lt len fr to sj dr ab st lby se trn txt kd dd qq := by
      rw [hf]
      exact I0_q hI1 (QF_wT hf2)
    have hS2f : S2.1 35 = f := by rw [hf]; exact wT_f
    have hS2n : S2.1 34 1 = nI (TX (rep kd fr to (lbL len) dd sj qq (se e) na).1 len trn txt).length := by rw [hf]; exact wT_n
    have hco := fun (T : HS) (hQ : QF S2 T) => charOf8 (I0_q hI2 hQ) he p2 hch
    rcases hco S2 (QF.rf S2) with ⟨j, hj, rfl, -⟩ | ⟨hn, hy⟩
    · have hsg : f_X1_signOf (nI j) S2 = some (nI ((TX (rep kd fr to (lbL len) dd sj qq (se e) na).1 len trn txt).getD j 0)) := by
        rw [sign1 (show j < 328 by omega) (by rw [hS2f, hf1 j hj]; exact hch j hj), hS2f, hf1 j hj]
      refine J_v (S := S2) (v := nI ((TX (rep kd fr to (lbL len) dd sj qq (se e) na).1 len trn txt).getD j 0)) ?_ (I0_inv hI2) (fun T hQ hT => ?_)
      · unfold f_X7_charAnew
        simp only [hr, bsm, if_true, acts2 (show e < 10 by omega), z1, hS1, hRB.1, rf_some hob, hS2, if_neg (nI_pos (show j < 2 ^ 31 by omega)), hS2n, if_pos (lt_nI hj (show _ < 2 ^ 31 by omega)), hsg, hch j hj]
      · rcases hco T hQ with ⟨j2, hj2, e2, hy⟩ | ⟨hn2, -⟩
        · have := (nI_eq (show j < 2 ^ 31 by omega) (show j2 < 2 ^ 31 by omega)).mp e2
          subst j2
          exact (charAt8 (Ok.mono hy (fun r hr => ⟨by rw [hr.2.2.1]; exact hch j hj, hr⟩))).2
        · rcases hn2 with h | h
          · exact absurd h (nI_pos (by omega))
          · exact absurd (lt_nI hj (by omega)) h
    · refine J_exE (S1 := S2) (v := 0) (c := 4) (k := 2) ?_ (by decide) (by decide) (fun v => rfl) (charAt8 (Ok.mono hy (fun r hr => ⟨hr.2.1, hr.1, hr.2.2⟩))).2 (I0_inv hI2)
      unfold f_X7_charAnew f_X7_charAnew_b53
      by_cases hp : p2 < 0
      · simp only [hr, bsm, if_true, acts2 (show e < 10 by omega), z1, hS1, hRB.1, rf_some hob, hS2, if_pos hp]
      · simp only [hr, bsm, if_true, acts2 (show e < 10 by omega), z1, hS1, hRB.1, rf_some hob, hS2, if_neg hp, hS2n, if_neg (hn.resolve_left hp)]
  · refine J_exE (S1 := S) (v := 0) (c := 4) (k := 2) ?_ (by decide) (by decide) (fun v => rfl) (charAt8 ⟨_, charOf8w h0 he1 he p2, rfl, th_at, QF_th (by omega)⟩).2 hI
    unfold f_X7_charAnew
    rw [hr]
    rfl
  · refine J_exE (S1 := S) (v := 0) (c := 1) (k := 1) ?_ (by decide) (by decide) (fun v => rfl) (charAt8 ⟨_, charOf8n h0 hn p2, rfl, th_at, QF_th (by omega)⟩).2 hI
    unfold f_X7_charAnew
    rw [hr]
    rfl
theorem sA_sI (T : HS) (a : Nat) (f : Nat → Int32) (m : Nat) (v : Int32) : sI (sA T a f) a m v = sA T a (upd f m v) := by
  unfold sI sA
  refine Prod.ext ?_ rfl
  funext h
  dsimp only
  by_cases e : h = a
  · subst e; simp
  · simp [e]
theorem sA_o {T : HS} {a h : Nat} {f : Nat → Int32} (hh : h ≠ a) : (sA T a f).1 h = T.1 h := by
  unfold sA
  simp [hh]
theorem sA_at {T : HS} {a : Nat} {f : Nat → Int32} : (sA T a f).1 a = f := by
  unfold sA
  simp
theorem sA_self (T : HS) (a : Nat) : sA T a (T.1 a) = T := by
  unfold sA
  refine Prod.ext ?_ rfl
  funext h
  dsimp only
  by_cases e : h = a
  · subst e; simp
  · simp [e]
/-- a row that is copied to a place of another one -/
def put_ (f g : Nat → Int32) (o i : Nat) : Nat → Int32 := fun t => if o ≤ t ∧ t < o + i then f (t - o) else g t
theorem put_0 (f g : Nat → Int32) (o : Nat) : put_ f g o 0 = g := by
  funext t
  unfold put_
  rw [if_neg (by omega)]
theorem put_s (f g : Nat → Int32) (o i : Nat) : upd (put_ f g o i) (o + i) (f i) = put_ f g o (i + 1) := by
  funext t
  unfold upd put_
  by_cases e : t = o + i
  · rw [if_pos e, if_pos (by omega)]
    congr 1
    omega
  · rw [if_neg e]
    by_cases h : o ≤ t ∧ t < o + i
    · rw [if_pos h, if_pos (by omega)]
    · rw [if_neg h, if_neg (by omega)]
theorem put_in {f g : Nat → Int32} {o n i : Nat} (h : i < n) : put_ f g o n (o + i) = f i := by
  unfold put_
  rw [if_pos (by omega)]
  congr 1
  omega
theorem put_out {f g : Nat → Int32} {o n t : Nat} (h : t < o ∨ o + n ≤ t) : put_ f g o n t = g t := by
  unfold put_
  rw [if_neg (by omega)]
/-- what keeping an export leaves -/
def kpS (S : HS) (ne : Nat) (s : Int64) : HS := sI (sA (sI (sL S 31 ne s) 32 ne (S.1 34 1)) 33 (put_ (S.1 35) (S.1 33) (328 * ne) 328)) 30 0 (nI (ne + 1))
theorem keep7 {S : HS} {ne : Nat} {s : Int64} (h0 : S.1 30 0 = nI ne) (hn : ne < 10) (hc : ∀ i, ch (S.1 35 i) = true) : f_X2_keep s S = some (kpS S ne s) := by
  have e1 : (sL S 31 ne s).1 30 0 = nI ne := h0
  have e2 : (sL S 31 ne s).1 34 1 = S.1 34 1 := rfl
  unfold f_X2_keep f_X2_keep_b43
  rw [h0, if_neg (nI_pos (by omega)), if_pos (show nI ne < (10 : Int32) from lt_nI (n := 10) hn (by decide)), if_pos (ib_nI hn (by omega)), nI_cl (by omega), e1, if_pos (ib_nI hn (by omega)), nI_cl (by omega), e2]
  refine fx_run 328 (fun i => (sA (sI (sL S 31 ne s) 32 ne (S.1 34 1)) 33 (put_ (S.1 35) (S.1 33) (328 * ne) i), nI i)) ?_ ?_ (FU_gt (by omega)) ?_
  · intro i rec hi
    unfold F_X2_keep_b43
    dsimp only
    generalize hU : sI (sL S 31 ne s) 32 ne (S.1 34 1) = U
    have u35 : (sA U 33 (put_ (S.1 35) (S.1 33) (328 * ne) i)).1 35 i = S.1 35 i := by
      rw [sA_o (by omega), ← hU, sI_o (by omega)]
      rfl
    have u30 : (sA U 33 (put_ (S.1 35) (S.1 33) (328 * ne) i)).1 30 0 = nI ne := by
      rw [sA_o (by omega), ← hU, sI_o (by omega)]
      exact h0
    have i1 : nI ne * (328 : Int32) + nI i = nI (328 * ne + i) := by
      rw [show (328 : Int32) = nI 328 from rfl, pk_mul, nI_add, Nat.mul_comm]
    rw [if_neg (by rw [show (328 : Int32) = nI 328 from rfl, nI_leI (by omega) (by omega)]; omega), sign1 hi (by rw [u35]; exact hc i), bsm, u35, u30, i1, if_pos (ib_nI (show 328 * ne + i < 3280 by omega) (by omega)), nI_cl (by omega), vn_ch (hc i), sA_sI, put_s, nI_1]
  · intro rec
    unfold F_X2_keep_b43
    dsimp only
    rw [if_pos (by decide), sA_o (by omega), sI_o (by omega), e1, nI_1]
    rfl
  · rw [put_0]
    have : (sI (sL S 31 ne s) 32 ne (S.1 34 1)).1 33 = S.1 33 := by rw [sI_o (by omega)]; rfl
    rw [← this, sA_self]
    rfl
def kmS (T : HS) (ne : Nat) : HS := sI (sA (sI (sI (sI T 36 36 0) 57 ne (T.1 36 20)) 59 ne (T.1 36 22)) 58 (put_ (T.1 53) (T.1 58) (40 * ne) 40)) 36 29 (nI (ne + 1))
theorem ask8_s {T U : HS} {ne i : Nat} (hn : ne < 10) (hi : i < 40) (u29 : U.1 36 29 = nI ne) (u53 : U.1 53 i = T.1 53 i) (rec : HS × Int32 → Option (HS × Int32)) : F_X8_ask_b51 rec (sA U 58 (put_ (T.1 53) (T.1 58) (40 * ne) i), nI i) = rec (sA U 58 (put_ (T.1 53) (T.1 58) (40 * ne) (i + 1)), nI (i + 1)) := by
  unfold F_X8_ask_b51
  dsimp only
  have v53 : (sA U 58 (put_ (T.1 53) (T.1 58) (40 * ne) i)).1 53 i = T.1 53 i := by
    rw [sA_o (by omega)]; exact u53
  have v29 : (sA U 58 (put_ (T.1 53) (T.1 58) (40 * ne) i)).1 36 29 = nI ne := by
    rw [sA_o (by omega)]; exact u29
  have i1 : (40 : Int32) * nI ne + nI i = nI (40 * ne + i) := by
    rw [show (40 : Int32) = nI 40 from rfl, pk_mul, nI_add]
  rw [if_neg (by rw [show (40 : Int32) = nI 40 from rfl, nI_leI (by omega) (by omega)]; omega), if_pos (ib_nI hi (by omega)), v29, i1, if_pos (ib_nI (show 40 * ne + i < 400 by omega) (by omega)), nI_cl (by omega), nI_cl (by omega), v53, sA_sI, put_s, nI_1]
theorem ask8_e {U : HS} {ne : Nat} (hn : ne < 10) (u29 : U.1 36 29 = nI ne) (rec : HS × Int32 → Option (HS × Int32)) : F_X8_ask_b51 rec (U, nI 40) = some (sI U 36 29 (nI (ne + 1)), nI ne) := by
  unfold F_X8_ask_b51
  dsimp only
  rw [if_pos (by decide), u29, nI_1, sI_at, show (1 : Int32) = nI 1 from rfl, pk_sub (by omega), show ne + 1 - 1 = ne by omega]
theorem ask8_l {T U : HS} {ne : Nat} (hn : ne < 10) (u29 : U.1 36 29 = nI ne) (u53 : ∀ i, U.1 53 i = T.1 53 i) (u58 : U.1 58 = T.1 58) : f_X8_ask_b51 U 0 = some (sI (sA U 58 (put_ (T.1 53) (T.1 58) (40 * ne) 40)) 36 29 (nI (ne + 1)), nI ne) := by
  unfold f_X8_ask_b51
  refine fx_run 40 (fun i => (sA U 58 (put_ (T.1 53) (T.1 58) (40 * ne) i), nI i)) (fun i rec hi => ask8_s hn hi u29 (u53 i) rec) (fun rec => ask8_e hn ?_ rec) (FU_gt (by omega)) ?_
  · rw [sA_o (by omega)]; exact u29
  · rw [put_0, ← u58, sA_self]
    rfl
theorem ask8 {T : HS} {ne : Nat} (h0 : T.1 36 29 = nI ne) (hn : ne < 10) : f_X8_ask T = some (kmS T ne, nI ne) := by
  have e10 : ¬ nI ne = (10 : Int32) := fun q => absurd ((nI_eq (b := 10) (by omega) (by omega)).mp q) (by omega)
  have t29 : (sI T 36 36 0).1 36 29 = nI ne := by rw [th_k (by omega)]; exact h0
  have t20 : (sI T 36 36 0).1 36 20 = T.1 36 20 := th_k (by omega)
  have u29 : (sI (sI T 36 36 0) 57 ne (T.1 36 20)).1 36 29 = nI ne := by rw [sI_o (by omega)]; exact t29
  have u22 : (sI (sI T 36 36 0) 57 ne (T.1 36 20)).1 36 22 = T.1 36 22 := by rw [sI_o (by omega), th_k (by omega)]
  have hb : f_X8_ask_b15 T 0 = f_X8_ask_b51 (sI (sI (sI T 36 36 0) 57 ne (T.1 36 20)) 59 ne (T.1 36 22)) 0 := by
    unfold f_X8_ask_b15
    rw [can8, bsm]
    dsimp only
    rw [if_neg (by decide), t29, if_pos (ib_nI hn (by omega)), nI_cl (by omega), t20, u29, if_pos (ib_nI hn (by omega)), nI_cl (by omega), u22]
  unfold f_X8_ask
  rw [h0, if_neg e10, hb]
  refine ask8_l hn ?_ (fun i => ?_) ?_
  · rw [sI_o (by omega)]; exact u29
  · rw [sI_o (by omega), sI_o (by omega), sI_o (by omega)]
  · rw [sI_o (by omega), sI_o (by omega), sI_o (by omega)]
theorem j_ask {S : HS} (h : Inv S) : J (f_L_ask S) f_X8_ask := by
  obtain ⟨sp, ns, nr, na, ne, nm, lt, len, fr, to, sj, dr, ab, st, lby, se, trn, txt, kd, dd, qq, h⟩ := h
  have hI := I0_inv h
  have h0 := h
  obtain ⟨⟨g1, g2⟩, ⟨c1, c2, c3, c4, c5⟩, ⟨m1, m2, m3, m4⟩⟩ := h
  obtain ⟨gW, gA, gT, gK, gL, gB⟩ := g2
  have hna := gT.1
  have hns := gW.2.1
  have hnr := gW.1
  rw [wr_ask]
  obtain ⟨s1, s2, s3, s4, s5⟩ := g1
  obtain ⟨hAI, -, -, -⟩ := rep_ok (set := cset st ab) gW gA na (Nat.le_refl _)
  rcases Nat.lt_or_ge ne 10 with h10 | h10
  · obtain ⟨⟨b, b', hRB, hCB⟩, hV⟩ := c3
    have hob : oc b = some 0 := HL_oc (Or.inl ⟨rfl, rfl⟩) (RB_lo hRB)
    obtain ⟨⟨S2, hS2, f, hf, hf1, hf2⟩, -⟩ := show7 hob c2.2.2.1 hns hnr hAI hCB
    have hI2 : I0 S2 sp ns nr na ne nm lt len fr to sj dr ab st lby se trn txt kd dd qq := by
      rw [hf]
      exact I0_q h0 (QF_wT hf2)
    have hS2f : S2.1 35 = f := by rw [hf]; exact wT_f
    have hS2n : S2.1 34 1 = nI (TX (rep kd fr to (lbL len) dd sj qq (cset st ab) na).1 len trn txt).length := by rw [hf]; exact wT_n
    obtain ⟨-, ⟨k1, k2, k3, k4, k5⟩, ⟨l1, l2, l3, l4⟩⟩ := hI2
    obtain ⟨x1, x2, x3, x4, x5⟩ := k5
    have hx : f_X7_ask S = some (kpS S2 ne (lN (cset st ab)), (0, nI ne)) := by
      unfold f_X7_ask
      rw [c5.1, if_pos (show nI ne < (10 : Int32) from lt_nI (n := 10) h10 (by decide)), hRB.1, rf_some hob, hS2, bsm, counting7 k2.2.2.2.2.2 gT, bsm, keep7 x1 h10 x5, bsm]
    refine J_ok ⟨_, hx, rfl, ?_⟩
    dsimp only
    generalize hT : sL (kpS S2 ne (lN (cset st ab))) 60 0 (nI ne).toInt64 = T
    have hT1 : T.1 = (kpS S2 ne (lN (cset st ab))).1 := by rw [← hT]; rfl
    have tf : ∀ x, x ≠ 30 → x ≠ 32 → x ≠ 33 → T.1 x = S2.1 x := fun x p q r => by
      rw [hT1]
      unfold kpS
      rw [sI_o p, sA_o r, sI_o q]
      rfl
    have t36 : T.1 36 = S2.1 36 := tf 36 (by omega) (by omega) (by omega)
    refine ⟨_, ask8 (by rw [t36]; exact l4.1) h10, ?_, ?_, rfl, ?_⟩
    · unfold kmS
      dsimp only
      rw [sI_k (by omega), sA_o (by omega), sI_o (by omega), sI_o (by omega), th_at]
    · show T.2.1 60 0 = _
      rw [← hT]
      exact sL_60
    · have uf : ∀ x, x ≠ 36 → x ≠ 57 → x ≠ 58 → x ≠ 59 → (kmS T ne).1 x = T.1 x := fun x p q r s => by
        unfold kmS
        rw [sI_o p, sA_o r, sI_o s, sI_o q, sI_o p]
      have u2 : (kmS T ne).2 = T.2 := rfl
      have t21 : ∀ x, x ≠ 31 → x ≠ 60 → T.2.1 x = S2.2.1 x := fun x p q => by
        rw [← hT]
        unfold kpS sL sI sA
        simp [p, q]
      have t22 : T.2.2 = S2.2.2 := by rw [← hT]; rfl
      have t31 : T.2.1 31 = vp_updL (S2.2.1 31) ne (lN (cset st ab)) := by
        rw [← hT]
        unfold kpS sL sI sA
        simp
      refine I0_xp (S := S2) ⟨⟨⟨s1, s2, s3, s4, s5⟩, gW, gA, gT, gK, gL, gB⟩, ⟨k1, k2, k3, k4, x1, x2, x3, x4, x5⟩, ⟨l1, l2, l3, l4⟩⟩ (ne' := ne + 1) (nm' := nm) (se' := fun e => if e = ne then cset st ab else se e) ⟨by omega, by omega, fun e he k hk => ?_⟩ ⟨?_, ?_, fun e he => ⟨?_, ?_, fun i hi => ?_⟩, fun i => ?_, fun i => ?_⟩ ⟨?_, ?_, fun e he => ⟨?_, ?_, fun k w hk hw => ?_⟩⟩ (fun x p q => ?_) (fun k p q r => ?_) ?_ ?_ ?_
      · by_cases e1 : e = ne
        · rw [if_pos e1] at hk; exact cset_lt gT hk
        · rw [if_neg e1] at hk; exact s5 e (by omega) k hk
      · rw [uf 30 (by omega) (by omega) (by omega) (by omega), hT1]
        unfold kpS
        exact sI_at
      · rw [uf 30 (by omega) (by omega) (by omega) (by omega), hT1]
        unfold kpS
        rw [sI_k (by omega), sA_o (by omega), sI_o (by omega)]
        exact x2
      · rw [u2, t31]
        dsimp only
        unfold vp_updL
        by_cases e1 : e = ne
        · rw [if_pos e1, if_pos e1]
        · rw [if_neg e1, if_neg e1]; exact (x3 e (by omega)).1
      · rw [uf 32 (by omega) (by omega) (by omega) (by omega), hT1]
        unfold kpS
        rw [sI_o (by omega), sA_o (by omega)]
        dsimp only
        by_cases e1 : e = ne
        · subst e1
          rw [if_pos rfl, sI_at]
          exact hS2n
        · rw [if_neg e1, sI_k e1]; exact (x3 e (by omega)).2.1
      · rw [uf 33 (by omega) (by omega) (by omega) (by omega), hT1]
        unfold kpS
        rw [sI_o (by omega), sA_at]
        dsimp only at hi ⊢
        by_cases e1 : e = ne
        · subst e1
          rw [if_pos rfl] at hi ⊢
          have := TX_len hAI hns (trn := trn) (txt := txt) (fun k => (c2.2.2.1.1 k).1)
          rw [put_in (by omega), hS2f, hf1 i hi]
        · rw [if_neg e1] at hi ⊢
          have := TX_len (rep_ok (set := se e) gW gA na (Nat.le_refl _)).1 hns (trn := trn) (txt := txt) (fun k => (c2.2.2.1.1 k).1)
          rw [put_out (by omega)]
          exact (x3 e (by omega)).2.2 i hi
      · rw [uf 33 (by omega) (by omega) (by omega) (by omega), hT1]
        unfold kpS
        rw [sI_o (by omega), sA_at]
        unfold put_
        split
        · exact x5 _
        · exact x4 _
      · rw [uf 35 (by omega) (by omega) (by omega) (by omega), tf 35 (by omega) (by omega) (by omega)]
        exact x5 i
      · unfold kmS
        exact sI_at
      · unfold kmS
        rw [sI_k (by omega), sA_o (by omega), sI_o (by omega), sI_o (by omega), th_k (by omega), t36]
        exact l4.2.1
      · unfold kmS
        rw [sI_o (by omega), sA_o (by omega), sI_o (by omega)]
        dsimp only
        by_cases e1 : e = ne
        · subst e1
          rw [if_pos rfl, sI_at, t36]
          exact l3.1.1
        · rw [if_neg e1, sI_k e1, sI_o (by omega), tf 57 (by omega) (by omega) (by omega)]
          exact (l4.2.2 e (by omega)).1
      · unfold kmS
        rw [sI_o (by omega), sA_o (by omega)]
        dsimp only
        by_cases e1 : e = ne
        · subst e1
          rw [if_pos rfl, sI_at, t36]
          exact l3.1.2.1
        · rw [if_neg e1, sI_k e1, sI_o (by omega), sI_o (by omega), tf 59 (by omega) (by omega) (by omega)]
          exact (l4.2.2 e (by omega)).2.1
      · unfold kmS
        rw [sI_o (by omega), sA_at]
        dsimp only at hk ⊢
        by_cases e1 : e = ne
        · subst e1
          rw [if_pos rfl] at hk ⊢
          have := hAI.1 k hk
          rw [show 40 * e + 4 * k + w = 40 * e + (4 * k + w) by omega, put_in (by omega), tf 53 (by omega) (by omega) (by omega)]
          exact l3.1.2.2.1 k w hk hw
        · rw [if_neg e1] at hk ⊢
          have := (rep_ok (set := se e) gW gA na (Nat.le_refl _)).1.1 k hk
          rw [put_out (by omega), tf 58 (by omega) (by omega) (by omega)]
          exact (l4.2.2 e (by omega)).2.2 k w hk hw
      · rw [uf x (by omega) (by omega) (by omega) (by omega), tf x (by omega) (by omega) (by omega)]
      · unfold kmS
        rw [sI_k (by omega), sA_o (by omega), sI_o (by omega), sI_o (by omega), th_k (by omega), t36]
      · rw [u2, t21 16 (by omega) (by omega)]
      · rw [u2, t22]
      · exact BN_fr (by rw [u2, t22]) k4
  · have e10 : ne = 10 := by omega
    subst e10
    refine J_ex (S1 := S) (v := 0) (c := 3) (k := 1) (w := 0) ?_ (by decide) (by decide) (fun v => rfl) ?_ hI
    · unfold f_X7_ask
      rw [c5.1, if_neg (by decide)]
    · unfold f_X8_ask f_X8_ask_b15
      simp only [m4.1, if_pos (show nI 10 = (10 : Int32) from rfl), can8, bsm, d10, zb]
