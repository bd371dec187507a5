/-! the model takes what it tried; it does all acts anew -/
def FMm (S S' : HS) : Prop := (∀ h, h ≠ 36 → h ≠ 51 → h ≠ 53 → h ≠ 54 → h ≠ 55 → h ≠ 56 → S'.1 h = S.1 h) ∧ (∀ k, k ≠ 20 → k ≠ 22 → k ≠ 25 → k ≠ 27 → k ≠ 28 → S'.1 36 k = S.1 36 k) ∧ S'.2 = S.2
theorem FMm.rf (S : HS) : FMm S S := ⟨fun _ _ _ _ _ _ _ => rfl, fun _ _ _ _ _ _ => rfl, rfl⟩
theorem FMm.tr {S T U : HS} (h1 : FMm S T) (h2 : FMm T U) : FMm S U := ⟨fun h a b c d e f => (h2.1 h a b c d e f).trans (h1.1 h a b c d e f), fun k a b c d e => (h2.2.1 k a b c d e).trans (h1.2.1 k a b c d e), h2.2.2.trans h1.2.2⟩
theorem FMm_mF {S : HS} {tr tx ty : Nat → Int32} {tt tf fl : Int32} : FMm S (mF S tr tt tf fl tx ty) := by
  refine ⟨fun h h36 h51 h53 h54 h55 h56 => ?_, fun k a b c d e => ?_, rfl⟩
  · simp [mF, h36, h54, h55, h56]
  · simp [mF, c, d, e]
theorem FMm_51 {S : HS} {k : Nat} {v : Int32} : FMm S (sI S 51 k v) := by
  refine ⟨fun h h36 h51 h53 h54 h55 h56 => ?_, fun k a b c d e => rfl, rfl⟩
  simp [sI, h51]
theorem FMm_36 {S : HS} {k : Nat} {v : Int32} (hk : k = 20 ∨ k = 22) : FMm S (sI S 36 k v) := by
  refine ⟨fun h h36 h51 h53 h54 h55 h56 => ?_, fun j a b c d e => ?_, rfl⟩
  · simp [sI, h36]
  · show upd (S.1 36) k v j = S.1 36 j
    exact upd_ne (by omega)
theorem FMm_53 {S : HS} {f : Nat → Int32} : FMm S (sA S 53 f) := by
  refine ⟨fun h h36 h51 h53 h54 h55 h56 => ?_, fun k a b c d e => rfl, rfl⟩
  simp [sA, h53]
theorem MT_fr {S S' : HS} {na : Nat} {dr ab st : Nat → Nat} (hF : FMm S S') (h : MT S na dr ab st) : MT S' na dr ab st := by
  obtain ⟨h1, h2, h3⟩ := h
  have f46 := hF.1 46 (by decide) (by decide) (by decide) (by decide) (by decide) (by decide)
  have f47 := hF.1 47 (by decide) (by decide) (by decide) (by decide) (by decide) (by decide)
  have f52 := hF.1 52 (by decide) (by decide) (by decide) (by decide) (by decide) (by decide)
  refine ⟨by rw [hF.2.1 12 (by decide) (by decide) (by decide) (by decide) (by decide)]; exact h1, fun k hk => by rw [f46, f47]; exact h2 k hk, fun d hd => by rw [f52]; exact h3 d hd⟩
theorem MC_fr {S S' : HS} {nm nr ns : Nat} {kd : Nat → Int32} {fr to : Nat → Nat} {lb : Nat → Bool} (hF : FMm S S') (h : MC S nm nr ns kd fr to lb) : MC S' nm nr ns kd fr to lb := by
  obtain ⟨h1, h2, h3, h4, h5, h6, h7⟩ := h
  have f42 := hF.1 42 (by decide) (by decide) (by decide) (by decide) (by decide) (by decide)
  have f43 := hF.1 43 (by decide) (by decide) (by decide) (by decide) (by decide) (by decide)
  have f44 := hF.1 44 (by decide) (by decide) (by decide) (by decide) (by decide) (by decide)
  have f38 := hF.1 38 (by decide) (by decide) (by decide) (by decide) (by decide) (by decide)
  refine ⟨by rw [hF.2.1 7 (by decide) (by decide) (by decide) (by decide) (by decide)]; exact h1, by rw [hF.2.1 2 (by decide) (by decide) (by decide) (by decide) (by decide)]; exact h2, h3, h4, h5, fun k hk => by rw [f42, f43, f44]; exact h6 k hk, fun k hk => by rw [f38]; exact h7 k hk⟩
theorem TM_fr {S S' : HS} {a : Nat} {d : Int32} {s : Nat} {q : Nat → Int32} (hF : FMm S S') (h : TM S a d s q) : TM S' a d s q := by
  unfold TM at h ⊢
  rw [hF.1 48 (by decide) (by decide) (by decide) (by decide) (by decide) (by decide), hF.1 49 (by decide) (by decide) (by decide) (by decide) (by decide) (by decide), hF.1 50 (by decide) (by decide) (by decide) (by decide) (by decide) (by decide)]
  exact h
def tkn (T : HS) (m : Nat) : Nat → Int32 := fun t => if t < m then T.1 56 t else T.1 53 t
theorem tkn_s (T : HS) (m : Nat) : upd (tkn T m) m (T.1 56 m) = tkn T (m + 1) := by
  funext t
  unfold upd tkn
  by_cases e : t = m
  · rw [if_pos e, if_pos (by omega), e]
  · rw [if_neg e]
    by_cases h : t < m
    · rw [if_pos h, if_pos (by omega)]
    · rw [if_neg h, if_neg (by omega)]
theorem sA_s53 (T : HS) (f : Nat → Int32) (m : Nat) (v : Int32) : sI (sA T 53 f) 53 m v = sA T 53 (upd f m v) := by
  unfold sI sA
  refine Prod.ext ?_ rfl
  funext h
  dsimp only
  by_cases e : h = 53
  · simp [e]
  · simp [e]
/-- a shape has other numbers than before -/
def dif (f g : Nat → Int32) (k : Nat) : Bool := !(decide (f (4 * k) = g (4 * k)) && decide (f (4 * k + 1) = g (4 * k + 1)) && decide (f (4 * k + 2) = g (4 * k + 2)) && decide (f (4 * k + 3) = g (4 * k + 3)))
def smj (f g : Nat → Int32) (k : Nat) : Nat → Bool
  | 0 => true
  | j + 1 => smj f g k j && decide (f (4 * k + j) = g (4 * k + j))
def tkS (T : HS) (ns : Nat) : HS := sI (sI (sA T 53 (tkn T (4 * ns))) 36 20 (T.1 36 25)) 36 22 (T.1 36 27)
theorem takes8 {T : HS} {ns : Nat} (h2 : T.1 36 2 = nI ns) (hns : ns ≤ 10) : f_X8_takes T = some (tkS T ns, nI (fb_ct (dif (T.1 53) (T.1 56)) ns)) := by
  unfold f_X8_takes f_X8_takes_b4
  refine fx_run ns (fun i => (sA T 53 (tkn T (4 * i)), nI (fb_ct (dif (T.1 53) (T.1 56)) i), nI i)) ?_ ?_ (FU_gt (by omega)) ?_
  · intro i rec hi
    unfold F_X8_takes_b4
    dsimp only
    have e2 : (sA T 53 (tkn T (4 * i))).1 36 2 = nI ns := h2
    rw [e2, if_neg (nlt_le hi (by omega)), show (4 : Int32) * nI i = nI (4 * i) by rw [show (4 : Int32) = nI 4 from rfl, pk_mul]]
    unfold f_X8_takes_b19
    refine fx_run 4 (fun j => (sA T 53 (tkn T (4 * i + j)), nI (fb_ct (dif (T.1 53) (T.1 56)) i), nI i, bI (smj (T.1 53) (T.1 56) i j), nI (4 * i + j))) ?_ ?_ (FU_gt (by omega)) rfl
    · intro j rec2 hj
      unfold F_X8_takes_b19 f_X8_takes_b54 f_X8_takes_b55
      dsimp only
      have i4 : (4 : Int32) * nI i + 4 = nI (4 * i + 4) := by rw [show (4 : Int32) = nI 4 from rfl, pk_mul, nI_add]
      have e53 : (sA T 53 (tkn T (4 * i + j))).1 53 (4 * i + j) = T.1 53 (4 * i + j) := by
        show tkn T (4 * i + j) (4 * i + j) = _
        unfold tkn
        rw [if_neg (by omega)]
      have e56 : (sA T 53 (tkn T (4 * i + j))).1 56 (4 * i + j) = T.1 56 (4 * i + j) := rfl
      rw [i4, if_neg (nlt_le (by omega) (by omega)), ifb]
      simp only [if_pos (ib_nI (show 4 * i + j < 40 by omega) (by omega)), nI_cl (show 4 * i + j < 2 ^ 31 by omega), e53, e56, sA_s53, tkn_s, nI_1]
      have hs : smj (T.1 53) (T.1 56) i (j + 1) = (smj (T.1 53) (T.1 56) i j && decide (T.1 53 (4 * i + j) = T.1 56 (4 * i + j))) := rfl
      rw [hs]
      cases smj (T.1 53) (T.1 56) i j with
      | false => rfl
      | true =>
        rw [if_pos rfl]
        by_cases e : T.1 53 (4 * i + j) = T.1 56 (4 * i + j)
        · rw [if_pos e]; simp [e, bI]; rfl
        · rw [if_neg e]; simp [e, bI]; rfl
    · intro rec2
      unfold F_X8_takes_b19 f_X8_takes_b86
      dsimp only
      have i4 : (4 : Int32) * nI i + 4 = nI (4 * i + 4) := by rw [show (4 : Int32) = nI 4 from rfl, pk_mul, nI_add]
      rw [i4, if_pos (nle_nI _), ifb]
      simp only [nI_1, i32_00, fb_ct_succ]
      have hd : dif (T.1 53) (T.1 56) i = !(smj (T.1 53) (T.1 56) i 4) := by
        show _ = !((((true && decide (T.1 53 (4 * i + 0) = T.1 56 (4 * i + 0))) && decide (T.1 53 (4 * i + 1) = T.1 56 (4 * i + 1))) && decide (T.1 53 (4 * i + 2) = T.1 56 (4 * i + 2))) && decide (T.1 53 (4 * i + 3) = T.1 56 (4 * i + 3)))
        rw [Bool.true_and]
        rfl
      rw [hd]
      cases smj (T.1 53) (T.1 56) i 4 with
      | true => rfl
      | false => rfl
  · intro rec
    unfold F_X8_takes_b4
    dsimp only
    have e2 : (sA T 53 (tkn T (4 * ns))).1 36 2 = nI ns := h2
    rw [e2, if_pos (nle_nI ns)]
    rfl
  · have : sA T 53 (tkn T (4 * 0)) = T := by
      unfold sA
      refine Prod.ext ?_ rfl
      funext h
      dsimp only
      by_cases e : h = 53
      · rw [if_pos e, e]
        funext t
        unfold tkn
        rw [if_neg (by omega)]
      · rw [if_neg e]
    rw [this]
    rfl
theorem tkS_fr {T : HS} {ns : Nat} : FMm T (tkS T ns) := ((FMm_53 (S := T) (f := tkn T (4 * ns))).tr (FMm_36 (Or.inl rfl))).tr (FMm_36 (Or.inr rfl))
theorem tkS_MB {S : HS} {kd : Nat → Int32} {B : AB} {tr tx ty : Nat → Int32} {tt tf fl : Int32} {ns : Nat} (hth : ∀ k, B.1.testBit k = true → k < ns) (h1 : tt = nI B.1) (h2 : tf = nI B.2.1) (h3 : rpN B.1 B.2.2.1 tr) (h4 : rpM kd B.2.1 B.2.2.2 tx ty) : MB (tkS (mF S tr tt tf fl tx ty) ns) kd B := by
  refine ⟨h1, h2, fun k w hk hw => ?_, h4⟩
  have := hth k hk
  show tkn (mF S tr tt tf fl tx ty) (4 * ns) (4 * k + w) = _
  unfold tkn
  rw [if_pos (by omega)]
  exact h3 k w hk hw
theorem MB_aeq {S : HS} {kd : Nat → Int32} {A B : AB} (h : MB S kd A) (he : aeq kd A B) : MB S kd B := by
  obtain ⟨h1, h2, h3, h4⟩ := h
  obtain ⟨e1, e2, e3, e4⟩ := he
  refine ⟨by rw [← e1]; exact h1, by rw [← e2]; exact h2, fun k w hk hw => ?_, fun j hj h6 => ?_⟩
  · rw [← e1] at hk
    rw [h3 k w hk hw, e3 k w hk hw]
  · rw [← e2] at hj
    rw [e4 j 0 hj h6 (by omega), e4 j 1 hj h6 (by omega)]
    exact h4 j hj h6
theorem CB_aeq {S : HS} {b : Nat} {kd : Nat → Int32} {A B : AB} (h : CB S b kd A) (he : aeq kd A B) : CB S b kd B := by
  obtain ⟨h1, h2, h3, h4⟩ := h
  obtain ⟨e1, e2, e3, e4⟩ := he
  refine ⟨by rw [← e1]; exact h1, by rw [← e2]; exact h2, fun k w hk hw => ?_, fun j w hj h6 hw => ?_⟩
  · rw [← e1] at hk
    rw [h3 k w hk hw, e3 k w hk hw]
  · rw [← e2] at hj
    rw [h4 j w hj h6 hw, e4 j w hj h6 hw]
section
variable {S : HS} {na nm nr ns : Nat} {kd : Nat → Int32} {fr to : Nat → Nat} {lb : Nat → Bool} {dd : Nat → Int32} {sj : Nat → Nat} {qq : Nat → Nat → Int32} {dr ab st : Nat → Nat}
theorem does8 (hM : MC S nr nr ns kd fr to lb) (hW : RW nr ns kd fr to) (hT : MT S na dr ab st) (hTW : TWF na dr ab st) (hWA : WA na nr ns kd lb dd sj qq) (hTM : ∀ a, a < na → TM S a (dd a) (sj a) (qq a)) : Ok (f_X8_doesAnew S) (fun r => FMm S r.1 ∧ MB r.1 kd (rep kd fr to lb dd sj qq (cset st ab) na).1 ∧ (∀ k, k < na → r.1.1 51 k = bI ((rep kd fr to lb dd sj qq (cset st ab) na).2.testBit k)) ∧ r.2 = nI (fb_ct (fun k => (rep kd fr to lb dd sj qq (cset st ab) na).2.testBit k) na)) := by
  have hna := hTW.1
  unfold f_X8_doesAnew f_X8_doesAnew_b14
  refine ok_fx na (fun i u => ∃ S', u = (S', nI (fb_ct (fun k => (rep kd fr to lb dd sj qq (cset st ab) i).2.testBit k) i), nI i) ∧ FMm S S' ∧ MB S' kd (rep kd fr to lb dd sj qq (cset st ab) i).1 ∧ ∀ k, k < i → S'.1 51 k = bI ((rep kd fr to lb dd sj qq (cset st ab) i).2.testBit k)) ?_ ?_ (FU_gt (by omega)) ⟨_, rfl, (FMm_36 (Or.inl rfl)).tr (FMm_36 (Or.inr rfl)), ⟨rfl, rfl, fun k w hk => absurd hk (by show ¬ (0 : Nat).testBit k = true; rw [Nat.zero_testBit]; decide), fun k hk => absurd hk (by show ¬ (0 : Nat).testBit k = true; rw [Nat.zero_testBit]; decide)⟩, fun k hk => absurd hk (by omega)⟩
  · rintro i u rec hi ⟨S', rfl, hF, hB, h51⟩ hrec
    obtain ⟨hAI, -, hlt, -⟩ := rep_ok (set := cset st ab) hW hWA i (by omega)
    have hn : vp_nar .boolean (0 : Int32) = 0 := by decide
    have hn1 : vp_nar .boolean (1 : Int32) = 1 := by decide
    have e12 : S'.1 36 12 = nI na := (MT_fr hF hT).1
    have hF2 : FMm S (sI S' 51 i 0) := hF.tr FMm_51
    have hB2 : MB (sI S' 51 i 0) kd (rep kd fr to lb dd sj qq (cset st ab) i).1 := hB
    unfold F_X8_doesAnew_b14 f_X8_doesAnew_b63
    dsimp only
    rw [e12, if_neg (nlt_le hi (by omega)), if_pos (ib_nI (show i < 60 by omega) (by omega)), nI_cl (by omega), hn, onWay8 (MT_fr hF2 hT) hTW hi, bsm, ifb]
    simp only [nI_1]
    have hnb : (rep kd fr to lb dd sj qq (cset st ab) i).2.testBit i = false := Nat.testBit_lt_two_pow hlt
    have h51' : ∀ (T : HS), T.1 51 = (sI S' 51 i 0).1 51 → ∀ k, k < i + 1 → T.1 51 k = bI ((rep kd fr to lb dd sj qq (cset st ab) i).2.testBit k) := by
      intro T hT k hk
      rw [hT]
      show upd (S'.1 51) i 0 k = _
      rcases Nat.lt_succ_iff_lt_or_eq.mp hk with h | rfl
      · rw [upd_ne (by omega)]; exact h51 k h
      · rw [upd_at, hnb]; rfl
    have hct : fb_ct (fun k => (rep kd fr to lb dd sj qq (cset st ab) i).2.testBit k) (i + 1) = fb_ct (fun k => (rep kd fr to lb dd sj qq (cset st ab) i).2.testBit k) i := by
      rw [fb_ct_succ, hnb]; rfl
    cases hs : (cset st ab).testBit i with
    | false =>
      rw [if_neg (by decide)]
      have hr : rep kd fr to lb dd sj qq (cset st ab) (i + 1) = rep kd fr to lb dd sj qq (cset st ab) i := by rw [rep, if_neg (by rw [hs]; decide)]
      refine hrec _ ⟨sI S' 51 i 0, by rw [hr, hct], hF2, by rw [hr]; exact hB2, by rw [hr]; exact h51' _ rfl⟩
    | true =>
      rw [if_pos rfl]
      refine Ok.bind (tries8 hB2 (MC_fr hF2 hM) hW hAI (by omega) (TM_fr hF2 (hTM i hi)) (hWA.1 i hi).1) ?_
      rintro r ⟨tr, tt, tf, fl, tx, ty, ok, rfl, k1, k2, -⟩
      dsimp only
      rw [ifb]
      cases ok with
      | true =>
        obtain ⟨B, b1, b2, b3, b4, b5⟩ := k1 rfl
        obtain ⟨C, c1, c2⟩ := stp_yes ⟨B, b1⟩
        have hr := rep_some (set := cset st ab) hs c1
        have hae := Does_uniq hW hAI b1 c2
        have hth : ∀ k, B.1.testBit k = true → k < ns := fun k hk => by
          rcases Does_th b1 k hk with h | ⟨d0, rfl⟩
          · exact hAI.1 k h
          · rcases (hWA.1 i hi).1 with ⟨-, h, -⟩ | ⟨h, -⟩ | ⟨h, -⟩ | ⟨h, -⟩ | ⟨h, -⟩
            · exact h
            · rw [h] at d0; exact absurd d0 (by decide)
            · rw [h] at d0; exact absurd d0 (by decide)
            · rw [h] at d0; exact absurd d0 (by decide)
            · rw [h] at d0; exact absurd d0 (by decide)
        rw [if_pos rfl, takes8 (ns := ns) (MC_fr (hF2.tr FMm_mF) hM).2.1 hM.2.2.2.2.1, bsm]
        refine hrec _ ⟨tkS (mF (sI S' 51 i 0) tr tt tf fl tx ty) ns, by rw [hr]; dsimp only; rw [hct], (hF2.tr FMm_mF).tr tkS_fr, by rw [hr]; exact MB_aeq (tkS_MB hth b2 b3 b4 b5) hae, by rw [hr]; exact h51' _ rfl⟩
      | false =>
        obtain ⟨n1, n2, n3⟩ := k2 rfl
        have hr := rep_none (set := cset st ab) hs (stp_no n1)
        rw [if_neg (by decide), if_pos (ib_nI (show i < 60 by omega) (by omega)), hn1]
        have hbit : ∀ k, k < i + 1 → ((rep kd fr to lb dd sj qq (cset st ab) i).2 ||| 2 ^ i).testBit k = if k = i then true else (rep kd fr to lb dd sj qq (cset st ab) i).2.testBit k := fun k hk => by
          rw [fb_bit_set]
          by_cases e : k = i
          · simp [e]
          · simp [e]
        refine hrec _ ⟨sI (mF (sI S' 51 i 0) tr tt tf fl tx ty) 51 i 1, ?_, (hF2.tr FMm_mF).tr FMm_51, ?_, ?_⟩
        · rw [hr]
          dsimp only
          have hc2 : fb_ct (fun k => ((rep kd fr to lb dd sj qq (cset st ab) i).2 ||| 2 ^ i).testBit k) i = fb_ct (fun k => (rep kd fr to lb dd sj qq (cset st ab) i).2.testBit k) i := fb_ct_cong (fun k hk => by rw [hbit k (by omega), if_neg (by omega)])
          rw [fb_ct_succ, hc2, hbit i (by omega), if_pos rfl]
          rfl
        · rw [hr, n2, n3]
          exact hB2
        · rw [hr]
          intro k hk
          dsimp only
          rw [hbit k hk]
          show upd (upd (S'.1 51) i 0) i 1 k = _
          by_cases e : k = i
          · rw [e, upd_at, if_pos rfl]; rfl
          · rw [upd_ne e, upd_ne e, if_neg e]
            exact h51 k (by omega)
  · rintro u rec ⟨S', rfl, hF, hB, h51⟩
    have e12 : S'.1 36 12 = nI na := (MT_fr hF hT).1
    unfold F_X8_doesAnew_b14
    dsimp only
    rw [e12, if_pos (nle_nI na)]
    exact ⟨_, rfl, hF, hB, h51, rfl⟩
end
