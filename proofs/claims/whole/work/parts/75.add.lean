/-! boxes and labels are added -/
theorem sI_same {S : HS} {a k : Nat} {v : Int32} (h : S.1 a k = v) : sI S a k v = S := by
  unfold sI
  refine Prod.ext ?_ rfl
  funext x
  dsimp only
  by_cases e : x = a
  · subst e
    rw [if_pos rfl, upd_same h]
  · rw [if_neg e]
section
variable {S T T2 D R F : HS} {sp ns nr na ne nm V : Nat} {lt len fr to sj dr ab st lby se : Nat → Nat} {trn : Nat → Bool} {txt : Nat → Nat → Nat} {kd dd : Nat → Int32} {qq : Nat → Nat → Int32} {w c : Nat} {t : Int32} {q : Nat → Int32} {A B : AB} {tb : Bool}
theorem HS1_res (h0 : ∀ k, len k ≤ 5) {tx : Nat → Nat} (h : HS1 S (ns + 1) (exF len ns c) (exF trn ns tb) (exF txt ns tx)) : HS1 S ns len trn txt := by
  obtain ⟨h1, ts, h2, h3, h4⟩ := h
  refine ⟨fun k => ⟨h0 k, fun hk => ?_⟩, ts, h2, h3, fun k hk => ?_⟩
  · rw [(h1 k).2 (by omega), exF_ne (by omega)]
  · have := h4 k (by omega)
    rw [exF_ne (by omega), exF_ne (by omega), exF_ne (by omega)] at this
    exact this
/-- the class's draft of a shape -/
theorem draft5 (h2 : S.1 2 0 = nI ns) (hns : ns < 10) (h : HS1 S ns len trn txt) (hs : SC S sp lt) (hsp : sp ≤ 5) (h26 : ∀ i, i < sp → lt i ≤ 26) (hc : c ≤ sp) (ht : tb = decide (t ≠ 0)) : Ok (f_X5_draft 1 (nI c) t S) (fun S' => (∀ x, x ≠ 2 → x ≠ 3 → x ≠ 4 → S'.1 x = S.1 x) ∧ S'.1 2 0 = nI ns ∧ S'.2 = S.2 ∧ HS1 S' (ns + 1) (exF len ns c) (exF trn ns tb) (exF txt ns lt) ∧ HS1 S' ns len trn txt) := by
  obtain ⟨k1, ts, k2, k3, k4⟩ := h
  have p3 : f_X7_put 3 (nI ns) (nI c) S = some (sI S 3 ns (nI c)) := put7 S 3 _ (show ns < 10 from hns) (by decide)
  unfold f_X5_draft f_X5_draft_b15
  rw [h2, p3, bsm]
  have fin : ∀ U : HS, U = sA (sI S 3 ns (nI c)) 4 (put_ (S.1 1) (S.1 4) (5 * ns) c) → Ok (f_X5_draft_b55 1 (nI c) t U) (fun S' => (∀ x, x ≠ 2 → x ≠ 3 → x ≠ 4 → S'.1 x = S.1 x) ∧ S'.1 2 0 = nI ns ∧ S'.2 = S.2 ∧ HS1 S' (ns + 1) (exF len ns c) (exF trn ns tb) (exF txt ns lt) ∧ HS1 S' ns len trn txt) := by
    intro U hU
    have u21 : U.1 2 1 = nI ts := by rw [hU, sA_o (by omega), sI_o (by omega)]; exact k3
    have u20 : U.1 2 0 = nI ns := by rw [hU, sA_o (by omega), sI_o (by omega)]; exact h2
    have hgo : ∀ ts', ts' < 2 ^ 10 → (∀ k, k < ns → ts'.testBit k = ts.testBit k) → ts'.testBit ns = tb → (∀ x, x ≠ 2 → x ≠ 3 → x ≠ 4 → (sI U 2 1 (nI ts')).1 x = S.1 x) ∧ (sI U 2 1 (nI ts')).1 2 0 = nI ns ∧ (sI U 2 1 (nI ts')).2 = S.2 ∧ HS1 (sI U 2 1 (nI ts')) (ns + 1) (exF len ns c) (exF trn ns tb) (exF txt ns lt) ∧ HS1 (sI U 2 1 (nI ts')) ns len trn txt := by
      intro ts' t1 t2 t3
      have hH : HS1 (sI U 2 1 (nI ts')) (ns + 1) (exF len ns c) (exF trn ns tb) (exF txt ns lt) := by
        refine ⟨fun k => ⟨?_, fun hk => ?_⟩, ts', t1, sI_at, fun k hk => ⟨?_, fun i hi => ?_⟩⟩
        · by_cases e : k = ns
          · rw [e, exF_at]; omega
          · rw [exF_ne e]; exact (k1 k).1
        · rw [sI_o (by omega), hU, sA_o (by omega)]
          by_cases e : k = ns
          · rw [e, sI_at, exF_at]
          · rw [sI_k e, exF_ne e]; exact (k1 k).2 (by omega)
        · by_cases e : k = ns
          · rw [e, exF_at]; exact t3
          · rw [exF_ne e, t2 k (by omega)]; exact (k4 k (by omega)).1
        · rw [sI_o (by omega), hU, sA_at]
          by_cases e : k = ns
          · subst e
            rw [exF_at] at hi ⊢
            rw [put_in hi, hs.2 i (by omega)]
            exact ⟨rfl, h26 i (by omega)⟩
          · rw [exF_ne e] at hi ⊢
            have := (k1 k).1
            rw [put_out (by omega)]
            exact (k4 k (by omega)).2 i hi
      refine ⟨fun x p q r => ?_, ?_, ?_, hH, HS1_res (fun k => (k1 k).1) hH⟩
      · rw [sI_o p, hU, sA_o r, sI_o q]
      · rw [sI_k (by omega)]; exact u20
      · rw [hU]; rfl
    unfold f_X5_draft_b55 f_X5_draft_b87
    rw [u21, u20, clr7 (by omega), shl1 (by omega), fa_or]
    by_cases e : t = 0
    · rw [if_pos e]
      refine ⟨_, rfl, hgo _ (clr_lt k2) (fun k hk => ?_) ?_⟩
      · rw [clr_bit (by omega) (by omega)]
        have : ¬ k = ns := by omega
        simp [this]
      · rw [clr_bit (by omega) (by omega), ht]
        simp [e]
    · rw [if_neg e]
      refine ⟨_, rfl, hgo _ (Nat.or_lt_two_pow k2 (pow_lt10 hns)) (fun k hk => ?_) ?_⟩
      · rw [fb_bit_set]
        have : ¬ k = ns := by omega
        simp [this]
      · rw [fb_bit_set, ht]
        simp [e]
  refine ok_fx c (fun i v => v = (sA (sI S 3 ns (nI c)) 4 (put_ (S.1 1) (S.1 4) (5 * ns) i), nI i)) ?_ ?_ (FU_gt (by omega)) ?_
  · rintro i v rec hi rfl hrec
    unfold F_X5_draft_b15
    dsimp only
    have e20 : (sA (sI S 3 ns (nI c)) 4 (put_ (S.1 1) (S.1 4) (5 * ns) i)).1 2 0 = nI ns := by rw [sA_o (by omega), sI_o (by omega)]; exact h2
    have e1 : (sA (sI S 3 ns (nI c)) 4 (put_ (S.1 1) (S.1 4) (5 * ns) i)).1 1 i = S.1 1 i := by rw [sA_o (by omega), sI_o (by omega)]
    have i1 : nI ns * (5 : Int32) + nI i = nI (5 * ns + i) := by
      rw [show (5 : Int32) = nI 5 from rfl, pk_mul, nI_add, Nat.mul_comm]
    rw [if_neg (nlt_le hi (by omega)), if_neg (by rw [show (5 : Int32) = nI 5 from rfl, nI_leI (by omega) (by omega)]; omega), read7 _ 1 (by show i < 5; omega) (by decide), bsm, e20, e1, i1, put7 _ 4 _ (show 5 * ns + i < 50 by omega) (by decide), bsm, sA_sI, put_s, nI_1]
    exact hrec _ rfl
  · rintro v rec rfl
    unfold F_X5_draft_b15
    dsimp only
    rw [if_pos (nle_nI _)]
    exact fin _ rfl
  · rw [put_0]
    have : (sI S 3 ns (nI c)).1 4 = S.1 4 := sI_o (by omega)
    rw [← this, sA_self]
    rfl
/-- what writing rows of the next shape leaves of the model -/
def ShR (T T2 : HS) (ns : Nat) : Prop := (∀ x, x ≠ 36 → x ≠ 38 → x ≠ 39 → x ≠ 40 → x ≠ 41 → T2.1 x = T.1 x) ∧ (∀ k, k ≠ 36 → T2.1 36 k = T.1 36 k) ∧ T2.1 36 36 = 0 ∧ (∀ k, k < ns → T2.1 38 k = T.1 38 k ∧ T2.1 39 k = T.1 39 k ∧ T2.1 40 k = T.1 40 k ∧ ∀ i, i < 5 → T2.1 41 (5 * k + i) = T.1 41 (5 * k + i)) ∧ T2.2 = T.2
def adS (T2 : HS) (na ns w : Nat) (q : Nat → Int32) : HS := sI (wrS T2 na (nI w) 0 (nI ns) (q 0) (q 1) (q 2) (q 3)) 36 2 (nI (ns + 1))
theorem adds8 (h2 : T2.1 36 2 = nI ns) (h12 : T2.1 36 12 = nI na) (hna : na < 60) (h36 : T2.1 36 36 = 0) {tr tx ty : Nat → Int32} {fl cn : Int32} {F : HS} (ht : f_X8_tries (nI na) (adS T2 na ns w q) = some (mF (adS T2 na ns w q) tr (nI B.1) (nI B.2.1) fl tx ty, 1)) (hm : f_X8_makes (sI (mF (adS T2 na ns w q) tr (nI B.1) (nI B.2.1) fl tx ty) 36 36 0) = some (F, cn)) (hF : F.1 36 2 = nI (ns + 1)) : f_X8_adds (nI w) (q 0) (q 1) (q 2) (q 3) T2 = some (F, nI ns) := by
  have w2 : (wrS T2 na (nI w) 0 (nI ns) (q 0) (q 1) (q 2) (q 3)).1 36 2 = nI ns := by rw [wrS_o (by omega)]; exact h2
  have d12 : (sI (wrS T2 na (nI w) 0 (nI ns) (q 0) (q 1) (q 2) (q 3)) 36 2 (nI (ns + 1))).1 36 12 = nI na := by rw [sI_k (by omega), wrS_o (by omega)]; exact h12
  have m36 : (mF (adS T2 na ns w q) tr (nI B.1) (nI B.2.1) fl tx ty).1 36 36 = 0 := by
    show (adS T2 na ns w q).1 36 36 = 0
    unfold adS
    rw [sI_k (by omega), wrS_o (by omega)]; exact h36
  rw [sI_same m36] at hm
  unfold f_X8_adds
  rw [h2, writes8 h12 hna, bsm, w2, nI_1, d12]
  show (f_X8_tries (nI na) (adS T2 na ns w q)).bind _ = _
  rw [ht, bsm]
  dsimp only
  rw [hm, bsm]
  dsimp only
  rw [hF, show (1 : Int32) = nI 1 from rfl, pk_sub (by omega), show ns + 1 - 1 = ns by omega]
/-- an addition, by both, from where all tests are passed -/
theorem add_J (h : I0 S sp ns nr na ne nm lt len fr to sj dr ab st lby se trn txt kd dd qq) (hns : ns < 10) (hc : c ≤ sp) (ht : tb = decide (t ≠ 0)) (hq : ∀ w, w < 4 → rngB (q w) w = true) (hq3 : 0 < c → q 3 = 2) (hw : w < 4) {x : Option XO} {y : HS → Option (HS × Int32)} (hx : x = (f_X6_draft (0 : Int32) (nI ns) (q 0) (q 1) (q 2) (q 3) S).bind (fun o58 => (f_X5_draft 1 (nI c) t o58).bind (fun o71 => (f_X7_doDraft (nI w) o71).bind (fun o76 => if o76.2.1 = 0 then some ((sI o76.1 2 0 ((o76.1.1 2 0) + (1 : Int32))), ((0 : Nat), nI ns)) else some (o76.1, (o76.2.1, (0 : Int32))))))) (hy60 : ∀ T : HS, (∀ x, 36 ≤ x → T.1 x = S.1 x) → na = 60 → y T = some (sI T 36 36 3, 0)) (hy : ∀ T : HS, (∀ x, 36 ≤ x → T.1 x = S.1 x) → na < 60 → ∃ T2, ShR T T2 ns ∧ HM1 T2 (ns + 1) (exF len ns c) (exF trn ns tb) (exF txt ns lt) ∧ y T = f_X8_adds (nI w) (q 0) (q 1) (q 2) (q 3) T2) : J (wrp [(1, 1), (2, 2), (3, 3)] x) y := by
  have h0 := h
  obtain ⟨⟨g1, g2⟩, ⟨c1, c2, c3, c4, c5⟩, ⟨m1, m2, m3, m4⟩⟩ := h
  obtain ⟨gW, gA, gT, gK, gL, gB⟩ := g2
  have hna := gT.1
  have hD : DW nr (ns + 1) kd 0 ns q := Or.inl ⟨rfl, by omega, hq⟩
  have hX : XE ns nr (ns + 1) nr len (exF len ns c) trn (exF trn ns tb) txt (exF txt ns lt) kd kd fr fr to to := ⟨by omega, Nat.le_refl _, fun k hk => ⟨exF_ne (by omega), exF_ne (by omega), exF_ne (by omega)⟩, fun _ _ => ⟨rfl, rfl, rfl⟩⟩
  have hRW : RW nr (ns + 1) kd fr to := by
    refine ⟨gW.1, by omega, fun k hk => ?_⟩
    have := gW.2.2 k hk
    omega
  have hD3 : (0 : Int32) = 0 → ∀ a, a < na → dd a = 0 → sj a ≠ ns := fun _ a ha h0 e => by
    have := DW_s (gA.1 a ha).1 h0
    omega
  have hD2 : (0 : Int32) = 0 → lbL (exF len ns c) ns = true → q 3 = 2 := fun _ hl => by
    unfold lbL at hl
    rw [exF_at] at hl
    exact hq3 (of_decide_eq_true hl)
  obtain ⟨D1, hDr, hDF, hTA⟩ := draft6 c2.2.2.2.2.2.1 hna 0 ns q
  have cO1 := OC_DF hDF c2
  obtain ⟨D, hD5, d1, d20, d2, dH, dH0⟩ := draft5 (t := t) (tb := tb) (c := c) (sp := sp) (lt := lt) cO1.1 hns cO1.2.2.1 (SC_fr (fun x p => hDF.1 x (by omega) (by omega) (by omega)) c1) g1.1 g1.2.1 hc ht
  rw [hx, hDr, bsm, hD5, bsm]
  have df : ∀ x, x < 2 ∨ 16 ≤ x → D.1 x = S.1 x := fun x p => by rw [d1 x (by omega) (by omega) (by omega), hDF.1 x (by omega) (by omega) (by omega)]
  have hTA' : na < 60 → TA D na 0 ns q := fun e => by
    have := hTA e
    unfold TA at this ⊢
    rw [d1 10 (by omega) (by omega) (by omega), d1 11 (by omega) (by omega) (by omega), d1 12 (by omega) (by omega) (by omega)]
    exact this
  have cO : OC D ns nr na len trn txt kd fr to dd sj qq dr ab st := by
    obtain ⟨k1, k2, k3, k4, k5, k6⟩ := cO1
    refine ⟨d20, by rw [d1 5 (by omega) (by omega) (by omega)]; exact k2, dH0, ?_, fun a ha => ?_, ?_⟩
    · unfold RC at k4 ⊢
      rw [d1 6 (by omega) (by omega) (by omega), d1 7 (by omega) (by omega) (by omega), d1 8 (by omega) (by omega) (by omega)]; exact k4
    · have := k5 a ha
      unfold TA at this ⊢
      rw [d1 10 (by omega) (by omega) (by omega), d1 11 (by omega) (by omega) (by omega), d1 12 (by omega) (by omega) (by omega)]; exact this
    · unfold CT at k6 ⊢
      rw [d1 9 (by omega) (by omega) (by omega), d1 13 (by omega) (by omega) (by omega), d1 14 (by omega) (by omega) (by omega), d1 15 (by omega) (by omega) (by omega)]; exact k6
  rcases cact h0 hX hRW hD hw df (d2.trans hDF.2.2) cO hTA' cO.2.2.2.1 dH with ⟨e, hx, hID⟩ | ⟨e, hst, r, hr, e2, hIr, kr⟩ | ⟨e, B, hst, r, hr, e2, k1, k2, k3, k4, k5, k6, k7, -, -⟩
  · exact J_ex (S1 := D) (v := 0) (c := 3) (k := 3) (w := 0) (by rw [hx]; rfl) (by decide) (by decide) (fun v => rfl) (hy60 D (fun x p => df x (by omega)) e) (I0_inv hID)
  · exfalso
    obtain ⟨C, c1, -⟩ := stp_yes (kd := kd) (fr := fr) (to := to) (lb := lbL (exF len ns c)) (A := (rep kd fr to (lbL len) dd sj qq (cset st ab) na).1) (d := 0) (s := ns) (q := q) ⟨((rep kd fr to (lbL len) dd sj qq (cset st ab) na).1.1 ||| 2 ^ ns, (rep kd fr to (lbL len) dd sj qq (cset st ab) na).1.2.1, fun k w => if k = ns then q w else (rep kd fr to (lbL len) dd sj qq (cset st ab) na).1.2.2.1 k w, (rep kd fr to (lbL len) dd sj qq (cset st ab) na).1.2.2.2), Does0.mpr ⟨rfl, rfl, fun _ _ _ _ => rfl, fun _ _ _ _ _ => rfl⟩⟩
    rw [hst] at c1
    cases c1
  · refine J_ok ⟨(sI r.1 2 0 (nI (ns + 1)), (0, nI ns)), by rw [hr, bsm, e2]; dsimp only; rw [if_pos rfl, k3.1, nI_1], rfl, ?_⟩
    dsimp only
    obtain ⟨hT1, hT2, hT3, hT6⟩ := sL_all (U := sI r.1 2 0 (nI (ns + 1))) (v := (nI ns).toInt64)
    generalize sL (sI r.1 2 0 (nI (ns + 1))) 60 0 (nI ns).toInt64 = T at hT1 hT2 hT3 hT6 ⊢
    have hTf : ∀ x, 36 ≤ x → T.1 x = S.1 x := fun x p => by rw [hT1, sI_o (by omega), k1 x p]
    obtain ⟨T2, ⟨s1, s2, s3, s4, s5⟩, hHM, hyT⟩ := hy T hTf e
    have t2 : T2.1 36 2 = nI ns := by rw [s2 2 (by omega), hTf 36 (by omega)]; exact m2.2.1.2.1
    have t12 : T2.1 36 12 = nI na := by rw [s2 12 (by omega), hTf 36 (by omega)]; exact m2.2.2.2.2.1
    have uo : ∀ x, 36 ≤ x → x ≠ 36 → x ≠ 38 → x ≠ 39 → x ≠ 40 → x ≠ 41 → x ≠ 46 → x ≠ 48 → x ≠ 49 → x ≠ 50 → (adS T2 na ns w q).1 x = S.1 x := fun x p a b c d e f g h i => by
      unfold adS
      rw [sI_o a, wrS_o ⟨f, g, h, i⟩, s1 x a b c d e, hTf x p]
    have uh : ∀ x, 38 ≤ x → x < 42 → (adS T2 na ns w q).1 x = T2.1 x := fun x p p2 => by
      unfold adS
      rw [sI_o (by omega), wrS_o (by omega)]
    have uk : ∀ k, k ≠ 2 → k ≠ 36 → (adS T2 na ns w q).1 36 k = S.1 36 k := fun k a b => by
      unfold adS
      rw [sI_k a, wrS_o (by omega), s2 k b, hTf 36 (by omega)]
    have u362 : (adS T2 na ns w q).1 36 2 = nI (ns + 1) := by
      unfold adS
      exact sI_at
    have mT : MT (adS T2 na ns w q) na dr ab st := by
      obtain ⟨n1, n2, n3⟩ := m2.2.2.2.2
      refine ⟨by rw [uk 12 (by omega) (by omega)]; exact n1, fun k hk => ⟨?_, ?_⟩, ?_⟩
      · unfold adS
        rw [sI_o (by omega), wrS_46, if_neg (by omega), s1 46 (by omega) (by omega) (by omega) (by omega) (by omega), hTf 46 (by omega)]
        exact (n2 k hk).1
      · rw [uo 47 (by omega) (by omega) (by omega) (by omega) (by omega) (by omega) (by omega) (by omega) (by omega) (by omega)]; exact (n2 k hk).2
      · rw [uo 52 (by omega) (by omega) (by omega) (by omega) (by omega) (by omega) (by omega) (by omega) (by omega) (by omega)]; exact n3
    have m46 : (adS T2 na ns w q).1 46 na = nI w := by
      unfold adS
      rw [sI_o (by omega), wrS_46, if_pos rfl]
    have m51 : ∀ a, a < na → (adS T2 na ns w q).1 51 a = bI ((rep kd fr to (lbL len) dd sj qq (cset st ab) na).2.testBit a) := by
      rw [uo 51 (by omega) (by omega) (by omega) (by omega) (by omega) (by omega) (by omega) (by omega) (by omega) (by omega)]
      exact m3.2
    have mB : MB (adS T2 na ns w q) kd (rep kd fr to (lbL len) dd sj qq (cset st ab) na).1 := MB_fr (fun x p p2 => uo x (by omega) (by omega) (by omega) (by omega) (by omega) (by omega) (by omega) (by omega) (by omega) (by omega)) (fun k hk => uk k (by omega) (by omega)) m3.1
    have mC : MC (adS T2 na ns w q) nr nr (ns + 1) kd fr to (lbL (exF len ns c)) := by
      obtain ⟨n1, n2, n3, n4, n5, n6, n7⟩ := m2.2.1
      refine ⟨by rw [uk 7 (by omega) (by omega)]; exact n1, u362, n3, n4, by omega, ?_, fun k hk => ?_⟩
      · rw [uo 42 (by omega) (by omega) (by omega) (by omega) (by omega) (by omega) (by omega) (by omega) (by omega) (by omega), uo 43 (by omega) (by omega) (by omega) (by omega) (by omega) (by omega) (by omega) (by omega) (by omega) (by omega), uo 44 (by omega) (by omega) (by omega) (by omega) (by omega) (by omega) (by omega) (by omega) (by omega) (by omega)]
        exact n6
      · rw [uh 38 (by omega) (by omega)]
        exact (hHM k hk).1
    have mTM : TM (adS T2 na ns w q) na 0 ns q := TM_fr2 (fun x p p2 => by unfold adS; exact sI_o (by omega)) (wrS_new (S := T2) (na := na) (s := ns) (w := nI w) (d := 0) (a := q 0) (b := q 1) (c := q 2) (e := q 3) ⟨fun _ => ⟨rfl, rfl, rfl, rfl⟩, fun e => absurd e (by decide), fun e => absurd e (by decide)⟩)
    have mS : SM (adS T2 na ns w q) sp lt := SM_fr (uk 0 (by omega) (by omega)) (uo 37 (by omega) (by omega) (by omega) (by omega) (by omega) (by omega) (by omega) (by omega) (by omega) (by omega)) m1
    have mE : EM (adS T2 na ns w q) ne nm (fun e => (rep kd fr to (lbL len) dd sj qq (se e) na).1) := EM_fr (fun x p p2 => uo x (by omega) (by omega) (by omega) (by omega) (by omega) (by omega) (by omega) (by omega) (by omega) (by omega)) (fun k hk => uk k (by omega) (by omega)) m4
    obtain ⟨tr, fl, tx, ty, htr, hgo⟩ := mgood h0 hX hRW hD hD2 hD3 e hw hst mT m46 m51 mB mC mTM mS mE
    obtain ⟨F, hF, -, f2, f3, -, f5, f6, f7, f8, f9, f10, f11⟩ := hgo _ rfl
    have hF2 : F.1 36 2 = nI (ns + 1) := by rw [f6 2 (by omega)]; exact u362
    rw [hyT, adds8 t2 t12 e s3 htr hF hF2]
    refine ⟨_, rfl, f2, by rw [f3]; show T2.2.1 60 0 = _; rw [s5]; exact hT6, rfl, ?_⟩
    have fc : ∀ x, x < 36 → F.1 x = (sI r.1 2 0 (nI (ns + 1))).1 x := fun x p => by
      rw [f5 x (by omega) (by omega) (by omega) (by omega) (by omega) (by omega) (by omega) (by omega)]
      unfold adS
      rw [sI_o (by omega), wrS_o (by omega), s1 x (by omega) (by omega) (by omega) (by omega) (by omega), hT1]
    have r5 : ∀ x, x ≠ 2 → (sI r.1 2 0 (nI (ns + 1))).1 x = r.1.1 x := fun x p => sI_o p
    obtain ⟨z1, z2, z3, z4, z5⟩ := cls_mv (R := sI r.1 2 0 (nI (ns + 1))) (F := F) (sp := sp) (ns := ns + 1) (nr := nr) (na := na + 1) (ne := ne) (nm := nm) (V := (rep kd fr to (lbL len) dd sj qq (cset st ab) na).2) (lt := lt) (len := exF len ns c) (fr := fr) (to := to) (sj := exF sj na ns) (dr := exF dr na w) (ab := exF ab na (st w)) (st := stA st w (na + 1)) (se := se) (trn := exF trn ns tb) (txt := exF txt ns lt) (kd := kd) (dd := exF dd na 0) (qq := exF qq na q) (A := B) (X := fun e => TX (rep kd fr to (lbL len) dd sj qq (se e) na).1 len trn txt) fc (fun x p => by rw [f3]; show T2.2.1 x = _; rw [s5]; exact hT3 x p) (by rw [f3]; show T2.2.2 = _; rw [s5]; exact hT2)
    refine I0_next (lby' := lby) g1 ⟨gW, gA, gT, gK, gL, gB⟩ hX hRW hw e hD hD2 hD3 gK (fun k hk => by have := gL k hk; omega) (fun v => ?_) hst (z1 (SC_fr (fun x p => r5 x (by omega)) k2)) (z2 ⟨sI_at, ?_, ?_, ?_, fun a0 ha0 => ?_, ?_⟩) (z3 (BC_fr (fun x p _ => r5 x (by omega)) rfl rfl k4)) (z4 (BN_fr rfl k5)) (z5 (EC_fr (fun x p => r5 x (by omega)) (by rw [r5 35 (by omega)]; exact k6.2.2.2.2) rfl k6)) f7 ⟨?_, f11, ?_, fun a0 ha0 => ?_, f10⟩ f9 f8
    · rw [fb_ct_succ, exF_at, ← gB v]
      have : decide ((0 : Int32) = 3) = false := by decide
      rw [this, Bool.and_false]
      refine Eq.trans (Nat.add_zero _) (fb_ct_cong (fun k hk => ?_))
      rw [exF_ne (by omega)]
    · rw [r5 5 (by omega)]; exact k3.2.1
    · have k33 := k3.2.2.1
      unfold HS1 at k33 ⊢
      rw [r5 3 (by omega), r5 4 (by omega), sI_k (by omega)]; exact k33
    · have k33 := k3.2.2.2.1
      unfold RC at k33 ⊢
      rw [r5 6 (by omega), r5 7 (by omega), r5 8 (by omega)]; exact k33
    · have k33 := k3.2.2.2.2.1 a0 ha0
      unfold TA at k33 ⊢
      rw [r5 10 (by omega), r5 11 (by omega), r5 12 (by omega)]; exact k33
    · have k33 := k3.2.2.2.2.2
      unfold CT at k33 ⊢
      rw [r5 9 (by omega), r5 13 (by omega), r5 14 (by omega), r5 15 (by omega)]; exact k33
    · refine HM1_fr (fun x p p2 => ?_) hHM
      rw [f5 x (by omega) (by omega) (by omega) (by omega) (by omega) (by omega) (by omega) (by omega), uh x p p2]
    · rw [f5 45 (by omega) (by omega) (by omega) (by omega) (by omega) (by omega) (by omega) (by omega), uo 45 (by omega) (by omega) (by omega) (by omega) (by omega) (by omega) (by omega) (by omega) (by omega) (by omega)]
      exact m2.2.2.1
    · have hfr : ∀ x, 48 ≤ x → x < 51 → F.1 x = (adS T2 na ns w q).1 x := fun x p p2 => f5 x (by omega) (by omega) (by omega) (by omega) (by omega) (by omega) (by omega) (by omega)
      by_cases ea : a0 = na
      · rw [ea, exF_at, exF_at, exF_at]
        exact TM_fr2 hfr mTM
      · rw [exF_ne ea, exF_ne ea, exF_ne ea]
        refine TM_fr2 hfr (TM_fr2 (fun x p p2 => by unfold adS; exact sI_o (by omega)) (wrS_TM (show a0 < na by omega) (TM_fr2 (fun x p p2 => ?_) (m2.2.2.2.1 a0 (by omega)))))
        rw [s1 x (by omega) (by omega) (by omega) (by omega) (by omega), hTf x (by omega)]
end
