/-! the model writes an act, tries and makes it -/
def wrS (S : HS) (na : Nat) (w d s a b c e : Int32) : HS := sI (sI (sI (sI (sI (sI (sI S 46 na w) 48 na d) 49 na s) 50 (4 * na) a) 50 (4 * na + 1) b) 50 (4 * na + 2) c) 50 (4 * na + 3) e
theorem w46 {S : HS} {k : Nat} {v : Int32} : (sI S 46 k v).1 36 = S.1 36 := sI_o (by omega)
theorem w47 {S : HS} {k : Nat} {v : Int32} : (sI S 47 k v).1 36 = S.1 36 := sI_o (by omega)
theorem w48 {S : HS} {k : Nat} {v : Int32} : (sI S 48 k v).1 36 = S.1 36 := sI_o (by omega)
theorem w49 {S : HS} {k : Nat} {v : Int32} : (sI S 49 k v).1 36 = S.1 36 := sI_o (by omega)
theorem w50 {S : HS} {k : Nat} {v : Int32} : (sI S 50 k v).1 36 = S.1 36 := sI_o (by omega)
theorem w51 {S : HS} {k : Nat} {v : Int32} : (sI S 51 k v).1 36 = S.1 36 := sI_o (by omega)
theorem w52 {S : HS} {k : Nat} {v : Int32} : (sI S 52 k v).1 36 = S.1 36 := sI_o (by omega)
theorem nI_p3 {x : Nat} : nI x + (3 : Int32) = nI (x + 3) := by rw [show (3 : Int32) = nI 3 from rfl, nI_add]
theorem nI_x4 {x : Nat} : (4 : Int32) * nI x = nI (4 * x) := by rw [show (4 : Int32) = nI 4 from rfl, pk_mul]
theorem writes8 {S : HS} {na : Nat} (h : S.1 36 12 = nI na) (hna : na < 60) (w d s a b c e : Int32) : f_X8_writes w d s a b c e S = some (wrS S na w d s a b c e) := by
  unfold f_X8_writes
  simp only [w46, w48, w49, w50, h, nI_x4, nI_1, nI_p2, nI_p3, if_pos (ib_nI hna (show 60 < 2 ^ 31 by omega)), if_pos (ib_nI (show 4 * na < 240 by omega) (show 240 < 2 ^ 31 by omega)), if_pos (ib_nI (show 4 * na + 1 < 240 by omega) (show 240 < 2 ^ 31 by omega)), if_pos (ib_nI (show 4 * na + 2 < 240 by omega) (show 240 < 2 ^ 31 by omega)), if_pos (ib_nI (show 4 * na + 3 < 240 by omega) (show 240 < 2 ^ 31 by omega)), nI_cl (show na < 2 ^ 31 by omega), nI_cl (show 4 * na < 2 ^ 31 by omega), nI_cl (show 4 * na + 1 < 2 ^ 31 by omega), nI_cl (show 4 * na + 2 < 2 ^ 31 by omega), nI_cl (show 4 * na + 3 < 2 ^ 31 by omega)]
  rfl
theorem wrS_o {S : HS} {na x : Nat} {w d s a b c e : Int32} (h : x ≠ 46 ∧ x ≠ 48 ∧ x ≠ 49 ∧ x ≠ 50) : (wrS S na w d s a b c e).1 x = S.1 x := by
  obtain ⟨h1, h2, h3, h4⟩ := h
  unfold wrS
  rw [sI_o h4, sI_o h4, sI_o h4, sI_o h4, sI_o h3, sI_o h2, sI_o h1]
theorem wrS_2 {S : HS} {na : Nat} {w d s a b c e : Int32} : (wrS S na w d s a b c e).2 = S.2 := rfl
theorem wrS_46 {S : HS} {na k : Nat} {w d s a b c e : Int32} : (wrS S na w d s a b c e).1 46 k = if k = na then w else S.1 46 k := by
  unfold wrS
  rw [sI_o (by omega), sI_o (by omega), sI_o (by omega), sI_o (by omega), sI_o (by omega), sI_o (by omega)]
  by_cases e : k = na
  · rw [if_pos e, e, sI_at]
  · rw [if_neg e, sI_k e]
theorem wrS_TM {S : HS} {na k : Nat} {w d s a b c e : Int32} {d' : Int32} {s' : Nat} {q' : Nat → Int32} (hk : k < na) (h : TM S k d' s' q') : TM (wrS S na w d s a b c e) k d' s' q' := by
  have e48 : (wrS S na w d s a b c e).1 48 k = S.1 48 k := by
    unfold wrS
    rw [sI_o (by omega), sI_o (by omega), sI_o (by omega), sI_o (by omega), sI_o (by omega), sI_k (by omega), sI_o (by omega)]
  have e49 : (wrS S na w d s a b c e).1 49 k = S.1 49 k := by
    unfold wrS
    rw [sI_o (by omega), sI_o (by omega), sI_o (by omega), sI_o (by omega), sI_k (by omega), sI_o (by omega), sI_o (by omega)]
  have e50 : ∀ t, t < 4 * na → (wrS S na w d s a b c e).1 50 t = S.1 50 t := fun t ht => by
    unfold wrS
    rw [sI_k (by omega), sI_k (by omega), sI_k (by omega), sI_k (by omega), sI_o (by omega), sI_o (by omega), sI_o (by omega)]
  obtain ⟨h1, h2, h3, h4, h5⟩ := h
  refine ⟨by rw [e48]; exact h1, by rw [e49]; exact h2, fun q w hw => ?_, fun q => ?_, fun q => ?_⟩
  · rw [e50 _ (by omega)]; exact h3 q w hw
  · rw [e50 _ (by omega), e50 _ (by omega)]; exact h4 q
  · rw [e50 _ (by omega), e50 _ (by omega)]; exact h5 q
theorem wrS_new {S : HS} {na s : Nat} {w d a b c e : Int32} {q : Nat → Int32} (h : (d = 0 → q 0 = a ∧ q 1 = b ∧ q 2 = c ∧ q 3 = e) ∧ (d = 1 → q 0 = a ∧ q 1 = b) ∧ (d = 2 → q 2 = a ∧ q 3 = b)) : TM (wrS S na w d (nI s) a b c e) na d s q := by
  have e48 : (wrS S na w d (nI s) a b c e).1 48 na = d := by
    unfold wrS
    rw [sI_o (by omega), sI_o (by omega), sI_o (by omega), sI_o (by omega), sI_o (by omega), sI_at]
  have e49 : (wrS S na w d (nI s) a b c e).1 49 na = nI s := by
    unfold wrS
    rw [sI_o (by omega), sI_o (by omega), sI_o (by omega), sI_o (by omega), sI_at]
  have f0 : (wrS S na w d (nI s) a b c e).1 50 (4 * na) = a := by
    unfold wrS
    rw [sI_k (by omega), sI_k (by omega), sI_k (by omega), sI_at]
  have f1 : (wrS S na w d (nI s) a b c e).1 50 (4 * na + 1) = b := by
    unfold wrS
    rw [sI_k (by omega), sI_k (by omega), sI_at]
  have f2 : (wrS S na w d (nI s) a b c e).1 50 (4 * na + 2) = c := by
    unfold wrS
    rw [sI_k (by omega), sI_at]
  have f3 : (wrS S na w d (nI s) a b c e).1 50 (4 * na + 3) = e := by
    unfold wrS
    rw [sI_at]
  obtain ⟨h1, h2, h3⟩ := h
  refine ⟨e48, e49, fun q w hw => ?_, fun q => ?_, fun q => ?_⟩
  · obtain ⟨q0, q1, q2, q3⟩ := h1 q
    match w, hw with
    | 0, _ => rw [q0]; exact f0
    | 1, _ => rw [q1]; exact f1
    | 2, _ => rw [q2]; exact f2
    | 3, _ => rw [q3]; exact f3
  · obtain ⟨q0, q1⟩ := h2 q
    rw [f0, f1]
    exact ⟨q0.symm, q1.symm⟩
  · obtain ⟨q0, q1⟩ := h3 q
    rw [f0, f1]
    exact ⟨q0.symm, q1.symm⟩
section
variable {S : HS} {nm nr ns na : Nat} {kd : Nat → Int32} {fr to : Nat → Nat} {lb : Nat → Bool} {A : AB} {d : Int32} {s : Nat} {q : Nat → Int32}
theorem try8 (hB : MB S kd A) (hM : MC S nm nr ns kd fr to lb) (hW : RW nr ns kd fr to) (hA : AI kd fr to lb ns nm A) (hna : na < 60) (hTM : TM S na d s q) (hD : DW nr ns kd d s q) : (stp kd fr to lb d s q A = none → Ok (f_X8_tries (nI na) S) (fun r => r.2 = 0 ∧ ∃ tr tt tf fl, r.1 = mF S tr tt tf fl (S.1 54) (S.1 55))) ∧ (∀ B, stp kd fr to lb d s q A = some B → Ok (f_X8_tries (nI na) S) (fun r => r.2 = 1 ∧ ∃ tr fl tx ty, r.1 = mF S tr (nI B.1) (nI B.2.1) fl tx ty ∧ rpN B.1 B.2.2.1 tr ∧ rpM kd B.2.1 B.2.2.2 tx ty ∧ OUM S d A tr)) := by
  obtain ⟨r, hr, tr, tt, tf, fl, tx, ty, ok, rfl, k1, k2, k3⟩ := tries8 hB hM hW hA hna hTM hD
  have hAr : AI kd fr to lb ns nr A := AI_mono hA hM.2.2.1
  constructor
  · intro hn
    cases ok with
    | true =>
      obtain ⟨B, b1, -⟩ := k1 rfl
      obtain ⟨C, c1, -⟩ := stp_yes ⟨B, b1⟩
      rw [c1] at hn
      cases hn
    | false =>
      obtain ⟨n1, n2, n3⟩ := k2 rfl
      subst n2 n3
      exact ⟨_, hr, rfl, tr, tt, tf, fl, rfl⟩
  · intro C hC
    cases ok with
    | false => exact absurd ⟨C, stp_does hC⟩ (k2 rfl).1
    | true =>
      obtain ⟨B, b1, b2, b3, b4, b5⟩ := k1 rfl
      obtain ⟨e1, e2, e3, e4⟩ := Does_uniq hW hAr b1 (stp_does hC)
      refine ⟨_, hr, rfl, tr, fl, tx, ty, by rw [b2, b3, e1, e2], fun k w hk hw => ?_, fun j hj h6 => ?_, k3⟩
      · rw [← e1] at hk
        rw [b4 k w hk hw, e3 k w hk hw]
      · rw [← e2] at hj
        rw [e4 j 0 hj h6 (by omega), e4 j 1 hj h6 (by omega)]
        exact b5 j hj h6
def mkS (S : HS) (na w : Nat) : HS := sI (sI (sI (sI S 47 na (S.1 52 w)) 51 na 0) 52 w (nI na)) 36 12 (nI (na + 1))
theorem mkS_o {w x : Nat} (h : x ≠ 36 ∧ x ≠ 47 ∧ x ≠ 51 ∧ x ≠ 52) : (mkS S na w).1 x = S.1 x := by
  obtain ⟨h1, h2, h3, h4⟩ := h
  unfold mkS
  rw [sI_o h1, sI_o h4, sI_o h3, sI_o h2]
theorem mkS_k {w k : Nat} (h : k ≠ 12) : (mkS S na w).1 36 k = S.1 36 k := by
  unfold mkS
  rw [sI_k h, sI_o (by omega), sI_o (by omega), sI_o (by omega)]
theorem makes8 {w : Nat} (h12 : S.1 36 12 = nI na) (hna : na < 60) (h46 : S.1 46 na = nI w) (hw : w < 4) (h2 : S.1 36 2 = nI ns) (hns : ns ≤ 10) : f_X8_makes S = some (tkS (mkS S na w) ns, nI (fb_ct (dif (S.1 53) (S.1 56)) ns)) := by
  have hn : vp_nar .boolean (0 : Int32) = 0 := by decide
  unfold f_X8_makes
  simp only [w47, w51, w52, h12, h46, hn, if_pos (ib_nI hna (show 60 < 2 ^ 31 by omega)), if_pos (ib_nI hw (show 4 < 2 ^ 31 by omega)), nI_cl (show na < 2 ^ 31 by omega), nI_cl (show w < 2 ^ 31 by omega), nI_1]
  have e : f_X8_takes (mkS S na w) = some (tkS (mkS S na w) ns, nI (fb_ct (dif (S.1 53) (S.1 56)) ns)) := by
    rw [takes8 (T := mkS S na w) (by rw [mkS_k (by omega)]; exact h2) hns, mkS_o (by omega), mkS_o (by omega)]
  show (f_X8_takes (mkS S na w)).bind _ = _
  rw [e, bsm]
theorem tkS_MB2 {T : HS} {B : AB} (hth : ∀ k, B.1.testBit k = true → k < ns) (h1 : T.1 36 25 = nI B.1) (h2 : T.1 36 27 = nI B.2.1) (h3 : rpN B.1 B.2.2.1 (T.1 56)) (h4 : rpM kd B.2.1 B.2.2.2 (T.1 54) (T.1 55)) : MB (tkS T ns) kd B := by
  refine ⟨?_, ?_, fun k w hk hw => ?_, fun j hj h6 => ?_⟩
  · unfold tkS
    rw [sI_k (by omega), sI_at]
    exact h1
  · unfold tkS
    rw [sI_at]
    exact h2
  · unfold tkS
    rw [sI_o (by omega), sI_o (by omega), sA_at]
    have := hth k hk
    unfold tkn
    rw [if_pos (by omega)]
    exact h3 k w hk hw
  · unfold tkS
    rw [sI_o (by omega), sI_o (by omega), sA_o (by omega), sI_o (by omega), sI_o (by omega), sA_o (by omega)]
    exact h4 j hj h6
/-- what making an act leaves of the model -/
theorem mk_done {D U : HS} {dr ab st : Nat → Nat} {w : Nat} {dd : Nat → Int32} {sj : Nat → Nat} {qq : Nat → Nat → Int32} {V : Nat} {B : AB} {fl v : Int32} {tr tx ty : Nat → Int32} (gT : TWF na dr ab st) (hna : na < 60) (hw : w < 4) (hT : MT D na dr ab st) (h46 : D.1 46 na = nI w) (h51 : ∀ a, a < na → D.1 51 a = bI (V.testBit a)) (hV : V < 2 ^ na) (h2 : D.1 36 2 = nI ns) (hns : ns ≤ 10) (hth : ∀ k, B.1.testBit k = true → k < ns) (h3 : rpN B.1 B.2.2.1 tr) (h4 : rpM kd B.2.1 B.2.2.2 tx ty) (hU : U = sI (mF D tr (nI B.1) (nI B.2.1) fl tx ty) 36 36 v) : f_X8_makes U = some (tkS (mkS U na w) ns, nI (fb_ct (dif (D.1 53) tr) ns)) ∧ MT (tkS (mkS U na w) ns) (na + 1) (exF dr na w) (exF ab na (st w)) (stA st w (na + 1)) ∧ BM (tkS (mkS U na w) ns) kd (na + 1) B V ∧ (∀ x, x < 36 ∨ 36 < x → x ≠ 47 → x ≠ 51 → x ≠ 52 → x ≠ 53 → x ≠ 54 → x ≠ 55 → x ≠ 56 → (tkS (mkS U na w) ns).1 x = D.1 x) ∧ (∀ k, k ≠ 12 → k ≠ 20 → k ≠ 22 → k ≠ 25 → k ≠ 27 → k ≠ 28 → k ≠ 36 → (tkS (mkS U na w) ns).1 36 k = D.1 36 k) ∧ (tkS (mkS U na w) ns).1 36 36 = v ∧ (tkS (mkS U na w) ns).2 = D.2 := by
  have uo : ∀ x, x ≠ 36 → x ≠ 54 → x ≠ 55 → x ≠ 56 → U.1 x = D.1 x := fun x a b c d => by
    rw [hU, sI_o a]
    unfold mF
    dsimp only
    rw [if_neg a, if_neg d, if_neg b, if_neg c]
  have uk : ∀ k, k ≠ 36 → k ≠ 25 → k ≠ 27 → k ≠ 28 → U.1 36 k = D.1 36 k := fun k a b c d => by
    rw [hU, sI_k a]
    unfold mF
    dsimp only
    rw [if_pos rfl, if_neg b, if_neg c, if_neg d]
  have u56 : U.1 56 = tr := by rw [hU, sI_o (by omega)]; rfl
  have u54 : U.1 54 = tx := by rw [hU, sI_o (by omega)]; rfl
  have u55 : U.1 55 = ty := by rw [hU, sI_o (by omega)]; rfl
  have u25 : U.1 36 25 = nI B.1 := by rw [hU, sI_k (by omega)]; rfl
  have u27 : U.1 36 27 = nI B.2.1 := by rw [hU, sI_k (by omega)]; rfl
  have u36 : U.1 36 36 = v := by rw [hU, sI_at]
  have u2 : U.2 = D.2 := by rw [hU]; rfl
  have u52 : U.1 52 w = cI (st w) := by rw [uo 52 (by omega) (by omega) (by omega) (by omega)]; exact hT.2.2 w hw
  obtain ⟨f1, f2, f3⟩ := tkS_fr (T := mkS U na w) (ns := ns)
  refine ⟨?_, ⟨?_, fun k hk => ⟨?_, ?_⟩, fun x hx => ?_⟩, ⟨tkS_MB2 hth ?_ ?_ ?_ ?_, fun a ha => ?_⟩, fun x h1 a b c d e f g => ?_, fun k a b c d e f g => ?_, ?_, ?_⟩
  · rw [makes8 (w := w) (by rw [uk 12 (by omega) (by omega) (by omega) (by omega)]; exact hT.1) hna (by rw [uo 46 (by omega) (by omega) (by omega) (by omega)]; exact h46) hw (by rw [uk 2 (by omega) (by omega) (by omega) (by omega)]; exact h2) hns, u56, uo 53 (by omega) (by omega) (by omega) (by omega)]
  · rw [f2 12 (by omega) (by omega) (by omega) (by omega) (by omega)]
    unfold mkS
    rw [sI_at]
  · rw [f1 46 (by omega) (by omega) (by omega) (by omega) (by omega) (by omega), mkS_o (by omega), uo 46 (by omega) (by omega) (by omega) (by omega)]
    by_cases e : k = na
    · rw [e, h46, exF_at]
    · rw [exF_ne e]; exact (hT.2.1 k (by omega)).1
  · rw [f1 47 (by omega) (by omega) (by omega) (by omega) (by omega) (by omega)]
    unfold mkS
    rw [sI_o (by omega), sI_o (by omega), sI_o (by omega)]
    by_cases e : k = na
    · rw [e, sI_at, exF_at]; exact u52
    · rw [sI_k e, exF_ne e, uo 47 (by omega) (by omega) (by omega) (by omega)]; exact (hT.2.1 k (by omega)).2
  · rw [f1 52 (by omega) (by omega) (by omega) (by omega) (by omega) (by omega)]
    unfold mkS stA
    rw [sI_o (by omega)]
    by_cases e : x = w
    · rw [e, sI_at, if_pos rfl]; rfl
    · rw [sI_k e, if_neg e, sI_o (by omega), sI_o (by omega), uo 52 (by omega) (by omega) (by omega) (by omega)]; exact hT.2.2 x hx
  · rw [mkS_k (by omega)]; exact u25
  · rw [mkS_k (by omega)]; exact u27
  · rw [mkS_o (by omega), u56]; exact h3
  · rw [mkS_o (by omega), mkS_o (by omega), u54, u55]; exact h4
  · have e51 : (tkS (mkS U na w) ns).1 51 a = if a = na then 0 else D.1 51 a := by
      unfold tkS mkS
      rw [sI_o (by omega), sI_o (by omega), sA_o (by omega), sI_o (by omega), sI_o (by omega)]
      by_cases e : a = na
      · rw [e, sI_at, if_pos rfl]
      · rw [sI_k e, if_neg e, sI_o (by omega), uo 51 (by omega) (by omega) (by omega) (by omega)]
    rw [e51]
    by_cases e : a = na
    · rw [if_pos e, e, V_out hV (Nat.le_refl _)]; rfl
    · rw [if_neg e]; exact h51 a (by omega)
  · rw [f1 x (by omega) b d e f g, mkS_o (by omega), uo x (by omega) e f g]
  · rw [f2 k b c d e f, mkS_k a, uk k g d e f]
  · rw [f2 36 (by omega) (by omega) (by omega) (by omega) (by omega), mkS_k (by omega), u36]
  · rw [f3]
    show U.2 = D.2
    exact u2
/-- counts of changed shapes are the same in the class and the model -/
theorem cnt_eq {D : HS} {A B : AB} {tr : Nat → Int32} (hAth : ∀ k, A.1.testBit k = true → k < ns) (hns : ns ≤ 10) (hN : rpN A.1 A.2.2.1 (D.1 53)) (hB : B.1 = A.1) (h3 : rpN B.1 B.2.2.1 tr) (hO : OUM D d A tr) (hd : d = 1 ∨ d = 2) : fb_ct (dif (D.1 53) tr) ns = fb_ct (fun k => A.1.testBit k && dfA A B k) 10 := by
  have e1 : fb_ct (fun k => A.1.testBit k && dfA A B k) 10 = fb_ct (fun k => A.1.testBit k && dfA A B k) ns := ct_ext (fun k hk => by
    cases e : A.1.testBit k with
    | false => rfl
    | true => exact absurd (hAth k e) (by omega)) hns
  rw [e1]
  refine fb_ct_cong (fun k hk => ?_)
  cases e : A.1.testBit k with
  | true =>
    have a : ∀ w, w < 4 → D.1 53 (4 * k + w) = A.2.2.1 k w := fun w hw => hN k w e hw
    have c : ∀ w, w < 4 → tr (4 * k + w) = B.2.2.1 k w := fun w hw => h3 k w (by rw [hB]; exact e) hw
    have a0 := a 0 (by omega)
    have c0 := c 0 (by omega)
    rw [Nat.add_zero] at a0 c0
    unfold dif dfA
    rw [a0, a 1 (by omega), a 2 (by omega), a 3 (by omega), c0, c 1 (by omega), c 2 (by omega), c 3 (by omega), Bool.true_and]
  | false =>
    have a : ∀ w, w < 4 → tr (4 * k + w) = D.1 53 (4 * k + w) := fun w hw => hO hd k w (by omega) hw e
    have a0 := a 0 (by omega)
    rw [Nat.add_zero] at a0
    unfold dif
    rw [a0, a 1 (by omega), a 2 (by omega), a 3 (by omega)]
    simp
end
