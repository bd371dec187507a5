/-! the class's acts on its trial board -/
def rpN (th : Nat) (N : Nat → Nat → Int32) (num : Nat → Int32) : Prop := ∀ k w, th.testBit k = true → w < 4 → num (4 * k + w) = N k w
def rpT (kd : Nat → Int32) (fo : Nat) (T : Nat → Nat → Int32) (tie : Nat → Int32) : Prop := ∀ j w, fo.testBit j = true → kd j = 6 → w < 2 → tie (2 * j + w) = T j w
def OP (S : HS) (b : Nat) (kd : Nat → Int32) (fr to : Nat → Nat) (lb : Nat → Bool) (d : Int32) (s : Nat) (q : Nat → Int32) (A : AB) (r : HS × Int32) : Prop := ∃ th' fo' num' tie' ok, r = (wB S b (nI th') (nI fo') num' tie', bI ok) ∧ (ok = true → ∃ A', Does kd fr to lb d s q A A' ∧ A'.1 = th' ∧ A'.2.1 = fo' ∧ rpN th' A'.2.2.1 num' ∧ rpT kd fo' A'.2.2.2 tie') ∧ (ok = false → ¬ ∃ A', Does kd fr to lb d s q A A')
theorem GrA_cong {kd : Nat → Int32} {fr to : Nat → Nat} {lb : Nat → Bool} {ns nr x g ld : Nat} {A : AB} {v : Int32} {N N' M M' : Nat → Nat → Int32} (hW : RW nr ns kd fr to) (hA : AI kd fr to lb ns nr A) (hx : x < 2) (hg : sbt g A.1) (h : GrA kd fr to lb A.1 A.2.1 A.2.2.2 x g ld v N N') {T : Nat → Nat → Int32} (h1 : NSm A.1 N M) (h2 : NSm A.1 N' M') (h3 : TSm kd A.2.1 A.2.2.2 T) : GrA kd fr to lb A.1 A.2.1 T x g ld v M M' := by
  have ho := RW_ok (w := x) hW hA.2.1
  have hl := RW_lt (w := x) hW hA.2.1
  obtain ⟨a1, a2, a3, c, a4, a5⟩ := h
  have hch : fixF (lkf A.2.1 kd x) fr to ld (fun k => g.testBit k && decide (M k (x + 2) ≠ v)) 10 = fixF (lkf A.2.1 kd x) fr to ld (fun k => g.testBit k && decide (N k (x + 2) ≠ v)) 10 := fixF_cong (fun k _ => by
    cases e : g.testBit k with
    | false => rfl
    | true => rw [h1 k (x + 2) (hg k e) (by omega)])
  have hDth : ∀ k, Dm (lkf A.2.1 kd x) fr to (fixF (lkf A.2.1 kd x) fr to ld (fun k => g.testBit k && decide (N k (x + 2) ≠ v)) 10) k → A.1.testBit k = true := by
    intro k hk
    rw [fixF_Dm ho hl (by omega)] at hk
    obtain ⟨c, c1, c2, c3⟩ := hk
    rw [Bool.and_eq_true] at c2
    exact clo_th hA (hg c c2.1) k c3
  obtain ⟨c', b1, b2, b3⟩ := TS_move (n' := fun k => M k x) (gp' := gpA (setc M g (x + 2) v) T kd fr x) ho hl (fixF_lt ho (by omega)) a4 (fun k hk => (h1 k x (hDth k hk) (by omega)).symm) (fun j hj hD => by
    have hth := hDth _ hD
    unfold gpA
    by_cases e : kd j = 2 ∨ kd j = 4
    · rw [if_pos e, if_pos e]
      unfold setc
      rw [h1 _ _ hth (by omega)]
    · rw [if_neg e, if_neg e]
      by_cases e6 : kd j = 6
      · rw [if_pos e6, if_pos e6, h3 j x (lkf_fo hj) e6 hx]
      · rw [if_neg e6, if_neg e6])
  refine ⟨fun k hk hlk => ?_, fun k hk => ?_, fun k w hk hw w1 w2 => ?_, c', by rw [hch]; exact b1, fun k hk => ?_⟩
  · rw [h1 k _ (hg k hk) (by omega)]; exact a1 k hk hlk
  · rw [h2 k _ hk (by omega), a2 k hk, h1 k _ hk (by omega)]
  · rw [h2 k w hk hw, a3 k w hk hw w1 w2, h1 k w hk hw]
  · rw [h2 k x hk (by omega), a5 k hk]
    by_cases hD : Dm (lkf A.2.1 kd x) fr to (fixF (lkf A.2.1 kd x) fr to ld (fun k => g.testBit k && decide (N k (x + 2) ≠ v)) 10) k
    · exact (b2 k hD).symm
    · rw [b3 k hD, a4.1 k hD, h1 k x hk (by omega)]
theorem GrA_uniq {kd : Nat → Int32} {fr to : Nat → Nat} {lb : Nat → Bool} {ns nr x g ld : Nat} {A : AB} {v : Int32} {N N1 N2 : Nat → Nat → Int32} (hW : RW nr ns kd fr to) (hA : AI kd fr to lb ns nr A) (h1 : GrA kd fr to lb A.1 A.2.1 A.2.2.2 x g ld v N N1) (h2 : GrA kd fr to lb A.1 A.2.1 A.2.2.2 x g ld v N N2) : NSm A.1 N1 N2 := by
  have ho := RW_ok (w := x) hW hA.2.1
  have hl := RW_lt (w := x) hW hA.2.1
  obtain ⟨a1, a2, a3, c, a4, a5⟩ := h1
  obtain ⟨b1, b2, b3, c', b4, b5⟩ := h2
  intro k w hk hw
  by_cases e1 : w = x
  · rw [e1, a5 k hk, b5 k hk]
    exact TS_uniq ho hl (fixF_lt ho (by omega)) b4 a4 k
  · by_cases e2 : w = x + 2
    · rw [e2, a2 k hk, b2 k hk]
    · rw [a3 k w hk hw e1 e2, b3 k w hk hw e1 e2]
section
variable {S : HS} {b nr ns : Nat} {kd : Nat → Int32} {fr to : Nat → Nat} {lb : Nat → Bool} {A : AB} {num tie : Nat → Int32}
theorem co_add (H : HC S b nr kd fr to lb A.1 A.2.1) (hN : rpN A.1 A.2.2.1 num) (hT : rpT kd A.2.1 A.2.2.2 tie) {s : Nat} (hs : s < 10) (q : Nat → Int32) : Ok (f_X0_addShape b (nI s) (q 0) (q 1) (q 2) (q 3) (wB S b (nI A.1) (nI A.2.1) num tie)) (OP S b kd fr to lb 0 s q A) := by
  obtain ⟨hb, hR, hf, ht, hL⟩ := H
  unfold f_X0_addShape
  rw [show (0 : Int32) = nI 0 from rfl, show (1 : Int32) = nI 1 from rfl, show (2 : Int32) = nI 2 from rfl, show (3 : Int32) = nI 3 from rfl]
  simp only [set7 hb hs (show 0 < 4 by omega), set7 hb hs (show 1 < 4 by omega), set7 hb hs (show 2 < 4 by omega), set7 hb hs (show 3 < 4 by omega), bsm, wB_sNum, wB_th, wB_sTh]
  rw [show nI 1 = (1 : Int32) from rfl, nz_1, if_pos rfl, shl1 (by omega), fa_or]
  refine ⟨_, rfl, _, _, _, _, true, rfl, fun _ => ⟨(A.1 ||| 2 ^ s, A.2.1, fun k w => if k = s then q w else A.2.2.1 k w, A.2.2.2), ?_, rfl, rfl, ?_, hT⟩, fun q => absurd q (by decide)⟩
  · unfold Does
    rw [if_pos (by decide)]
    exact ⟨rfl, rfl, fun _ _ _ _ => rfl, fun _ _ _ _ _ => rfl⟩
  · intro k w hk hw
    show _ = if k = s then q w else A.2.2.1 k w
    by_cases e : k = s
    · rw [if_pos e, e]
      match w, hw with
      | 0, _ => rw [upd_ne (by omega), upd_ne (by omega), upd_ne (by omega), upd_at]
      | 1, _ => rw [upd_ne (by omega), upd_ne (by omega), upd_at]
      | 2, _ => rw [upd_ne (by omega), upd_at]
      | 3, _ => rw [upd_at]
    · rw [if_neg e, upd_ne (by omega), upd_ne (by omega), upd_ne (by omega), upd_ne (by omega)]
      rw [fb_bit_set, Bool.or_eq_true, decide_eq_true_eq] at hk
      exact hN k w (hk.resolve_right e) hw
theorem co_drop (H : HC S b nr kd fr to lb A.1 A.2.1) (hN : rpN A.1 A.2.2.1 num) (hT : rpT kd A.2.1 A.2.2.2 tie) {s : Nat} (hs : s < 12) (q : Nat → Int32) : Ok (f_X0_dropRule b (nI s) (wB S b (nI A.1) (nI A.2.1) num tie)) (OP S b kd fr to lb 4 s q A) := by
  obtain ⟨hb, hR, hf, ht, hL⟩ := H
  have hfo := fok_lt hf hR.1
  unfold f_X0_dropRule
  rw [wB_fo, hasI7 _ (by omega) (by omega), bsm, nz_bI, if_pos rfl, wB_sFo, clr7 (by omega)]
  refine ⟨_, rfl, _, _, _, _, A.2.1.testBit s, rfl, fun h => ⟨(A.1, clr A.2.1 s, A.2.2.1, A.2.2.2), ?_, rfl, rfl, hN, fun j w hj => hT j w ?_⟩, fun h => ?_⟩
  · unfold Does
    rw [if_neg (by decide), if_neg (by decide), if_neg (by decide), if_neg (by decide)]
    exact ⟨h, rfl, rfl, fun _ _ _ _ => rfl, fun _ _ _ _ _ => rfl⟩
  · rw [clr_bit (by omega) (by omega), Bool.and_eq_true] at hj
    exact hj.1
  · rintro ⟨A', hA'⟩
    unfold Does at hA'
    rw [if_neg (by decide), if_neg (by decide), if_neg (by decide), if_neg (by decide), h] at hA'
    exact absurd hA'.1 (by decide)
theorem co_size (H : HC S b nr kd fr to lb A.1 A.2.1) (hW : RW nr ns kd fr to) (hA : AI kd fr to lb ns nr A) (hN : rpN A.1 A.2.2.1 num) (hT : rpT kd A.2.1 A.2.2.2 tie) {s : Nat} (hs : s < 10) (q : Nat → Int32) (hq2 : rngB (q 2) 2 = true) (hq3 : rngB (q 3) 3 = true) : Ok (f_X0_resizeTo b (nI s) (q 2) (q 3) (wB S b (nI A.1) (nI A.2.1) num tie)) (OP S b kd fr to lb 2 s q A) := by
  have H' := H
  obtain ⟨hb, hR, hf, ht, hL⟩ := H
  have hDoes : ∀ A', Does kd fr to lb 2 s q A A' → A.1.testBit s = true ∧ A'.1 = A.1 ∧ A'.2.1 = A.2.1 ∧ TSm kd A.2.1 A.2.2.2 A'.2.2.2 ∧ (RG A.1 A'.2.2.1 0 ∧ RG A.1 A'.2.2.1 1) ∧ ∃ N1, GrA kd fr to lb A.1 A.2.1 A.2.2.2 0 (clo (lkf A.2.1 kd 2) fr to s) s (q 2) A.2.2.1 N1 ∧ GrA kd fr to lb A.1 A.2.1 A.2.2.2 1 (clo (lkf A.2.1 kd 3) fr to s) s (q 3) N1 A'.2.2.1 := by
    intro A' h
    unfold Does at h
    rw [if_neg (by decide), if_neg (by decide), if_pos rfl] at h
    exact h
  unfold f_X0_resizeTo f_X0_resizeTo_b62 f_X0_resizeTo_b63
  rw [show (0 : Int32) = nI 0 from rfl, show (2 : Int32) = nI 2 from rfl, show (3 : Int32) = nI 3 from rfl, wB_th, hasI7 _ (by omega) (by omega), bsm, show nI 0 = (0 : Int32) from rfl, ifb, nz_0]
  cases hs1 : A.1.testBit s with
  | false =>
    rw [if_neg (by decide), if_pos rfl]
    refine ⟨_, rfl, _, _, _, _, false, rfl, fun q => absurd q (by decide), fun _ => ?_⟩
    rintro ⟨A', h⟩
    rw [hs1] at hDoes
    exact absurd (hDoes A' h).1 (by decide)
  | true =>
    have hR' : ∀ num', RC (wB S b (nI A.1) (nI A.2.1) num' tie) nr kd fr to := fun _ => wB_RC hb hR
    have ho2 := RW_ok (w := 2) hW hA.2.1
    have ho3 := RW_ok (w := 3) hW hA.2.1
    rw [if_pos rfl, group7 wB_fo (hR' _) hf hs (by omega), bsm, num7 hb hs (by omega), bsm, wB_num, hN s 2 hs1 (by omega)]
    refine Ok.bind (cl_grow H' (clo_th hA hs1) (clo_lt ho2 hs) (bit_ne clo_self) (x := 0) (by omega) hs (q 2 - A.2.2.1 s 2) num tie) ?_
    intro r hr
    obtain ⟨num1, ok1, rfl, k1, k2⟩ := GP_A hW hA (by omega) (clo_th hA hs1) hN hT (fun k hk => clo_uni hW hA (Or.inl rfl) hs hk) hq2 (hA.2.2.2.1 0 (by omega)) hr
    dsimp only
    rw [ifb]
    cases ok1 with
    | false =>
      rw [if_neg (by decide), if_pos rfl]
      refine ⟨_, rfl, _, _, _, _, false, rfl, fun q => absurd q (by decide), fun _ => ?_⟩
      rintro ⟨A', h⟩
      obtain ⟨-, -, -, -, ⟨r0, -⟩, N1, g1, g2⟩ := hDoes A' h
      refine k2 rfl N1 g1 (fun k hk => ?_)
      rw [← g2.2.2.1 k 0 hk (by omega) (by omega) (by omega)]
      exact r0 k hk
    | true =>
      obtain ⟨G1, R1⟩ := k1 rfl
      rw [if_pos rfl, group7 wB_fo (hR' _) hf hs (by omega), bsm, num7 hb hs (by omega), bsm, wB_num]
      have e3 : num1 (4 * s + 3) = A.2.2.1 s 3 := G1.2.2.1 s 3 hs1 (by omega) (by omega) (by omega)
      rw [e3]
      refine Ok.bind (cl_grow H' (clo_th hA hs1) (clo_lt ho3 hs) (bit_ne clo_self) (x := 1) (by omega) hs (q 3 - A.2.2.1 s 3) num1 tie) ?_
      intro r hr
      obtain ⟨num2, ok2, rfl, k3, k4⟩ := GP_A hW hA (by omega) (clo_th hA hs1) (N := fun k w => num1 (4 * k + w)) (fun _ _ _ _ => rfl) hT (u := A.2.2.1 s 3) (fun k hk => by
        have := G1.2.2.1 k 3 (clo_th hA hs1 k hk) (by omega) (by omega) (by omega)
        exact this.trans (clo_uni hW hA (Or.inr rfl) hs hk)) hq3 (fun k hk => by
        have := G1.2.2.1 k 1 hk (by omega) (by omega) (by omega)
        dsimp only at this ⊢
        rw [this]
        exact hA.2.2.2.1 1 (by omega) k hk) hr
      dsimp only
      rw [ifb]
      cases ok2 with
      | false =>
        rw [if_neg (by decide), if_pos rfl]
        refine ⟨_, rfl, _, _, _, _, false, rfl, fun q => absurd q (by decide), fun _ => ?_⟩
        rintro ⟨A', h⟩
        obtain ⟨-, -, -, -, ⟨-, r1⟩, N1, g1, g2⟩ := hDoes A' h
        have hn := GrA_uniq hW hA g1 G1
        exact k4 rfl A'.2.2.1 (GrA_cong hW hA (by omega) (clo_th hA hs1) g2 hn (fun _ _ _ _ => rfl) (fun _ _ _ _ _ => rfl)) r1
      | true =>
        obtain ⟨G2, R2⟩ := k3 rfl
        rw [if_pos rfl, nz_1, if_pos rfl]
        refine ⟨_, rfl, _, _, _, _, true, rfl, fun _ => ⟨(A.1, A.2.1, fun k w => num2 (4 * k + w), A.2.2.2), ?_, rfl, rfl, fun _ _ _ _ => rfl, hT⟩, fun q => absurd q (by decide)⟩
        unfold Does
        rw [if_neg (by decide), if_neg (by decide), if_pos (by decide)]
        refine ⟨hs1, rfl, rfl, fun _ _ _ _ _ => rfl, ⟨fun k hk => ?_, R2⟩, _, G1, G2⟩
        have := G2.2.2.1 k 0 hk (by omega) (by omega) (by omega)
        dsimp only at this ⊢
        rw [this]
        exact R1 k hk
theorem shN_col {g w u k : Nat} {x : Int32} {num : Nat → Int32} (hk : k < 10) (hw : w < 4) (hu : u < 4) : shN g w x num 10 (4 * k + u) = num (4 * k + u) + (if u = w ∧ g.testBit k = true then x else 0) := by
  unfold shN
  rw [show (4 * k + u) % 4 = u by omega, show (4 * k + u) / 4 = k by omega]
  by_cases e : u = w ∧ g.testBit k = true
  · rw [if_pos ⟨e.1, hk, e.2⟩, if_pos e]
  · rw [if_neg (fun q => e ⟨q.1, q.2.2⟩), if_neg e]
    exact i32_00.symm
theorem co_move (H : HC S b nr kd fr to lb A.1 A.2.1) (hW : RW nr ns kd fr to) (hA : AI kd fr to lb ns nr A) (hN : rpN A.1 A.2.2.1 num) (hT : rpT kd A.2.1 A.2.2.2 tie) {s : Nat} (hs : s < 10) (q : Nat → Int32) : Ok (f_X0_moveTo b (nI s) (q 0) (q 1) (wB S b (nI A.1) (nI A.2.1) num tie)) (OP S b kd fr to lb 1 s q A) := by
  have H' := H
  obtain ⟨hb, hR, hf, ht, hL⟩ := H
  have hDoes : ∀ A', Does kd fr to lb 1 s q A A' → A.1.testBit s = true ∧ A'.1 = A.1 ∧ A'.2.1 = A.2.1 ∧ TSm kd A.2.1 A.2.2.2 A'.2.2.2 ∧ (RG A.1 A'.2.2.1 0 ∧ RG A.1 A'.2.2.1 1) ∧ ∀ k w, A.1.testBit k = true → w < 4 → A'.2.2.1 k w = A.2.2.1 k w + (if w < 2 ∧ (clo (lkf A.2.1 kd w) fr to s).testBit k = true then q w - A.2.2.1 s w else 0) := by
    intro A' h
    unfold Does at h
    rw [if_neg (by decide), if_pos rfl] at h
    exact h
  unfold f_X0_moveTo f_X0_moveTo_b60 f_X0_moveTo_b61
  rw [wB_th, hasI7 _ (by omega) (by omega), bsm, ifb, nz_0]
  rw [show f_X0_groupOf b (nI s) (0 : Int32) = f_X0_groupOf b (nI s) (nI 0) from rfl, show f_X0_numberOf b (nI s) (0 : Int32) = f_X0_numberOf b (nI s) (nI 0) from rfl]
  cases hs1 : A.1.testBit s with
  | false =>
    rw [if_neg (by decide), if_pos rfl]
    refine ⟨_, rfl, _, _, _, _, false, rfl, fun q => absurd q (by decide), fun _ => ?_⟩
    rintro ⟨A', h⟩
    rw [hs1] at hDoes
    exact absurd (hDoes A' h).1 (by decide)
  | true =>
    have hR' : ∀ num', RC (wB S b (nI A.1) (nI A.2.1) num' tie) nr kd fr to := fun _ => wB_RC hb hR
    have ho0 := RW_ok (w := 0) hW hA.2.1
    have ho1 := RW_ok (w := 1) hW hA.2.1
    have hg0 := clo_th hA (w := 0) hs1
    have hg1 := clo_th hA (w := 1) hs1
    rw [if_pos rfl, group7 wB_fo (hR' _) hf hs (by omega), bsm, num7 hb hs (by omega), bsm, wB_num, hN s 0 hs1 (by omega)]
    refine Ok.bind (cl_shift H' hg0 (clo_lt ho0 hs) (w := 0) (by omega) (q 0 - A.2.2.1 s 0) num tie) ?_
    rintro r ⟨num1, ok1, rfl, k1, k2⟩
    dsimp only
    rw [ifb]
    cases ok1 with
    | false =>
      rw [if_neg (by decide), if_pos rfl]
      refine ⟨_, rfl, _, _, _, _, false, rfl, fun q => absurd q (by decide), fun _ => ?_⟩
      rintro ⟨A', h⟩
      obtain ⟨-, -, -, -, ⟨r0, -⟩, hn⟩ := hDoes A' h
      obtain ⟨k, h1, h2⟩ := k2 rfl
      have h3 := hn k 0 (hg0 k h1) (by omega)
      rw [if_pos ⟨by omega, h1⟩] at h3
      have h4 := r0 k (hg0 k h1)
      unfold shG at h2
      rw [hN k 0 (hg0 k h1) (by omega), ← h3, h4] at h2
      simp at h2
    | true =>
      obtain ⟨rfl, R1⟩ := k1 rfl
      rw [if_pos rfl, show f_X0_groupOf b (nI s) (1 : Int32) = f_X0_groupOf b (nI s) (nI 1) from rfl, show f_X0_numberOf b (nI s) (1 : Int32) = f_X0_numberOf b (nI s) (nI 1) from rfl, group7 wB_fo (hR' _) hf hs (by omega), bsm, num7 hb hs (by omega), bsm, wB_num, shN_col hs (by omega) (by omega), if_neg (fun q => absurd q.1 (by decide)), i32_00, hN s 1 hs1 (by omega)]
      refine Ok.bind (cl_shift H' hg1 (clo_lt ho1 hs) (w := 1) (by omega) (q 1 - A.2.2.1 s 1) _ tie) ?_
      rintro r ⟨num2, ok2, rfl, k3, k4⟩
      dsimp only
      rw [ifb]
      cases ok2 with
      | false =>
        rw [if_neg (by decide), if_pos rfl]
        refine ⟨_, rfl, _, _, _, _, false, rfl, fun q => absurd q (by decide), fun _ => ?_⟩
        rintro ⟨A', h⟩
        obtain ⟨-, -, -, -, ⟨-, r1⟩, hn⟩ := hDoes A' h
        obtain ⟨k, h1, h2⟩ := k4 rfl
        have hk10 := clo_bit ho1 hs h1
        have h3 := hn k 1 (hg1 k h1) (by omega)
        rw [if_pos ⟨by omega, h1⟩] at h3
        have h4 := r1 k (hg1 k h1)
        unfold shG at h2
        rw [shN_col hk10 (by omega) (by omega), if_neg (fun q => absurd q.1 (by decide)), i32_00, hN k 1 (hg1 k h1) (by omega), ← h3, h4] at h2
        simp at h2
      | true =>
        obtain ⟨rfl, R2⟩ := k3 rfl
        rw [if_pos rfl, nz_1, if_pos rfl]
        have hform : ∀ k w, A.1.testBit k = true → w < 4 → shN (clo (lkf A.2.1 kd 1) fr to s) 1 (q 1 - A.2.2.1 s 1) (shN (clo (lkf A.2.1 kd 0) fr to s) 0 (q 0 - A.2.2.1 s 0) num 10) 10 (4 * k + w) = A.2.2.1 k w + (if w < 2 ∧ (clo (lkf A.2.1 kd w) fr to s).testBit k = true then q w - A.2.2.1 s w else 0) := by
          intro k w hk hw
          have hk10 := lt10_of ht hk
          rw [shN_col hk10 (by omega) hw, shN_col hk10 (by omega) hw, hN k w hk hw]
          match w, hw with
          | 0, _ => simp [i32_00]
          | 1, _ => simp [i32_00]
          | 2, _ => simp [i32_00]
          | 3, _ => simp [i32_00]
        refine ⟨_, rfl, _, _, _, _, true, rfl, fun _ => ⟨(A.1, A.2.1, fun k w => A.2.2.1 k w + (if w < 2 ∧ (clo (lkf A.2.1 kd w) fr to s).testBit k = true then q w - A.2.2.1 s w else 0), A.2.2.2), ?_, rfl, rfl, hform, hT⟩, fun q => absurd q (by decide)⟩
        unfold Does
        rw [if_neg (by decide), if_pos rfl]
        refine ⟨hs1, rfl, rfl, fun _ _ _ _ _ => rfl, ⟨fun k hk => ?_, fun k hk => ?_⟩, fun _ _ _ _ => rfl⟩
        · dsimp only
          by_cases e : (clo (lkf A.2.1 kd 0) fr to s).testBit k = true
          · rw [if_pos ⟨by omega, e⟩]
            have := R1 k e
            unfold shG at this
            rw [hN k 0 hk (by omega)] at this
            simpa using this
          · rw [if_neg (fun q => e q.2), i32_00]
            exact hA.2.2.2.1 0 (by omega) k hk
        · dsimp only
          by_cases e : (clo (lkf A.2.1 kd 1) fr to s).testBit k = true
          · rw [if_pos ⟨by omega, e⟩]
            have := R2 k e
            unfold shG at this
            rw [shN_col (lt10_of ht hk) (by omega) (by omega), if_neg (fun q => absurd q.1 (by decide)), i32_00, hN k 1 hk (by omega)] at this
            simpa using this
          · rw [if_neg (fun q => e q.2), i32_00]
            exact hA.2.2.2.1 1 (by omega) k hk
end
