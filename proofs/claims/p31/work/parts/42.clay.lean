/-! the class lays a rule on its trial board -/
section
variable {S : HS} {b nr ns : Nat} {kd : Nat → Int32} {fr to : Nat → Nat} {lb : Nat → Bool} {A : AB} {num tie : Nat → Int32}
theorem Does3 {q : Nat → Int32} {s : Nat} {A' : AB} : Does kd fr to lb 3 s q A A' ↔ A.1.testBit (fr s) = true ∧ A.1.testBit (to s) = true ∧ A'.1 = A.1 ∧ A'.2.1 = A.2.1 ||| 2 ^ s ∧ (RG A.1 A'.2.2.1 0 ∧ RG A.1 A'.2.2.1 1) ∧ LyA kd fr to lb A.1 A.2.1 s A.2.2.1 A.2.2.2 A'.2.2.1 A'.2.2.2 := by
  unfold Does
  rw [if_neg (by decide), if_neg (by decide), if_neg (by decide), if_pos rfl]
theorem LyA_sz {N T N' T' : Nat → Nat → Int32} {th fo s x : Nat} (hx : kd s = 0 ∧ x = 0 ∨ kd s = 1 ∧ x = 1) : LyA kd fr to lb th fo s N T N' T' ↔ GrA kd fr to lb th fo T x (clo (lkf fo kd (x + 2)) fr to (to s)) (fr s) (N (fr s) (x + 2)) N N' ∧ TSm kd fo T T' := by
  unfold LyA
  rcases hx with ⟨h, rfl⟩ | ⟨h, rfl⟩
  · rw [if_pos h]
  · rw [if_neg (by rw [h]; decide), if_pos h]
theorem LyA_tie {N T N' T' : Nat → Nat → Int32} {th fo s : Nat} (h : kd s = 6) : LyA kd fr to lb th fo s N T N' T' ↔ NSm th N N' ∧ (∀ w, w < 2 → T' s w = N (to s) w - N (fr s) w) ∧ ∀ j w, j ≠ s → fo.testBit j = true → kd j = 6 → w < 2 → T' j w = T j w := by
  unfold LyA
  rw [if_neg (by rw [h]; decide), if_neg (by rw [h]; decide), if_pos h]
theorem LyA_sh {N T N' T' : Nat → Nat → Int32} {th fo s w0 : Nat} (hx : (kd s = 2 ∨ kd s = 3) ∧ w0 = 0 ∨ (kd s = 4 ∨ kd s = 5) ∧ w0 = 1) : LyA kd fr to lb th fo s N T N' T' ↔ ∃ b0, b0 = (if kd s = 2 ∨ kd s = 4 then N (fr s) (w0 + 2) else 0) - (N (to s) w0 - N (fr s) w0) ∧ ((clo (lkf fo kd w0) fr to (to s)).testBit (fr s) = true → b0 = 0) ∧ (∀ k w, th.testBit k = true → w < 4 → N' k w = N k w + (if w = w0 ∧ (clo (lkf fo kd w0) fr to (to s)).testBit k = true then b0 else 0)) ∧ TSm kd fo T T' := by
  have hw : w0 = (if kd s = 2 ∨ kd s = 3 then 0 else 1) := by
    rcases hx with ⟨h, rfl⟩ | ⟨h, rfl⟩
    · rw [if_pos h]
    · rw [if_neg]
      rintro (q | q)
      · rw [q] at h; exact absurd h (by decide)
      · rw [q] at h; exact absurd h (by decide)
  have h0 : kd s ≠ 0 := by
    intro q
    rw [q] at hx
    exact absurd hx (fun h => Or.elim h (fun h => absurd h.1 (by decide)) (fun h => absurd h.1 (by decide)))
  have h1 : kd s ≠ 1 := by
    intro q
    rw [q] at hx
    exact absurd hx (fun h => Or.elim h (fun h => absurd h.1 (by decide)) (fun h => absurd h.1 (by decide)))
  have h6 : kd s ≠ 6 := by
    intro q
    rw [q] at hx
    exact absurd hx (fun h => Or.elim h (fun h => absurd h.1 (by decide)) (fun h => absurd h.1 (by decide)))
  unfold LyA
  rw [if_neg h0, if_neg h1, if_neg h6, ← hw]
  constructor
  · rintro ⟨w, b0, rfl, h⟩
    exact ⟨b0, h⟩
  · rintro ⟨b0, h⟩
    exact ⟨w0, b0, rfl, h⟩
/-- the rule is laid as far as its ways go; it is not in force yet -/
def MP (S : HS) (b : Nat) (kd : Nat → Int32) (fr to : Nat → Nat) (lb : Nat → Bool) (s : Nat) (q : Nat → Int32) (A : AB) (r : HS × Int32) : Prop := ∃ num' tie' ok, r = (wB S b (nI A.1) (nI A.2.1) num' tie', bI ok) ∧ (ok = true → ∃ A', Does kd fr to lb 3 s q A A' ∧ rpN A.1 A'.2.2.1 num' ∧ rpT kd (A.2.1 ||| 2 ^ s) A'.2.2.2 tie') ∧ (ok = false → ¬ ∃ A', Does kd fr to lb 3 s q A A')
theorem lay_end {q : Nat → Int32} {s : Nat} (hs : s < 12) {r : HS × Int32} (h : MP S b kd fr to lb s q A r) : Ok (f_X0_layRule_b223 b (nI s) r.1 r.2) (OP S b kd fr to lb 3 s q A) := by
  obtain ⟨num', tie', ok, rfl, h1, h2⟩ := h
  unfold f_X0_layRule_b223 f_X0_layRule_b240
  dsimp only
  rw [ifb, nz_bI, if_pos rfl, if_pos rfl, wB_fo, wB_sFo, wB_sFo, shl1 (by omega), fa_or, nI_or0]
  cases ok with
  | true =>
    rw [if_pos rfl]
    obtain ⟨A', a1, a2, a3⟩ := h1 rfl
    have a4 := Does3.mp a1
    exact ⟨_, rfl, _, _, _, _, true, rfl, fun _ => ⟨A', a1, a4.2.2.1, a4.2.2.2.1, a2, a3⟩, fun q => absurd q (by decide)⟩
  | false =>
    rw [if_neg (by decide)]
    exact ⟨_, rfl, _, _, _, _, false, rfl, fun q => absurd q (by decide), fun _ => h2 rfl⟩
theorem i32_gap {a c g : Int32} : g - (c - a) = a + g - c := by grind
theorem i32_sz {a c : Int32} : (0 : Int32) - (c - a) = a - c := by grind
theorem i32_self {a : Int32} : a - a = 0 := by grind
theorem rpT_or {s : Nat} {T : Nat → Nat → Int32} (hs : kd s ≠ 6) (h : rpT kd A.2.1 T tie) : rpT kd (A.2.1 ||| 2 ^ s) T tie := by
  intro j w hj h6
  rw [fb_bit_set, Bool.or_eq_true, decide_eq_true_eq] at hj
  rcases hj with hj | rfl
  · exact h j w hj h6
  · exact absurd h6 hs
theorem abt_w {k : Int32} {w0 : Nat} (h : k = 0 ∧ w0 = 2 ∨ k = 1 ∧ w0 = 3 ∨ (k = 2 ∨ k = 3) ∧ w0 = 0 ∨ (k = 4 ∨ k = 5) ∧ w0 = 1) : ∀ i, i < 4 → abt k i = decide (i = w0) := by
  rcases h with ⟨rfl, rfl⟩ | ⟨rfl, rfl⟩ | ⟨rfl | rfl, rfl⟩ | ⟨rfl | rfl, rfl⟩ <;> decide
theorem shN_zero {g w : Nat} {num : Nat → Int32} : shN g w 0 num 10 = num := by
  funext t
  unfold shN
  split
  · exact i32_00
  · rfl
/-- one way of a rule that is no tie -/
theorem co_way (H : HC S b nr kd fr to lb A.1 A.2.1) (hW : RW nr ns kd fr to) (hA : AI kd fr to lb ns nr A) (hN : rpN A.1 A.2.2.1 num) (hT : rpT kd A.2.1 A.2.2.2 tie) {s w0 : Nat} (hs : s < nr) (q : Nat → Int32) (ha : A.1.testBit (fr s) = true) (hc : A.1.testBit (to s) = true)
    (hk : kd s = 0 ∧ w0 = 2 ∨ kd s = 1 ∧ w0 = 3 ∨ (kd s = 2 ∨ kd s = 3) ∧ w0 = 0 ∨ (kd s = 4 ∨ kd s = 5) ∧ w0 = 1) (rec : HS × Int32 × Int32 × Int32 × Int32 × Int32 → Option (HS × Int32)) {P : HS × Int32 → Prop} (hrec : ∀ r, MP S b kd fr to lb s q A r → Ok (rec (r.1, kd s, nI (fr s), nI (to s), r.2, nI (w0 + 1))) P) : Ok (f_X0_layRule_b134 b (nI s) rec (wB S b (nI A.1) (nI A.2.1) num tie) (kd s) (nI (fr s)) (nI (to s)) (nI w0) (A.2.2.1 (to s) w0 - A.2.2.1 (fr s) w0)) P := by
  have H' := H
  obtain ⟨hb, hR, hf, ht, hL⟩ := H
  have hR' : ∀ num', RC (wB S b (nI A.1) (nI A.2.1) num' tie) nr kd fr to := fun _ => wB_RC hb hR
  have hw4 : w0 < 4 := by omega
  have hto : to s < 10 := lt10_of ht hc
  have hfr : fr s < 10 := lt10_of ht ha
  have h6 : kd s ≠ 6 := by
    intro e
    rw [e] at hk
    rcases hk with h | h | h | h <;> exact absurd h.1 (by decide)
  have hgap : f_X0_gapOf b (nI s) (nI w0) (wB S b (nI A.1) (nI A.2.1) num tie) = some (if kd s = 2 ∨ kd s = 4 then A.2.2.1 (fr s) (w0 + 2) else 0) := by
    rw [gap7 hb (hR' _) hs, wB_num, wB_tie]
    · unfold gapC
      rw [if_neg h6]
      by_cases e : kd s = 2 ∨ kd s = 4
      · have hw2 : w0 < 2 := by
          rcases hk with ⟨h, -⟩ | ⟨h, -⟩ | ⟨-, h⟩ | ⟨-, h⟩
          · rw [h] at e; exact absurd e (by decide)
          · rw [h] at e; exact absurd e (by decide)
          · omega
          · omega
        rw [if_pos e, if_pos e, Nat.add_assoc, hN _ _ ha (by omega)]
      · rw [if_neg e, if_neg e]
    · rcases hk with ⟨h, -⟩ | ⟨h, -⟩ | ⟨-, h⟩ | ⟨-, h⟩
      · right; rw [h]; decide
      · right; rw [h]; decide
      · left; omega
      · left; omega
  have ho := RW_ok (w := w0) hW hA.2.1
  have hgth := clo_th hA (w := w0) hc
  unfold f_X0_layRule_b134 f_X0_layRule_b176 f_X0_layRule_b217
  rw [hgap, bsm, group7 wB_fo (hR' _) hf hto hw4, bsm, hasI7 _ (by have := clo_lt ho hto; omega) (by omega), bsm, ifb, nI_1]
  have hrr : ∀ num' ok, (ok = true → ∃ A', Does kd fr to lb 3 s q A A' ∧ rpN A.1 A'.2.2.1 num' ∧ rpT kd (A.2.1 ||| 2 ^ s) A'.2.2.2 tie) → (ok = false → ¬ ∃ A', Does kd fr to lb 3 s q A A') → Ok (rec (wB S b (nI A.1) (nI A.2.1) num' tie, kd s, nI (fr s), nI (to s), bI ok, nI (w0 + 1))) P := fun num' ok h1 h2 => hrec (wB S b (nI A.1) (nI A.2.1) num' tie, bI ok) ⟨num', tie, ok, rfl, h1, h2⟩
  have hszs : kd s = 0 ∧ w0 = 2 ∨ kd s = 1 ∧ w0 = 3 ∨ ((kd s = 2 ∨ kd s = 3) ∧ w0 = 0 ∨ (kd s = 4 ∨ kd s = 5) ∧ w0 = 1) := hk
  by_cases hw2 : 2 ≤ w0
  · -- sizes
    have hx : kd s = 0 ∧ w0 - 2 = 0 ∨ kd s = 1 ∧ w0 - 2 = 1 := by
      rcases hk with ⟨h, e⟩ | ⟨h, e⟩ | ⟨-, h⟩ | ⟨-, h⟩
      · left; exact ⟨h, by omega⟩
      · right; exact ⟨h, by omega⟩
      · omega
      · omega
    obtain ⟨x, rfl⟩ : ∃ x, w0 = x + 2 := ⟨w0 - 2, by omega⟩
    rw [show x + 2 - 2 = x by omega] at hx
    have hx2 : x < 2 := by omega
    have h24 : ¬ (kd s = 2 ∨ kd s = 4) := by
      rcases hx with ⟨h, -⟩ | ⟨h, -⟩ <;> rw [h] <;> decide
    rw [if_neg h24, i32_sz]
    have huni : ∀ k, (clo (lkf A.2.1 kd (x + 2)) fr to (to s)).testBit k = true → A.2.2.1 k (x + 2) = A.2.2.1 (to s) (x + 2) := fun k hk' => clo_uni hW hA (by omega) hto hk'
    by_cases hin : (clo (lkf A.2.1 kd (x + 2)) fr to (to s)).testBit (fr s) = true
    · rw [if_pos hin, if_pos (by rw [huni _ hin, i32_self])]
      refine hrr num true (fun _ => ⟨(A.1, A.2.1 ||| 2 ^ s, A.2.2.1, A.2.2.2), Does3.mpr ⟨ha, hc, rfl, rfl, ⟨hA.2.2.2.1 0 (by omega), hA.2.2.2.1 1 (by omega)⟩, (LyA_sz hx).mpr ⟨⟨fun k hk' _ => ?_, fun k _ => ?_, fun _ _ _ _ _ _ => rfl, fun k => A.2.2.1 k x, ?_, fun _ _ => rfl⟩, fun _ _ _ _ _ => rfl⟩⟩, hN, rpT_or h6 hT⟩) (fun q => absurd q (by decide))
      · rw [huni k hk', huni _ hin]
      · split
        · next h => show A.2.2.1 k (x + 2) = _; rw [huni k h, huni _ hin]
        · rfl
      · rw [fixF_nil (fun k _ => by
          cases e : (clo (lkf A.2.1 kd (x + 2)) fr to (to s)).testBit k with
          | false => rfl
          | true => rw [huni k e, huni _ hin]; simp)]
        exact TS_0
    · rw [if_neg hin, show (2 : Int32) = nI 2 from rfl, if_pos ((nI_leI (by omega) (by omega)).mpr (by omega)), show nI (x + 2) - nI 2 = nI x from by
        rcases hx with ⟨-, rfl⟩ | ⟨-, rfl⟩ <;> decide]
      refine Ok.bind (cl_grow H' hgth (clo_lt ho hto) (bit_ne clo_self) hx2 hfr _ num tie) ?_
      intro r hr
      obtain ⟨num', ok, rfl, k1, k2⟩ := GP_A hW hA hx2 hgth hN hT huni (hA.2.2.2.1 (x + 2) (by omega) (fr s) ha) (hA.2.2.2.1 x (by omega)) hr
      dsimp only
      refine hrr num' ok (fun e => ?_) (fun e => ?_)
      · obtain ⟨G, R⟩ := k1 e
        have hoth : ∀ y, y < 2 → y ≠ x → RG A.1 (fun k w => num' (4 * k + w)) y := fun y hy hyx k hk' => by
          have := G.2.2.1 k y hk' (by omega) hyx (by omega)
          rw [this]
          exact hA.2.2.2.1 y (by omega) k hk'
        refine ⟨(A.1, A.2.1 ||| 2 ^ s, fun k w => num' (4 * k + w), A.2.2.2), Does3.mpr ⟨ha, hc, rfl, rfl, ?_, (LyA_sz hx).mpr ⟨G, fun _ _ _ _ _ => rfl⟩⟩, fun _ _ _ _ => rfl, rpT_or h6 hT⟩
        rcases hx with ⟨-, rfl⟩ | ⟨-, rfl⟩
        · exact ⟨R, hoth 1 (by omega) (by omega)⟩
        · exact ⟨hoth 0 (by omega) (by omega), R⟩
      · rintro ⟨A', hA'⟩
        obtain ⟨-, -, -, -, hr2, hl⟩ := Does3.mp hA'
        obtain ⟨hG, -⟩ := (LyA_sz hx).mp hl
        refine k2 e A'.2.2.1 hG ?_
        rcases hx with ⟨-, rfl⟩ | ⟨-, rfl⟩
        · exact hr2.1
        · exact hr2.2
  · -- places
    have hx : (kd s = 2 ∨ kd s = 3) ∧ w0 = 0 ∨ (kd s = 4 ∨ kd s = 5) ∧ w0 = 1 := by
      rcases hk with ⟨h, e⟩ | ⟨h, e⟩ | h | h
      · omega
      · omega
      · left; exact h
      · right; exact h
    have hw2' : w0 < 2 := by omega
    generalize hb0 : (if kd s = 2 ∨ kd s = 4 then A.2.2.1 (fr s) (w0 + 2) else 0) - (A.2.2.1 (to s) w0 - A.2.2.1 (fr s) w0) = b0
    by_cases hin : (clo (lkf A.2.1 kd w0) fr to (to s)).testBit (fr s) = true
    · rw [if_pos hin]
      by_cases e0 : b0 = 0
      · rw [if_pos e0]
        refine hrr num true (fun _ => ⟨(A.1, A.2.1 ||| 2 ^ s, A.2.2.1, A.2.2.2), Does3.mpr ⟨ha, hc, rfl, rfl, ⟨hA.2.2.2.1 0 (by omega), hA.2.2.2.1 1 (by omega)⟩, (LyA_sh hx).mpr ⟨b0, hb0.symm, fun _ => e0, fun k w _ _ => ?_, fun _ _ _ _ _ => rfl⟩⟩, hN, rpT_or h6 hT⟩) (fun q => absurd q (by decide))
        rw [e0]
        split <;> exact i32_00.symm
      · rw [if_neg e0]
        refine hrr num false (fun q => absurd q (by decide)) (fun _ => ?_)
        rintro ⟨A', hA'⟩
        obtain ⟨-, -, -, -, -, hl⟩ := Does3.mp hA'
        obtain ⟨b1, h1, h2, -⟩ := (LyA_sh hx).mp hl
        exact e0 (by rw [← hb0, ← h1]; exact h2 hin)
    · rw [if_neg hin, show (2 : Int32) = nI 2 from rfl, if_neg (fun h => hw2 ((nI_leI (by omega) (by omega)).mp h))]
      refine Ok.bind (cl_shift H' hgth (clo_lt ho hto) hw4 b0 num tie) ?_
      rintro r ⟨num', ok, rfl, k1, k2⟩
      dsimp only
      refine hrr num' ok (fun e => ?_) (fun e => ?_)
      · obtain ⟨rfl, R⟩ := k1 e
        have hform : ∀ k w, A.1.testBit k = true → w < 4 → shN (clo (lkf A.2.1 kd w0) fr to (to s)) w0 b0 num 10 (4 * k + w) = A.2.2.1 k w + (if w = w0 ∧ (clo (lkf A.2.1 kd w0) fr to (to s)).testBit k = true then b0 else 0) := by
          intro k w hk' hw
          rw [shN_col (lt10_of ht hk') hw4 hw, hN k w hk' hw]
        have hrg : ∀ y, y < 2 → RG A.1 (fun k w => A.2.2.1 k w + (if w = w0 ∧ (clo (lkf A.2.1 kd w0) fr to (to s)).testBit k = true then b0 else 0)) y := by
          intro y hy k hk'
          dsimp only
          by_cases e2 : y = w0 ∧ (clo (lkf A.2.1 kd w0) fr to (to s)).testBit k = true
          · rw [if_pos e2]
            have := R k e2.2
            unfold shG at this
            rw [hN k w0 hk' hw4, Bool.and_eq_true] at this
            rw [e2.1]
            exact this.1
          · rw [if_neg e2, i32_00]
            exact hA.2.2.2.1 y (by omega) k hk'
        exact ⟨(A.1, A.2.1 ||| 2 ^ s, fun k w => A.2.2.1 k w + (if w = w0 ∧ (clo (lkf A.2.1 kd w0) fr to (to s)).testBit k = true then b0 else 0), A.2.2.2), Does3.mpr ⟨ha, hc, rfl, rfl, ⟨hrg 0 (by omega), hrg 1 (by omega)⟩, (LyA_sh hx).mpr ⟨b0, hb0.symm, fun q => absurd q hin, fun _ _ _ _ => rfl, fun _ _ _ _ _ => rfl⟩⟩, hform, rpT_or h6 hT⟩
      · rintro ⟨A', hA'⟩
        obtain ⟨-, -, -, -, hr2, hl⟩ := Does3.mp hA'
        obtain ⟨b1, h1, -, h3, -⟩ := (LyA_sh hx).mp hl
        rw [hb0] at h1
        subst h1
        obtain ⟨k, q1, q2⟩ := k2 e
        have h4 := h3 k w0 (hgth k q1) hw4
        rw [if_pos ⟨rfl, q1⟩] at h4
        have h5 : rngB (A'.2.2.1 k w0) w0 = true := by
          rcases hx with ⟨-, rfl⟩ | ⟨-, rfl⟩
          · exact hr2.1 k (hgth k q1)
          · exact hr2.2 k (hgth k q1)
        unfold shG at q2
        rw [hN k w0 (hgth k q1) hw4, ← h4, h5] at q2
        have : ¬ 2 ≤ w0 := hw2
        simp [this] at q2
theorem tie_col {s i : Nat} {v : Int32} {j w : Nat} (hi : i < 2) (hw : w < 2) (t : Nat → Int32) : upd t (2 * s + i) v (2 * j + w) = if j = s ∧ w = i then v else t (2 * j + w) := by
  unfold upd
  by_cases e : j = s ∧ w = i
  · rw [if_pos e, if_pos (by omega)]
  · rw [if_neg e, if_neg (by omega)]
theorem co_lay (H : HC S b nr kd fr to lb A.1 A.2.1) (hW : RW nr ns kd fr to) (hA : AI kd fr to lb ns nr A) (hN : rpN A.1 A.2.2.1 num) (hT : rpT kd A.2.1 A.2.2.2 tie) {s : Nat} (hs : s < nr) (q : Nat → Int32) (hk : (kd s = 0 ∨ kd s = 1 ∨ kd s = 2 ∨ kd s = 3 ∨ kd s = 4 ∨ kd s = 5) ∨ kd s = 6) : Ok (f_X0_layRule b (nI s) (wB S b (nI A.1) (nI A.2.1) num tie)) (OP S b kd fr to lb 3 s q A) := by
  have H' := H
  obtain ⟨hb, hR, hf, ht, hL⟩ := H
  have hn12 := hW.1
  have hR' : ∀ tie', RC (wB S b (nI A.1) (nI A.2.1) num tie') nr kd fr to := fun _ => wB_RC hb hR
  obtain ⟨r1, r2, r3, r4, r5⟩ := (hR' tie).2 s hs
  have hbad : (A.1.testBit (fr s) = true → A.1.testBit (to s) = true → False) → Ok (f_X0_layRule_b66 b (nI s) (wB S b (nI A.1) (nI A.2.1) num tie) (kd s) (nI (fr s)) (nI (to s))) (OP S b kd fr to lb 3 s q A) := by
    intro hno
    unfold f_X0_layRule_b66 f_X0_layRule_b67 f_X0_layRule_b72
    refine ok_fx 0 (fun _ v => v = (wB S b (nI A.1) (nI A.2.1) num tie, kd s, nI (fr s), nI (to s), 0, 0)) (fun i _ _ hi => absurd hi (by omega)) ?_ (FU_gt (by omega)) rfl
    rintro v rec rfl
    unfold F_X0_layRule_b72
    dsimp only
    rw [if_neg (by decide), if_pos rfl]
    refine lay_end (r := (wB S b (nI A.1) (nI A.2.1) num tie, 0)) (by omega) ⟨num, tie, false, rfl, fun q => absurd q (by decide), fun _ => ?_⟩
    rintro ⟨A', hA'⟩
    have := Does3.mp hA'
    exact hno this.1 this.2.1
  unfold f_X0_layRule
  rw [read7 _ 6 (by show s < 12; omega) (by decide), bsm, read7 _ 7 (by show s < 12; omega) (by decide), bsm, read7 _ 8 (by show s < 12; omega) (by decide), bsm, r1, r2, r3, wB_th, hasI7 _ (by omega) (by omega), bsm, ifb, hasI7 _ (by omega) (by omega), bsm, ifb]
  cases ha : A.1.testBit (fr s) with
  | false => rw [if_neg (by decide)]; exact hbad (fun q => by rw [ha] at q; exact absurd q (by decide))
  | true =>
    cases hc : A.1.testBit (to s) with
    | false => rw [if_pos rfl, if_neg (by decide)]; exact hbad (fun _ q => by rw [hc] at q; exact absurd q (by decide))
    | true =>
      rw [if_pos rfl, if_pos rfl]
      unfold f_X0_layRule_b67 f_X0_layRule_b72
      rcases hk with hk | hk
      · have hw : ∃ w0, kd s = 0 ∧ w0 = 2 ∨ kd s = 1 ∧ w0 = 3 ∨ (kd s = 2 ∨ kd s = 3) ∧ w0 = 0 ∨ (kd s = 4 ∨ kd s = 5) ∧ w0 = 1 := by
          rcases hk with h | h | h | h | h | h
          · exact ⟨2, Or.inl ⟨h, rfl⟩⟩
          · exact ⟨3, Or.inr (Or.inl ⟨h, rfl⟩)⟩
          · exact ⟨0, Or.inr (Or.inr (Or.inl ⟨Or.inl h, rfl⟩))⟩
          · exact ⟨0, Or.inr (Or.inr (Or.inl ⟨Or.inr h, rfl⟩))⟩
          · exact ⟨1, Or.inr (Or.inr (Or.inr ⟨Or.inl h, rfl⟩))⟩
          · exact ⟨1, Or.inr (Or.inr (Or.inr ⟨Or.inr h, rfl⟩))⟩
        obtain ⟨w0, hw⟩ := hw
        have hw4 : w0 < 4 := by omega
        have h6 : kd s ≠ 6 := by
          intro e
          rw [e] at hw
          rcases hw with h | h | h | h <;> exact absurd h.1 (by decide)
        refine ok_fx 4 (fun i v => i ≤ w0 ∧ v = (wB S b (nI A.1) (nI A.2.1) num tie, kd s, nI (fr s), nI (to s), 1, nI i) ∨ w0 < i ∧ ∃ r, MP S b kd fr to lb s q A r ∧ v = (r.1, kd s, nI (fr s), nI (to s), r.2, nI i)) ?_ ?_ (FU_gt (by omega)) (Or.inl ⟨by omega, rfl⟩)
        · rintro i v rec hi (⟨hiw, rfl⟩ | ⟨hiw, r, hr, rfl⟩) hrec
          · unfold F_X0_layRule_b72
            dsimp only
            rw [if_neg (le4n hi), if_neg (by decide), about7 _ _ hi, bsm, ifb, abt_w hw i hi]
            simp only [decide_eq_true_eq]
            by_cases e : i = w0
            · subst e
              rw [if_pos rfl, num7 hb (by omega) hi, bsm, num7 hb (by omega) hi, bsm, if_neg h6, wB_num, hN _ _ hc hi, hN _ _ ha hi]
              exact co_way H' hW hA hN hT hs q ha hc hw rec (fun r hr => hrec _ (Or.inr ⟨by omega, r, hr, rfl⟩))
            · rw [if_neg e]
              unfold f_X0_layRule_b217
              rw [nI_1]
              exact hrec _ (Or.inl ⟨by omega, rfl⟩)
          · unfold F_X0_layRule_b72
            dsimp only
            rw [if_neg (le4n hi), about7 _ _ hi, bsm, ifb, abt_w hw i hi]
            simp only [decide_eq_true_eq]
            by_cases e : r.2 = 0
            · rw [if_pos e]; exact lay_end (by omega) hr
            · rw [if_neg e, if_neg (by omega)]
              unfold f_X0_layRule_b217
              rw [nI_1]
              exact hrec _ (Or.inr ⟨by omega, r, hr, rfl⟩)
        · rintro v rec (⟨hiw, rfl⟩ | ⟨hiw, r, hr, rfl⟩)
          · omega
          · unfold F_X0_layRule_b72
            dsimp only
            rw [if_pos (by decide)]
            exact lay_end (by omega) hr
      · refine ok_fx 4 (fun i v => ∃ tie', v = (wB S b (nI A.1) (nI A.2.1) num tie', kd s, nI (fr s), nI (to s), 1, nI i) ∧ (∀ j w, w < 2 → ¬ (j = s) → tie' (2 * j + w) = tie (2 * j + w)) ∧ ∀ w, w < 2 → w < i → tie' (2 * s + w) = A.2.2.1 (to s) w - A.2.2.1 (fr s) w) ?_ ?_ (FU_gt (by omega)) ⟨tie, rfl, fun _ _ _ _ => rfl, fun w _ h => absurd h (by omega)⟩
        · rintro i v rec hi ⟨tie1, rfl, t1, t2⟩ hrec
          unfold F_X0_layRule_b72
          dsimp only
          rw [if_neg (le4n hi), if_neg (by decide), about7 _ _ hi, bsm, ifb]
          by_cases e : i < 2
          · have hab : abt (kd s) i = true := by
              rw [hk]
              rcases (by omega : i = 0 ∨ i = 1) with rfl | rfl <;> decide
            rw [if_pos hab, num7 hb (by omega) hi, bsm, num7 hb (by omega) hi, bsm, if_pos hk, wB_num, hN _ _ hc hi, hN _ _ ha hi, nI_2, put7 _ (b + 2) _ (by rw [alen_tie hb]; omega) (by rw [alen_tie hb]; omega), bsm, wB_sTie]
            have ho := RW_ok (w := i) hW hA.2.1
            have hgth := clo_th hA (w := i) hc
            unfold f_X0_layRule_b134 f_X0_layRule_b176 f_X0_layRule_b217
            rw [gap7 hb (hR' _) hs (Or.inl e), bsm, wB_num, wB_tie, group7 wB_fo (hR' _) hf r5 hi, bsm, hasI7 _ (by have := clo_lt ho r5; omega) (by omega), bsm, ifb, nI_1]
            have hg : gapC num (upd tie1 (2 * s + i) (A.2.2.1 (to s) i - A.2.2.1 (fr s) i)) kd fr s i = A.2.2.1 (to s) i - A.2.2.1 (fr s) i := by
              unfold gapC
              rw [if_neg (by rw [hk]; decide), if_pos hk, upd_at]
            rw [hg, i32_self, if_pos rfl, show (2 : Int32) = nI 2 from rfl, if_neg (fun h => absurd ((nI_leI (by omega) (by omega)).mp h) (by omega))]
            have hnx : Ok (rec (wB S b (nI A.1) (nI A.2.1) num (upd tie1 (2 * s + i) (A.2.2.1 (to s) i - A.2.2.1 (fr s) i)), kd s, nI (fr s), nI (to s), 1, nI (i + 1))) (OP S b kd fr to lb 3 s q A) := by
              refine hrec _ ⟨_, rfl, fun j w hw hj => ?_, fun w hw hwi => ?_⟩
              · rw [tie_col e hw, if_neg (fun q => hj q.1), t1 j w hw hj]
              · rw [tie_col e hw]
                by_cases e2 : w = i
                · rw [if_pos ⟨rfl, e2⟩, e2]
                · rw [if_neg (fun q => e2 q.2)]
                  exact t2 w hw (by omega)
            by_cases hin : (clo (lkf A.2.1 kd i) fr to (to s)).testBit (fr s) = true
            · rw [if_pos hin]; exact hnx
            · rw [if_neg hin]
              refine Ok.bind (cl_shift H' hgth (clo_lt ho r5) hi 0 num _) ?_
              rintro r ⟨num', ok, rfl, k1, k2⟩
              cases ok with
              | true =>
                obtain ⟨rfl, -⟩ := k1 rfl
                rw [shN_zero]
                exact hnx
              | false =>
                obtain ⟨k, q1, q2⟩ := k2 rfl
                unfold shG at q2
                rw [i32_00, hN k i (hgth k q1) hi, hA.2.2.2.1 i hi k (hgth k q1)] at q2
                simp at q2
          · have hab : abt (kd s) i = false := by
              rw [hk]
              rcases (by omega : i = 2 ∨ i = 3) with rfl | rfl <;> decide
            rw [hab, if_neg (by decide)]
            unfold f_X0_layRule_b217
            rw [nI_1]
            exact hrec _ ⟨tie1, rfl, t1, fun w hw hwi => t2 w hw (by omega)⟩
        · rintro v rec ⟨tie1, rfl, t1, t2⟩
          unfold F_X0_layRule_b72
          dsimp only
          rw [if_pos (by decide)]
          refine lay_end (r := (wB S b (nI A.1) (nI A.2.1) num tie1, 1)) (by omega) ⟨num, tie1, true, rfl, fun _ => ⟨(A.1, A.2.1 ||| 2 ^ s, A.2.2.1, fun j w => tie1 (2 * j + w)), Does3.mpr ⟨ha, hc, rfl, rfl, ⟨hA.2.2.2.1 0 (by omega), hA.2.2.2.1 1 (by omega)⟩, (LyA_tie hk).mpr ⟨fun _ _ _ _ => rfl, fun w hw => t2 w hw (by omega), fun j w hj hfj h6 hw => ?_⟩⟩, hN, fun _ _ _ _ _ => rfl⟩, fun q => absurd q (by decide)⟩
          show tie1 (2 * j + w) = _
          rw [t1 j w hw hj]
          exact hT j w hfj h6 hw
end
