/-! the model's tries against the acts of an abstract board -/
def RGt (th : Nat) (tr : Nat → Int32) : Prop := ∀ k, th.testBit k = true → rngB (tr (4 * k)) 0 = true ∧ rngB (tr (4 * k + 1)) 1 = true
def MFin (S : HS) (kd : Nat → Int32) (fr to : Nat → Nat) (lb : Nat → Bool) (d : Int32) (s : Nat) (q : Nat → Int32) (A : AB) (th fo : Nat) (tr tx ty : Nat → Int32) (f : Bool) : Prop := (f = false → RGt th tr → ∃ A', Does kd fr to lb d s q A A' ∧ A'.1 = th ∧ A'.2.1 = fo ∧ rpN th A'.2.2.1 tr ∧ rpM kd fo A'.2.2.2 tx ty) ∧ ((∃ A', Does kd fr to lb d s q A A') → f = false ∧ RGt th tr) ∧ ((tx = S.1 54 ∧ ty = S.1 55) ∨ (f = false ∧ RGt th tr))
section
variable {S : HS} {nm nr ns : Nat} {kd : Nat → Int32} {fr to : Nat → Nat} {lb : Nat → Bool} {A : AB}
theorem mt_fin (hM : MC S nm nr ns kd fr to lb) {d : Int32} {s : Nat} {q : Nat → Int32} {th fo : Nat} {tr tx ty : Nat → Int32} {f : Bool} (hth : ∀ k, th.testBit k = true → k < ns) (h : MFin S kd fr to lb d s q A th fo tr tx ty f) (hx : OUM S d A tr) (p : Int32) : Ok (f_X8_tries_b394 p (mF S tr (nI th) (nI fo) (bI f) tx ty)) (TRP S kd fr to lb d s q A) := by
  obtain ⟨g1, g2, g3⟩ := h
  have hns := hM.2.2.2.2.1
  have ht : th < 2 ^ 10 := by
    apply Nat.lt_pow_two_of_testBit
    intro i hi
    cases e : th.testBit i with
    | false => rfl
    | true => exact absurd (hth i e) (by omega)
  refine Ok.mono (tend8 hM ht p tr tx ty (nI fo) f) ?_
  rintro r ⟨ok, rfl, hok⟩
  have hR : (∀ k, k < ns → th.testBit k = true → rngB (tr (4 * k)) 0 = true ∧ rngB (tr (4 * k + 1)) 1 = true) ↔ RGt th tr := ⟨fun h k hk => h k (hth k hk) hk, fun h k _ hk => h k hk⟩
  rw [hR] at hok
  refine ⟨tr, nI th, nI fo, bI f, tx, ty, ok, rfl, fun e => ?_, fun e => ?_, hx⟩
  · obtain ⟨h1, h2⟩ := hok.mp e
    obtain ⟨A', a1, a2, a3, a4, a5⟩ := g1 h1 h2
    exact ⟨A', a1, by rw [a2], by rw [a3], by rw [a2]; exact a4, by rw [a3]; exact a5⟩
  · have hno : ¬ (f = false ∧ RGt th tr) := fun h => by rw [hok.mpr h] at e; exact absurd e (by decide)
    exact ⟨fun h => hno (g2 h), g3.resolve_right hno⟩
theorem Does0 {q : Nat → Int32} {s : Nat} {A' : AB} : Does kd fr to lb 0 s q A A' ↔ A'.1 = A.1 ||| 2 ^ s ∧ A'.2.1 = A.2.1 ∧ (∀ k w, A'.1.testBit k = true → w < 4 → A'.2.2.1 k w = if k = s then q w else A.2.2.1 k w) ∧ TSm kd A.2.1 A.2.2.2 A'.2.2.2 := by
  unfold Does
  rw [if_pos rfl]
theorem Does1 {q : Nat → Int32} {s : Nat} {A' : AB} : Does kd fr to lb 1 s q A A' ↔ A.1.testBit s = true ∧ A'.1 = A.1 ∧ A'.2.1 = A.2.1 ∧ TSm kd A.2.1 A.2.2.2 A'.2.2.2 ∧ (RG A.1 A'.2.2.1 0 ∧ RG A.1 A'.2.2.1 1) ∧ ∀ k w, A.1.testBit k = true → w < 4 → A'.2.2.1 k w = A.2.2.1 k w + (if w < 2 ∧ (clo (lkf A.2.1 kd w) fr to s).testBit k = true then q w - A.2.2.1 s w else 0) := by
  unfold Does
  rw [if_neg (by decide), if_pos rfl]
theorem Does2 {q : Nat → Int32} {s : Nat} {A' : AB} : Does kd fr to lb 2 s q A A' ↔ A.1.testBit s = true ∧ A'.1 = A.1 ∧ A'.2.1 = A.2.1 ∧ TSm kd A.2.1 A.2.2.2 A'.2.2.2 ∧ (RG A.1 A'.2.2.1 0 ∧ RG A.1 A'.2.2.1 1) ∧ ∃ N1, GrA kd fr to lb A.1 A.2.1 A.2.2.2 0 (clo (lkf A.2.1 kd 2) fr to s) s (q 2) A.2.2.1 N1 ∧ GrA kd fr to lb A.1 A.2.1 A.2.2.2 1 (clo (lkf A.2.1 kd 3) fr to s) s (q 3) N1 A'.2.2.1 := by
  unfold Does
  rw [if_neg (by decide), if_neg (by decide), if_pos rfl]
theorem Does4 {q : Nat → Int32} {s : Nat} {A' : AB} : Does kd fr to lb 4 s q A A' ↔ A.2.1.testBit s = true ∧ A'.1 = A.1 ∧ A'.2.1 = clr A.2.1 s ∧ NSm A.1 A.2.2.1 A'.2.2.1 ∧ TSm kd A.2.1 A.2.2.2 A'.2.2.2 := by
  unfold Does
  rw [if_neg (by decide), if_neg (by decide), if_neg (by decide), if_neg (by decide)]
theorem RGt_AI (hA : AI kd fr to lb ns nm A) {tr : Nat → Int32} (hN : rpN A.1 A.2.2.1 tr) : RGt A.1 tr := fun k hk => ⟨by rw [show 4 * k = 4 * k + 0 from rfl, hN k 0 hk (by omega)]; exact hA.2.2.2.1 0 (by omega) k hk, by rw [hN k 1 hk (by omega)]; exact hA.2.2.2.1 1 (by omega) k hk⟩
/-- the change of a class in the model's trial -/
theorem msz (hM : MC S nm nr ns kd fr to lb) (hW : RW nr ns kd fr to) (hA : AI kd fr to lb ns nm A) {x s : Nat} (hx : x < 2) (hs : A.1.testBit s = true) (v : Int32) {tr tx ty : Nat → Int32} {N : Nat → Nat → Int32} (hN : rpN A.1 N tr) (hT : rpM kd A.2.1 A.2.2.2 tx ty) (f : Bool) (tt : Int32) : Ok (f_X8_sizes (nI (clo (lkf A.2.1 kd (x + 2)) fr to s)) (nI (x + 2)) v (mF S tr tt (nI A.2.1) (bI f) tx ty)) (fun r => ∃ f' ch, r = (mF S (szN (clo (lkf A.2.1 kd (x + 2)) fr to s) (x + 2) v tr ns) tt (nI A.2.1) (bI f') tx ty, nI ch) ∧ ch < 2 ^ 10 ∧ (∀ k, ch.testBit k = true → k < ns) ∧ (∀ k, ch.testBit k = ((clo (lkf A.2.1 kd (x + 2)) fr to s).testBit k && decide (N k (x + 2) ≠ v))) ∧ (f' = false ↔ f = false ∧ ∀ k, (clo (lkf A.2.1 kd (x + 2)) fr to s).testBit k = true → lb k = true → N k (x + 2) = v)) := by
  have hs10 := lt10_of (AI_th hW (AI_mono hA hM.2.2.1)) hs
  have hg := clo_th (AI_mono hA hM.2.2.1) (w := x + 2) hs
  have ho : rOk (lkf A.2.1 kd (x + 2)) fr to := MC_ok hM hA.2.1
  refine Ok.mono (sizes8 hM (clo_lt ho hs10) (by omega) v tr tx ty tt (nI A.2.1) f) ?_
  rintro r ⟨f', ch, rfl, h1, h2, h3⟩
  have hNk : ∀ k, (clo (lkf A.2.1 kd (x + 2)) fr to s).testBit k = true → tr (4 * k + (x + 2)) = N k (x + 2) := fun k hk => hN k _ (hg k hk) (by omega)
  refine ⟨f', ch, rfl, h1, fun k hk => ((h2 k).mp hk).1, fun k => ?_, ?_⟩
  · rw [Bool.eq_iff_iff, h2 k, Bool.and_eq_true, decide_eq_true_eq]
    constructor
    · rintro ⟨a1, a2, a3⟩
      exact ⟨a2, by rw [← hNk k a2]; exact a3⟩
    · rintro ⟨a2, a3⟩
      exact ⟨hA.1 k (hg k a2), a2, by rw [hNk k a2]; exact a3⟩
  · constructor
    · intro e
      constructor
      · cases hf : f with
        | false => rfl
        | true => rw [h3.mpr (Or.inl hf)] at e; exact absurd e (by decide)
      · intro k hk hl
        apply Classical.byContradiction
        intro q
        rw [h3.mpr (Or.inr ⟨k, hA.1 k (hg k hk), hk, by rw [hNk k hk]; exact q, hl⟩)] at e
        exact absurd e (by decide)
    · rintro ⟨e1, e2⟩
      cases hf : f' with
      | false => rfl
      | true =>
        rcases h3.mp hf with h | ⟨k, k1, k2, k3, k4⟩
        · rw [e1] at h; exact absurd h (by decide)
        · rw [hNk k k2] at k3
          exact absurd (e2 k k2 k4) k3
def LPM (S : HS) (kd : Nat → Int32) (fr to : Nat → Nat) (lb : Nat → Bool) (s : Nat) (q : Nat → Int32) (A : AB) (r : HS) : Prop := ∃ tr f tx ty, r = mF S tr (nI A.1) (nI (A.2.1 ||| 2 ^ s)) (bI f) tx ty ∧ MFin S kd fr to lb 3 s q A A.1 (A.2.1 ||| 2 ^ s) tr tx ty f
theorem rpM_or {s : Nat} {T : Nat → Nat → Int32} {tx ty : Nat → Int32} (hs : kd s ≠ 6) (h : rpM kd A.2.1 T tx ty) : rpM kd (A.2.1 ||| 2 ^ s) T tx ty := by
  intro j hj h6
  rw [fb_bit_set, Bool.or_eq_true, decide_eq_true_eq] at hj
  rcases hj with hj | rfl
  · exact h j hj h6
  · exact absurd h6 hs
theorem i32_mg {a g c : Int32} : a + g - c = g - (c - a) := by grind
theorem lays8 (hM : MC S nm nr ns kd fr to lb) (hW : RW nr ns kd fr to) (hA : AI kd fr to lb ns nm A) {s : Nat} (hs : s < nr) {q : Nat → Int32} (hk : (kd s = 0 ∨ kd s = 1 ∨ kd s = 2 ∨ kd s = 3 ∨ kd s = 4 ∨ kd s = 5) ∨ kd s = 6) (ha : A.1.testBit (fr s) = true) (hc : A.1.testBit (to s) = true) {tr : Nat → Int32} (hN : rpN A.1 A.2.2.1 tr) (hT : rpM kd A.2.1 A.2.2.2 (S.1 54) (S.1 55)) : Ok (f_X8_lays (nI s) (mF S tr (nI A.1) (nI A.2.1) 0 (S.1 54) (S.1 55))) (LPM S kd fr to lb s q A) := by
  have hM' := hM
  obtain ⟨m1, m2, m3, m4, m5, m6, m7⟩ := hM
  obtain ⟨r1, r2, r3, r4, r5⟩ := m6 s hs
  have hAr : AI kd fr to lb ns nr A := AI_mono hA m3
  have hfo : A.2.1 < 2 ^ 12 := fok_lt hA.2.1 (by omega)
  have hth := AI_th hW hAr
  have e42 : ∀ tr tf fl tx ty, (mF S tr (nI A.1) tf fl tx ty).1 42 s = kd s := fun _ _ _ _ _ => r1
  have e43 : ∀ tr tf fl tx ty, (mF S tr (nI A.1) tf fl tx ty).1 43 s = nI (fr s) := fun _ _ _ _ _ => r2
  have e44 : ∀ tr tf fl tx ty, (mF S tr (nI A.1) tf fl tx ty).1 44 s = nI (to s) := fun _ _ _ _ _ => r3
  have e27 : ∀ tr tf fl tx ty, (mF S tr (nI A.1) tf fl tx ty).1 36 27 = tf := fun _ _ _ _ _ => rfl
  have e28 : ∀ tr tf fl tx ty, (mF S tr (nI A.1) tf fl tx ty).1 36 28 = fl := fun _ _ _ _ _ => rfl
  have e56 : ∀ tr tf fl tx ty k, (mF S tr (nI A.1) tf fl tx ty).1 56 k = tr k := fun _ _ _ _ _ _ => rfl
  have hend : ∀ (tr' tx ty : Nat → Int32) (f : Bool), MFin S kd fr to lb 3 s q A A.1 (A.2.1 ||| 2 ^ s) tr' tx ty f → Ok (f_X8_lays_b235 (nI s) (mF S tr' (nI A.1) (nI A.2.1) (bI f) tx ty)) (LPM S kd fr to lb s q A) := by
    intro tr' tx ty f h
    unfold f_X8_lays_b235
    rw [e27, shl1 (by omega), fa_or, mF_sTf]
    exact ⟨_, rfl, tr', f, tx, ty, rfl, h⟩
  unfold f_X8_lays
  simp only [if_pos (ib_nI (show s < 12 by omega) (by omega)), nI_cl (show s < 2 ^ 31 by omega), e42, e43, e44]
  rcases hk with hk | hk
  · by_cases hsz : kd s = 0 ∨ kd s = 1
    · -- sizes
      obtain ⟨x, hx⟩ : ∃ x, kd s = 0 ∧ x = 0 ∨ kd s = 1 ∧ x = 1 := by
        rcases hsz with h | h
        · exact ⟨0, Or.inl ⟨h, rfl⟩⟩
        · exact ⟨1, Or.inr ⟨h, rfl⟩⟩
      have hx2 : x < 2 := by omega
      have hkx : kd s = nI x := by
        rcases hx with ⟨h, rfl⟩ | ⟨h, rfl⟩ <;> rw [h] <;> rfl
      have h6 : kd s ≠ 6 := by rcases hsz with h | h <;> rw [h] <;> decide
      rw [if_neg (by rcases hsz with h | h <;> rw [h] <;> decide)]
      have i1 : (2 : Int32) + kd s = nI (x + 2) := by rw [hkx, show (2 : Int32) = nI 2 from rfl, nI_add, Nat.add_comm]
      have i2 : (4 : Int32) * nI (fr s) + 2 + kd s = nI (4 * fr s + (x + 2)) := by rw [hkx, show (4 : Int32) = nI 4 from rfl, show (2 : Int32) = nI 2 from rfl, pk_mul, nI_add, nI_add, show 4 * fr s + 2 + x = 4 * fr s + (x + 2) by omega]
      rw [i1, i2, e27, part8 (MC_F hM') hA.2.1 r5 (by omega), bsm, if_pos (ib_nI (show 4 * fr s + (x + 2) < 40 by omega) (by omega)), nI_cl (by omega), e56, hN _ _ ha (by omega), show (0 : Int32) = bI false from rfl]
      have hg := clo_th hAr (w := x + 2) hc
      refine Ok.bind (msz hM' hW hA hx2 hc (A.2.2.1 (fr s) (x + 2)) hN hT false (nI A.1)) ?_
      rintro r ⟨f1, ch, rfl, c1, c2, c3, c4⟩
      dsimp only
      rw [hkx]
      refine Ok.bind (settles8 hM' hA.2.1 hx2 r4 c1 c2 _ _ _ (nI A.1) f1) ?_
      rintro r ⟨tr2, ok, rfl, o1, o2⟩
      have hz : ∀ k u, A.1.testBit k = true → u < 4 → szN (clo (lkf A.2.1 kd (x + 2)) fr to (to s)) (x + 2) (A.2.2.1 (fr s) (x + 2)) tr ns (4 * k + u) = if u = x + 2 ∧ (clo (lkf A.2.1 kd (x + 2)) fr to (to s)).testBit k = true then A.2.2.1 (fr s) (x + 2) else A.2.2.1 k u := by
        intro k u hk hu
        rw [szN_col (hA.1 k hk) (by omega) hu, hN k u hk hu]
      have hzz : ∀ k, A.1.testBit k = true → szN (clo (lkf A.2.1 kd (x + 2)) fr to (to s)) (x + 2) (A.2.2.1 (fr s) (x + 2)) tr ns (4 * k + (x + 2)) = if (clo (lkf A.2.1 kd (x + 2)) fr to (to s)).testBit k = true then A.2.2.1 (fr s) (x + 2) else A.2.2.1 k (x + 2) := by
        intro k hk
        rw [hz k (x + 2) hk (by omega)]
        by_cases e : (clo (lkf A.2.1 kd (x + 2)) fr to (to s)).testBit k = true
        · rw [if_pos ⟨rfl, e⟩, if_pos e]
        · rw [if_neg (fun q => e q.2), if_neg e]
      obtain ⟨g1, g2⟩ := mgr hW hAr hx2 hg hzz (fun k hk => by rw [hz k x hk (by omega), if_neg (by omega)]) hT c3 o2
      have hcol2 : ∀ k, A.1.testBit k = true → tr2 (4 * k + (x + 2)) = if (clo (lkf A.2.1 kd (x + 2)) fr to (to s)).testBit k = true then A.2.2.1 (fr s) (x + 2) else A.2.2.1 k (x + 2) := fun k hk => by rw [o1 _ (by omega)]; exact hzz k hk
      have hcolo : ∀ k w, A.1.testBit k = true → w < 4 → w ≠ x → w ≠ x + 2 → tr2 (4 * k + w) = A.2.2.1 k w := fun k w hk hw w1 w2 => by rw [o1 _ (by omega), hz k w hk hw, if_neg (fun q => w2 q.1)]
      refine hend tr2 _ _ (f1 || !ok) ⟨fun e hr => ?_, ?_, Or.inl ⟨rfl, rfl⟩⟩
      · rw [Bool.or_eq_false_iff, Bool.not_eq_false'] at e
        obtain ⟨e1, e2⟩ := e
        have G := g1 e2 (c4.mp e1).2 (fun k w => tr2 (4 * k + w)) (fun k _ => rfl) hcol2 hcolo
        exact ⟨(A.1, A.2.1 ||| 2 ^ s, fun k w => tr2 (4 * k + w), A.2.2.2), Does3.mpr ⟨ha, hc, rfl, rfl, ⟨fun k hk => (hr k hk).1, fun k hk => (hr k hk).2⟩, (LyA_sz hx).mpr ⟨G, fun _ _ _ _ _ => rfl⟩⟩, rfl, rfl, fun _ _ _ _ => rfl, rpM_or h6 hT⟩
      · rintro ⟨A', hA'⟩
        obtain ⟨-, -, -, -, hr2, hl⟩ := Does3.mp hA'
        obtain ⟨hG, -⟩ := (LyA_sz hx).mp hl
        obtain ⟨k1, k2⟩ := g2 _ hG
        have hlab := c4.mpr ⟨rfl, hG.1⟩
        refine ⟨by rw [hlab, k1]; rfl, fun k hk => ?_⟩
        have hw : ∀ w, w < 2 → tr2 (4 * k + w) = A'.2.2.1 k w := by
          intro w hw
          by_cases e : w = x
          · rw [e, k2 k hk]; rfl
          · rw [hcolo k w hk (by omega) e (by omega), hG.2.2.1 k w hk (by omega) e (by omega)]
        exact ⟨by rw [show 4 * k = 4 * k + 0 from rfl, hw 0 (by omega)]; exact hr2.1 k hk, by rw [hw 1 (by omega)]; exact hr2.2 k hk⟩
    · -- places
      have hx : ∃ w0, (kd s = 2 ∨ kd s = 3) ∧ w0 = 0 ∨ (kd s = 4 ∨ kd s = 5) ∧ w0 = 1 := by
        rcases hk with h | h | h | h | h | h
        · exact absurd (Or.inl h) hsz
        · exact absurd (Or.inr h) hsz
        · exact ⟨0, Or.inl ⟨Or.inl h, rfl⟩⟩
        · exact ⟨0, Or.inl ⟨Or.inr h, rfl⟩⟩
        · exact ⟨1, Or.inr ⟨Or.inl h, rfl⟩⟩
        · exact ⟨1, Or.inr ⟨Or.inr h, rfl⟩⟩
      obtain ⟨w0, hx⟩ := hx
      have hw2 : w0 < 2 := by omega
      have h6 : kd s ≠ 6 := by
        rcases hx with ⟨h | h, -⟩ | ⟨h | h, -⟩ <;> rw [h] <;> decide
      have hmain : Ok (f_X8_lays_b147 (nI s) (mF S tr (nI A.1) (nI A.2.1) 0 (S.1 54) (S.1 55)) (nI (fr s)) (nI (to s)) (nI w0)) (LPM S kd fr to lb s q A) := by
        have ho : rOk (lkf A.2.1 kd w0) fr to := MC_ok hM' hA.2.1
        have hclt := clo_lt ho r5
        have hg := clo_th hAr (w := w0) hc
        have hgap : gapM tr (S.1 54) (S.1 55) kd fr s w0 = if kd s = 2 ∨ kd s = 4 then A.2.2.1 (fr s) (w0 + 2) else 0 := by
          unfold gapM
          rw [if_neg h6]
          by_cases e : kd s = 2 ∨ kd s = 4
          · rw [if_pos e, if_pos e, show 4 * fr s + 2 + w0 = 4 * fr s + (w0 + 2) by omega, hN _ _ ha (by omega)]
          · rw [if_neg e, if_neg e]
        unfold f_X8_lays_b147 f_X8_lays_b217 f_X8_lays_b221 f_X8_lays_b222
        rw [e27, part8 (MC_F hM') hA.2.1 r5 (by omega), bsm, idx4, idx4, if_pos (ib_nI (show 4 * fr s + w0 < 40 by omega) (by omega)), step8 hM' hs hw2, bsm, if_pos (ib_nI (show 4 * to s + w0 < 40 by omega) (by omega)), nI_cl (by omega), nI_cl (by omega), e56, e56, e28, if_pos rfl, hN _ _ ha (by omega), hN _ _ hc (by omega), hgap, i32_mg, has8 _ (by omega) (by omega), bsm, ifb, nz_0, nz_1, mF_sFl, mF_sFl, if_pos rfl, if_pos rfl, shifts8 hM' hclt (by omega), shifts8 hM' hclt (by omega), bsm, bsm]
        generalize hb0 : (if kd s = 2 ∨ kd s = 4 then A.2.2.1 (fr s) (w0 + 2) else 0) - (A.2.2.1 (to s) w0 - A.2.2.1 (fr s) w0) = b0
        have hform : ∀ k w, A.1.testBit k = true → w < 4 → shN (clo (lkf A.2.1 kd w0) fr to (to s)) w0 b0 tr ns (4 * k + w) = A.2.2.1 k w + (if w = w0 ∧ (clo (lkf A.2.1 kd w0) fr to (to s)).testBit k = true then b0 else 0) := fun k w hk hw => by rw [shN_coln (hA.1 k hk) (by omega) hw, hN k w hk hw]
        have hgo : ∀ f, (f = false ↔ ((clo (lkf A.2.1 kd w0) fr to (to s)).testBit (fr s) = true → b0 = 0)) → Ok (f_X8_lays_b235 (nI s) (mF S (shN (clo (lkf A.2.1 kd w0) fr to (to s)) w0 b0 tr ns) (nI A.1) (nI A.2.1) (bI f) (S.1 54) (S.1 55))) (LPM S kd fr to lb s q A) := by
          intro f hf
          refine hend _ _ _ f ⟨fun e hr => ⟨(A.1, A.2.1 ||| 2 ^ s, fun k w => shN (clo (lkf A.2.1 kd w0) fr to (to s)) w0 b0 tr ns (4 * k + w), A.2.2.2), Does3.mpr ⟨ha, hc, rfl, rfl, ⟨fun k hk => (hr k hk).1, fun k hk => (hr k hk).2⟩, (LyA_sh hx).mpr ⟨b0, hb0.symm, hf.mp e, hform, fun _ _ _ _ _ => rfl⟩⟩, rfl, rfl, fun _ _ _ _ => rfl, rpM_or h6 hT⟩, ?_, Or.inl ⟨rfl, rfl⟩⟩
          rintro ⟨A', hA'⟩
          obtain ⟨-, -, -, -, hr2, hl⟩ := Does3.mp hA'
          obtain ⟨b1, h1, h2, h3, -⟩ := (LyA_sh hx).mp hl
          rw [hb0] at h1
          subst h1
          refine ⟨hf.mpr h2, fun k hk => ⟨?_, ?_⟩⟩
          · rw [show 4 * k = 4 * k + 0 from rfl, hform k 0 hk (by omega), ← h3 k 0 hk (by omega)]
            exact hr2.1 k hk
          · rw [hform k 1 hk (by omega), ← h3 k 1 hk (by omega)]
            exact hr2.2 k hk
        by_cases e0 : b0 = 0
        · rw [if_pos e0]
          exact hgo false ⟨fun _ _ => e0, fun _ => rfl⟩
        · rw [if_neg e0]
          cases hin : (clo (lkf A.2.1 kd w0) fr to (to s)).testBit (fr s) with
          | true =>
            rw [if_pos rfl]
            exact hgo true ⟨fun q => absurd q (by decide), fun q => absurd (q hin) e0⟩
          | false =>
            rw [if_neg (by decide)]
            exact hgo false ⟨fun _ q => by rw [hin] at q; exact absurd q (by decide), fun _ => rfl⟩
      rcases hx with ⟨h | h, rfl⟩ | ⟨h | h, rfl⟩
      · rw [h, if_pos (by decide), if_neg (by decide), if_neg (by decide)]; exact hmain
      · rw [h, if_pos (by decide), if_neg (by decide), if_neg (by decide)]; exact hmain
      · rw [h, if_pos (by decide), if_neg (by decide), if_pos (by decide)]; exact hmain
      · rw [h, if_pos (by decide), if_neg (by decide), if_pos (by decide)]; exact hmain
  · rw [if_pos (by rw [hk]; decide), if_pos hk]
    have i0 : ∀ k, (4 : Int32) * nI k = nI (4 * k) := fun k => by rw [show (4 : Int32) = nI 4 from rfl, pk_mul]
    rw [i0, i0, nI_1, nI_1, if_pos (ib_nI (show 4 * to s < 40 by omega) (by omega)), if_pos (ib_nI (show 4 * fr s < 40 by omega) (by omega)), if_pos (ib_nI (show 4 * to s + 1 < 40 by omega) (by omega)), if_pos (ib_nI (show 4 * fr s + 1 < 40 by omega) (by omega)), nI_cl (show 4 * to s < 2 ^ 31 by omega), nI_cl (show 4 * fr s < 2 ^ 31 by omega), nI_cl (show 4 * to s + 1 < 2 ^ 31 by omega), nI_cl (show 4 * fr s + 1 < 2 ^ 31 by omega), mF_sTx, mF_sTy, e56, e56, e56, e56, show tr (4 * to s) = A.2.2.1 (to s) 0 from hN _ 0 hc (by omega), show tr (4 * fr s) = A.2.2.1 (fr s) 0 from hN _ 0 ha (by omega), hN _ 1 hc (by omega), hN _ 1 ha (by omega)]
    have hR := RGt_AI hA hN
    refine hend tr _ _ false ⟨fun _ _ => ⟨(A.1, A.2.1 ||| 2 ^ s, A.2.2.1, fun j w => if j = s then A.2.2.1 (to s) w - A.2.2.1 (fr s) w else A.2.2.2 j w), Does3.mpr ⟨ha, hc, rfl, rfl, ⟨hA.2.2.2.1 0 (by omega), hA.2.2.2.1 1 (by omega)⟩, (LyA_tie hk).mpr ⟨fun _ _ _ _ => rfl, fun w hw => if_pos rfl, fun j w hj _ _ _ => if_neg hj⟩⟩, rfl, rfl, hN, fun j hj h6 => ?_⟩, fun _ => ⟨rfl, hR⟩, Or.inr ⟨rfl, hR⟩⟩
    dsimp only
    by_cases e : j = s
    · rw [e, if_pos rfl, if_pos rfl, upd_at, upd_at]
      exact ⟨rfl, rfl⟩
    · rw [if_neg e, if_neg e, upd_ne e, upd_ne e]
      rw [fb_bit_set, Bool.or_eq_true, decide_eq_true_eq] at hj
      exact hT j (hj.resolve_right e) h6
end
