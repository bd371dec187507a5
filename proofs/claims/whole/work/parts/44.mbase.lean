/-! the model's loops over what it tries -/
def mF (S : HS) (tr : Nat → Int32) (tt tf fl : Int32) (tx ty : Nat → Int32) : HS := (fun h => if h = 36 then (fun k => if k = 25 then tt else if k = 27 then tf else if k = 28 then fl else S.1 36 k) else if h = 56 then tr else if h = 54 then tx else if h = 55 then ty else S.1 h, S.2)
section
variable {S : HS} {tr tx ty : Nat → Int32} {tt tf fl : Int32}
theorem mF_sTr {k : Nat} {v : Int32} : sI (mF S tr tt tf fl tx ty) 56 k v = mF S (upd tr k v) tt tf fl tx ty := by
  unfold mF sI
  refine Prod.ext ?_ rfl
  funext h
  dsimp only
  by_cases h1 : h = 56
  · subst h1; rfl
  · simp only [if_neg h1]
theorem mF_sTx {k : Nat} {v : Int32} : sI (mF S tr tt tf fl tx ty) 54 k v = mF S tr tt tf fl (upd tx k v) ty := by
  unfold mF sI
  refine Prod.ext ?_ rfl
  funext h
  dsimp only
  by_cases h1 : h = 54
  · subst h1; rfl
  · simp only [if_neg h1]
theorem mF_sTy {k : Nat} {v : Int32} : sI (mF S tr tt tf fl tx ty) 55 k v = mF S tr tt tf fl tx (upd ty k v) := by
  unfold mF sI
  refine Prod.ext ?_ rfl
  funext h
  dsimp only
  by_cases h1 : h = 55
  · subst h1; rfl
  · simp only [if_neg h1]
theorem mF_s36 {k : Nat} {v : Int32} (f : Nat → Int32) (tt' tf' fl' : Int32) (hf : upd (fun k => if k = 25 then tt else if k = 27 then tf else if k = 28 then fl else S.1 36 k) k v = fun k => if k = 25 then tt' else if k = 27 then tf' else if k = 28 then fl' else S.1 36 k) : sI (mF S tr tt tf fl tx ty) 36 k v = mF S tr tt' tf' fl' tx ty := by
  unfold mF sI
  refine Prod.ext ?_ rfl
  funext h
  dsimp only
  by_cases h1 : h = 36
  · subst h1
    simp only [if_true]
    exact hf
  · rw [if_neg h1, if_neg h1, if_neg h1]
theorem mF_sFl {v : Int32} : sI (mF S tr tt tf fl tx ty) 36 28 v = mF S tr tt tf v tx ty := by
  refine mF_s36 (fun _ => 0) tt tf v ?_
  funext k
  unfold upd
  by_cases h : k = 28
  · subst h; rfl
  · simp only [if_neg h]
theorem mF_sTf {v : Int32} : sI (mF S tr tt tf fl tx ty) 36 27 v = mF S tr tt v fl tx ty := by
  refine mF_s36 (fun _ => 0) tt v fl ?_
  funext k
  unfold upd
  by_cases h : k = 27
  · subst h; rfl
  · simp only [if_neg h]
theorem mF_sTt {v : Int32} : sI (mF S tr tt tf fl tx ty) 36 25 v = mF S tr v tf fl tx ty := by
  refine mF_s36 (fun _ => 0) v tf fl ?_
  funext k
  unfold upd
  by_cases h : k = 25
  · subst h; rfl
  · simp only [if_neg h]
theorem mF_self : mF S (S.1 56) (S.1 36 25) (S.1 36 27) (S.1 36 28) (S.1 54) (S.1 55) = S := by
  unfold mF
  refine Prod.ext ?_ rfl
  funext h
  dsimp only
  by_cases h1 : h = 36
  · subst h1
    rw [if_pos rfl]
    funext k
    by_cases k1 : k = 25
    · subst k1; rfl
    · rw [if_neg k1]
      by_cases k2 : k = 27
      · subst k2; rfl
      · rw [if_neg k2]
        by_cases k3 : k = 28
        · subst k3; rfl
        · rw [if_neg k3]
  · rw [if_neg h1]
    by_cases h2 : h = 56
    · subst h2; rfl
    · rw [if_neg h2]
      by_cases h3 : h = 54
      · subst h3; rfl
      · rw [if_neg h3]
        by_cases h4 : h = 55
        · subst h4; rfl
        · rw [if_neg h4]
end
/-- the model's rows of rules and shapes: nm rules and ns shapes are counted, the rows of nr rules stand -/
def MC (S : HS) (nm nr ns : Nat) (kd : Nat → Int32) (fr to : Nat → Nat) (lb : Nat → Bool) : Prop := S.1 36 7 = nI nm ∧ S.1 36 2 = nI ns ∧ nm ≤ nr ∧ nr ≤ 12 ∧ ns ≤ 10 ∧ (∀ k, k < nr → S.1 42 k = kd k ∧ S.1 43 k = nI (fr k) ∧ S.1 44 k = nI (to k) ∧ fr k < 10 ∧ to k < 10) ∧ ∀ k, k < ns → S.1 38 k = bI (lb k)
theorem MC_F {S : HS} {tr tx ty : Nat → Int32} {tt tf fl : Int32} {nm nr ns : Nat} {kd : Nat → Int32} {fr to : Nat → Nat} {lb : Nat → Bool} (h : MC S nm nr ns kd fr to lb) : MC (mF S tr tt tf fl tx ty) nm nr ns kd fr to lb := h
theorem joins8 (S : HS) (kd : Int32) {w : Nat} (hw : w < 4) : f_X8_joins kd (nI w) S = some (bI (abt kd w)) := by
  match w, hw with
  | 0, _ =>
    show f_X8_joins kd 0 S = _
    unfold f_X8_joins f_X8_joins_b20 f_X8_joins_b25 abt
    rw [if_pos rfl]
    by_cases h1 : kd = 2
    · simp [h1, nz_1, bI]
    · by_cases h2 : kd = 3
      · simp [h2, nz_1, bI]
      · by_cases h3 : kd = 6
        · simp [h3, nz_1, bI]
        · simp [h1, h2, h3, nz_0, bI]
  | 1, _ =>
    show f_X8_joins kd 1 S = _
    unfold f_X8_joins f_X8_joins_b47 f_X8_joins_b74 abt
    rw [if_neg (by decide), if_pos rfl]
    by_cases h1 : kd = 4
    · simp [h1, nz_1, bI]
    · by_cases h2 : kd = 5
      · simp [h2, nz_1, bI]
      · by_cases h3 : kd = 6
        · simp [h3, nz_1, bI]
        · simp [h1, h2, h3, nz_0, bI]
  | 2, _ =>
    show f_X8_joins kd 2 S = _
    unfold f_X8_joins f_X8_joins_b66 f_X8_joins_b74 abt
    rw [if_neg (by decide), if_neg (by decide), if_pos rfl]
    by_cases h1 : kd = 0
    · simp [h1, nz_1, bI]
    · simp [h1, nz_0, bI]
  | 3, _ =>
    show f_X8_joins kd 3 S = _
    unfold f_X8_joins f_X8_joins_b66 f_X8_joins_b74 abt
    rw [if_neg (by decide), if_neg (by decide), if_neg (by decide)]
    by_cases h1 : kd = 1
    · simp [h1, nz_1, bI]
    · simp [h1, nz_0, bI]
theorem rPass_nm {lk : Nat → Bool} {fr to : Nat → Nat} {nm : Nat} (h : ∀ j, lk j = true → j < nm) (g : Nat) : ∀ d, rPass lk fr to (nm + d) g = rPass lk fr to nm g
  | 0 => rfl
  | d + 1 => by
    show rStep lk fr to (nm + d) (rPass lk fr to (nm + d) g) = _
    rw [rPass_nm h g d]
    unfold rStep
    rw [if_neg (fun q => absurd (h _ q.1) (by omega))]
def prv (lk : Nat → Bool) (fr to : Nat → Nat) (s : Nat) : Nat → Nat
  | 0 => 0
  | j + 1 => rIter lk fr to 12 j (2 ^ s)
theorem nlt_le {i n : Nat} (h : i < n) (hn : n < 2 ^ 31) : ¬ nI n ≤ nI i := by rw [nI_leI hn (by omega)]; omega
theorem nle_nI (n : Nat) : nI n ≤ nI n := Int32.le_refl _
section
variable {S : HS} {nm nr ns : Nat} {kd : Nat → Int32} {fr to : Nat → Nat} {lb : Nat → Bool}
theorem part8 (hM : MC S nm nr ns kd fr to lb) {fo s w : Nat} (hf : fok fo nm) (hs : s < 10) (hw : w < 4) : f_X8_partOf (nI s) (nI w) (nI fo) S = some (nI (clo (lkf fo kd w) fr to s)) := by
  obtain ⟨m1, m2, m3, m4, m5, m6, m7⟩ := hM
  have hfo : fo < 2 ^ 12 := fok_lt hf (by omega)
  have hlk : ∀ j, lkf fo kd w j = true → j < nm := fun j hj => lkf_nr hf hj
  have ho : rOk (lkf fo kd w) fr to := fun k hk => by
    have := m6 k (by have := hlk k hk; omega)
    exact ⟨this.2.2.2.1, this.2.2.2.2⟩
  have h12 : ∀ g, rPass (lkf fo kd w) fr to 12 g = rPass (lkf fo kd w) fr to nm g := fun g => by
    have := rPass_nm (fr := fr) (to := to) hlk g (12 - nm)
    rw [show nm + (12 - nm) = 12 by omega] at this
    exact this
  apply ok_eq
  unfold f_X8_partOf f_X8_partOf_b8
  rw [shl1 (by omega)]
  refine ok_fx 11 (fun j v => v = (nI (rIter (lkf fo kd w) fr to 12 j (2 ^ s)), nI (prv (lkf fo kd w) fr to s j))) ?_ ?_ (FU_gt (by omega)) rfl
  · rintro j v rec hj rfl hrec
    have hlt := rIter_lt ho 12 j (pow_lt10 hs)
    unfold F_X8_partOf_b8
    dsimp only
    have hend : rIter (lkf fo kd w) fr to 12 j (2 ^ s) = (prv (lkf fo kd w) fr to s j) → rIter (lkf fo kd w) fr to 12 j (2 ^ s) = clo (lkf fo kd w) fr to s := by
      match j with
      | 0 => intro h; exact absurd h (by show ¬ 2 ^ s = 0; exact Nat.ne_of_gt (Nat.pow_pos (by omega)))
      | j + 1 =>
        intro h
        have h2 : rPass (lkf fo kd w) fr to 12 (rIter (lkf fo kd w) fr to 12 j (2 ^ s)) = rIter (lkf fo kd w) fr to 12 j (2 ^ s) := h
        rw [h]
        exact clo_of_fix ho hs h2
    have hlt2 : (prv (lkf fo kd w) fr to s j) < 2 ^ 10 := by
      match j with
      | 0 => show 0 < 2 ^ 10; omega
      | j + 1 => exact rIter_lt ho 12 j (pow_lt10 hs)
    by_cases e : rIter (lkf fo kd w) fr to 12 j (2 ^ s) = (prv (lkf fo kd w) fr to s j)
    · rw [if_pos (congrArg nI e), hend e]
      exact ⟨_, rfl, rfl⟩
    · rw [if_neg (fun q => e ((nI_eq (by omega) (by omega)).mp q))]
      unfold f_X8_partOf_b22
      generalize hg : rIter (lkf fo kd w) fr to 12 j (2 ^ s) = g
      rw [hg] at hlt
      refine ok_fx nm (fun k v => v = (nI (rPass (lkf fo kd w) fr to k g), nI g, nI k)) ?_ ?_ (FU_gt (by omega)) rfl
      · rintro k v rec2 hk rfl hrec2
        obtain ⟨r1, r2, r3, r4, r5⟩ := m6 k (by omega)
        have hp := rPass_lt ho k hlt
        unfold F_X8_partOf_b22 f_X8_partOf_b84 f_X8_partOf_b108
        dsimp only
        have hn := hrec2 _ rfl
        have hst : rPass (lkf fo kd w) fr to (k + 1) g = rStep (lkf fo kd w) fr to k (rPass (lkf fo kd w) fr to k g) := rfl
        rw [hst] at hn
        generalize rPass (lkf fo kd w) fr to k g = p at hp hn ⊢
        rw [m1, if_neg (nlt_le hk (by omega)), has8 _ (by omega) (by omega)]
        simp only [bsm, ifb, if_pos (ib_nI (show k < 12 by omega) (by omega)), nI_cl (show k < 2 ^ 31 by omega), r1, r2, r3, joins8 _ _ hw, has8 _ (show p < 2 ^ 31 by omega) (show fr k < 31 by omega), has8 _ (show p < 2 ^ 31 by omega) (show to k < 31 by omega), shl1 (show fr k < 31 by omega), shl1 (show to k < 31 by omega), fa_or, nI_1]
        unfold rStep at hn
        rw [show lkf fo kd w k = (fo.testBit k && abt (kd k) w) from rfl] at hn
        cases h1 : fo.testBit k with
        | false => simpa [h1] using hn
        | true =>
          cases h2 : abt (kd k) w with
          | false => simpa [h1, h2] using hn
          | true =>
            cases h3 : p.testBit (fr k) with
            | true => simpa [h1, h2, h3] using hn
            | false =>
              cases h4 : p.testBit (to k) with
              | true => simpa [h1, h2, h3, h4] using hn
              | false => simpa [h1, h2, h3, h4] using hn
      · rintro v rec2 rfl
        unfold F_X8_partOf_b22
        dsimp only
        rw [m1, if_pos (nle_nI nm)]
        refine hrec _ ?_
        show _ = (nI (rPass (lkf fo kd w) fr to 12 (rIter (lkf fo kd w) fr to 12 j (2 ^ s))), nI (rIter (lkf fo kd w) fr to 12 j (2 ^ s)))
        rw [h12, hg]
  · rintro v rec rfl
    unfold F_X8_partOf_b8
    dsimp only
    have e : rIter (lkf fo kd w) fr to 12 11 (2 ^ s) = prv (lkf fo kd w) fr to s 11 := clo_fix ho hs
    rw [if_pos (congrArg nI e), e]
    exact ⟨_, rfl, rfl⟩
def gapM (tr tx ty : Nat → Int32) (kd : Nat → Int32) (fr : Nat → Nat) (j w : Nat) : Int32 := if kd j = 6 then (if w = 0 then tx j else ty j) else if kd j = 2 ∨ kd j = 4 then tr (4 * fr j + 2 + w) else 0
theorem idx4 (s w : Nat) : (4 : Int32) * nI s + nI w = nI (4 * s + w) := by rw [show (4 : Int32) = nI 4 from rfl, pk_mul, nI_add]
theorem step8 (hM : MC S nm nr ns kd fr to lb) {j w : Nat} (hj : j < nr) (hw : w < 2) (tr tx ty : Nat → Int32) (tt tf fl : Int32) : f_X8_stepOf (nI j) (nI w) (mF S tr tt tf fl tx ty) = some (gapM tr tx ty kd fr j w) := by
  obtain ⟨m1, m2, m3, m4, m5, m6, m7⟩ := hM
  obtain ⟨r1, r2, r3, r4, r5⟩ := m6 j hj
  have e42 : (mF S tr tt tf fl tx ty).1 42 j = kd j := r1
  have e43 : (mF S tr tt tf fl tx ty).1 43 j = nI (fr j) := r2
  have e54 : (mF S tr tt tf fl tx ty).1 54 j = tx j := rfl
  have e55 : (mF S tr tt tf fl tx ty).1 55 j = ty j := rfl
  have e56 : ∀ i, (mF S tr tt tf fl tx ty).1 56 i = tr i := fun _ => rfl
  have hw0 : nI w = 0 ↔ w = 0 := by rw [show (0 : Int32) = nI 0 from rfl, nI_eq (by omega) (by omega)]
  unfold f_X8_stepOf f_X8_stepOf_b30 f_X8_stepOf_b72 f_X8_stepOf_b51 f_X8_stepOf_b72
  simp only [if_pos (ib_nI (show j < 12 by omega) (by omega)), nI_cl (show j < 2 ^ 31 by omega), e42, e43, e54, e55, hw0]
  have ei : (4 : Int32) * nI (fr j) + 2 + nI w = nI (4 * fr j + 2 + w) := by rw [show (4 : Int32) = nI 4 from rfl, show (2 : Int32) = nI 2 from rfl, pk_mul, nI_add, nI_add]
  rw [ei, if_pos (ib_nI (show 4 * fr j + 2 + w < 40 by omega) (by omega)), nI_cl (by omega), e56]
  unfold gapM
  by_cases h6 : kd j = 6
  · rw [if_pos h6, if_pos h6]
    by_cases h0 : w = 0
    · rw [if_pos h0, if_pos h0]
    · rw [if_neg h0, if_neg h0]
  · rw [if_neg h6, if_neg h6]
    by_cases h2 : kd j = 2
    · rw [if_pos h2, if_pos (Or.inl h2)]
    · rw [if_neg h2]
      by_cases h4 : kd j = 4
      · rw [if_pos h4, if_pos (Or.inr h4)]
      · have e24 : ¬ (kd j = 2 ∨ kd j = 4) := fun q => Or.elim q h2 h4
        rw [if_neg h4, if_neg e24]
theorem gapM_off {w j : Nat} {tr tr' tx ty : Nat → Int32} (hw : w < 2) (h : offc w tr tr') : gapM tr' tx ty kd fr j w = gapM tr tx ty kd fr j w := by
  unfold gapM
  rw [h (4 * fr j + 2 + w) (by omega)]
theorem shifts8 (hM : MC S nm nr ns kd fr to lb) {g w : Nat} (hg : g < 2 ^ 10) (hw : w < 4) (x : Int32) (tr tx ty : Nat → Int32) (tt tf fl : Int32) : f_X8_shifts (nI g) (nI w) x (mF S tr tt tf fl tx ty) = some (mF S (shN g w x tr ns) tt tf fl tx ty) := by
  obtain ⟨m1, m2, m3, m4, m5, m6, m7⟩ := hM
  unfold f_X8_shifts f_X8_shifts_b3
  refine fx_run ns (fun i => (mF S (shN g w x tr i) tt tf fl tx ty, nI i)) ?_ ?_ (FU_gt (by omega)) (by rw [shN_0]; rfl)
  · intro i rec hi
    unfold F_X8_shifts_b3 f_X8_shifts_b38
    dsimp only
    have e2 : (mF S (shN g w x tr i) tt tf fl tx ty).1 36 2 = nI ns := m2
    rw [e2, if_neg (nlt_le hi (by omega)), idx4, if_pos (ib_nI (show 4 * i + w < 40 by omega) (by omega)), has8 _ (by omega) (by omega), bsm, ifb, nI_cl (by omega), mF_sTr, mF_sTr, nI_1]
    have e56 : (mF S (shN g w x tr i) tt tf fl tx ty).1 56 (4 * i + w) = tr (4 * i + w) := shN_at hw
    rw [e56]
    cases h : g.testBit i with
    | true => rw [if_pos rfl, if_pos (ib_nI (show 4 * i + w < 40 by omega) (by omega)), ← shN_yes hw h]
    | false => rw [if_neg (by decide), if_pos (ib_nI (show 4 * i + w < 40 by omega) (by omega)), i32_00, upd_same (shN_at hw), shN_no h]
  · intro rec
    unfold F_X8_shifts_b3
    dsimp only
    have e2 : (mF S (shN g w x tr ns) tt tf fl tx ty).1 36 2 = nI ns := m2
    rw [e2, if_pos (nle_nI ns)]
def szN (g w : Nat) (v : Int32) (num : Nat → Int32) (i : Nat) : Nat → Int32 := fun t => if t % 4 = w ∧ t / 4 < i ∧ g.testBit (t / 4) = true then v else num t
theorem szN_at {g w i : Nat} {v : Int32} {num : Nat → Int32} (hw : w < 4) : szN g w v num i (4 * i + w) = num (4 * i + w) := by
  unfold szN
  rw [if_neg (by omega)]
theorem szN_no {g w i : Nat} {v : Int32} {num : Nat → Int32} (h : g.testBit i = false) : szN g w v num (i + 1) = szN g w v num i := by
  funext t
  unfold szN
  by_cases e : t / 4 = i
  · rw [if_neg (by rw [e, h]; simp), if_neg (by rw [e]; omega)]
  · by_cases h2 : t % 4 = w ∧ t / 4 < i ∧ g.testBit (t / 4) = true
    · rw [if_pos h2, if_pos ⟨h2.1, by omega, h2.2.2⟩]
    · rw [if_neg h2, if_neg (fun q => h2 ⟨q.1, by omega, q.2.2⟩)]
theorem szN_yes {g w i : Nat} {v : Int32} {num : Nat → Int32} (hw : w < 4) (h : g.testBit i = true) : szN g w v num (i + 1) = upd (szN g w v num i) (4 * i + w) v := by
  funext t
  unfold szN upd
  by_cases e : t = 4 * i + w
  · rw [if_pos e, if_pos ⟨by omega, by omega, by rw [e, show (4 * i + w) / 4 = i by omega]; exact h⟩]
  · rw [if_neg e]
    dsimp only
    by_cases h2 : t % 4 = w ∧ t / 4 < i ∧ g.testBit (t / 4) = true
    · rw [if_pos h2, if_pos ⟨h2.1, by omega, h2.2.2⟩]
    · rw [if_neg h2, if_neg (fun q => h2 ⟨q.1, by omega, q.2.2⟩)]
theorem szN_0 {g w : Nat} {v : Int32} {num : Nat → Int32} : szN g w v num 0 = num := by
  funext t
  unfold szN
  rw [if_neg (by omega)]
theorem szN_same {g w i : Nat} {v : Int32} {num : Nat → Int32} (hw : w < 4) (h : num (4 * i + w) = v) : szN g w v num (i + 1) = szN g w v num i := by
  cases e : g.testBit i with
  | false => exact szN_no e
  | true => rw [szN_yes hw e, upd_same (by rw [szN_at hw]; exact h)]
theorem sizes8 (hM : MC S nm nr ns kd fr to lb) {g w : Nat} (hg : g < 2 ^ 10) (hw : w < 4) (v : Int32) (tr tx ty : Nat → Int32) (tt tf : Int32) (f : Bool) : Ok (f_X8_sizes (nI g) (nI w) v (mF S tr tt tf (bI f) tx ty)) (fun r => ∃ f' ch, r = (mF S (szN g w v tr ns) tt tf (bI f') tx ty, nI ch) ∧ ch < 2 ^ 10 ∧ (∀ k, ch.testBit k = true ↔ k < ns ∧ g.testBit k = true ∧ tr (4 * k + w) ≠ v) ∧ (f' = true ↔ f = true ∨ ∃ k, k < ns ∧ g.testBit k = true ∧ tr (4 * k + w) ≠ v ∧ lb k = true)) := by
  obtain ⟨m1, m2, m3, m4, m5, m6, m7⟩ := hM
  unfold f_X8_sizes f_X8_sizes_b6
  refine ok_fx ns (fun i u => ∃ f' ch, u = (mF S (szN g w v tr i) tt tf (bI f') tx ty, nI ch, nI i) ∧ ch < 2 ^ 10 ∧ (∀ k, ch.testBit k = true ↔ k < i ∧ g.testBit k = true ∧ tr (4 * k + w) ≠ v) ∧ (f' = true ↔ f = true ∨ ∃ k, k < i ∧ g.testBit k = true ∧ tr (4 * k + w) ≠ v ∧ lb k = true)) ?_ ?_ (FU_gt (by omega)) ⟨f, 0, by rw [szN_0]; rfl, by omega, fun k => ⟨fun h => absurd h (by rw [Nat.zero_testBit]; decide), fun h => absurd h.1 (by omega)⟩, ⟨fun h => Or.inl h, fun h => h.elim id (fun ⟨k, h, _⟩ => absurd h (by omega))⟩⟩
  · rintro i u rec hi ⟨f', ch, rfl, hch, hc, hf'⟩ hrec
    unfold F_X8_sizes_b6 f_X8_sizes_b57 f_X8_sizes_b62 f_X8_sizes_b86
    dsimp only
    have e2 : (mF S (szN g w v tr i) tt tf (bI f') tx ty).1 36 2 = nI ns := m2
    have e28 : (mF S (szN g w v tr i) tt tf (bI f') tx ty).1 36 28 = bI f' := rfl
    have e38 : (mF S (szN g w v tr i) tt tf (bI f') tx ty).1 38 i = bI (lb i) := m7 i hi
    have e56 : (mF S (szN g w v tr i) tt tf (bI f') tx ty).1 56 (4 * i + w) = tr (4 * i + w) := szN_at hw
    rw [e2, if_neg (nlt_le hi (by omega)), has8 _ (by omega) (by omega), bsm, ifb, idx4, if_pos (ib_nI (show 4 * i + w < 40 by omega) (by omega)), nI_cl (by omega), e56, e28, ifb, if_pos (ib_nI (show i < 10 by omega) (by omega)), nI_cl (by omega), e38, ifb, nz_0, nz_1, mF_sFl, mF_sFl, mF_sTr, mF_sTr, shl1 (by omega), fa_or, nI_1]
    simp only [if_pos (ib_nI (show 4 * i + w < 40 by omega) (by omega)), if_true]
    have hskip : ¬ (g.testBit i = true ∧ tr (4 * i + w) ≠ v) → Ok (rec (mF S (szN g w v tr i) tt tf (bI f') tx ty, nI ch, nI (i + 1))) (fun r => ∃ f' ch, r = (mF S (szN g w v tr ns) tt tf (bI f') tx ty, nI ch) ∧ ch < 2 ^ 10 ∧ (∀ k, ch.testBit k = true ↔ k < ns ∧ g.testBit k = true ∧ tr (4 * k + w) ≠ v) ∧ (f' = true ↔ f = true ∨ ∃ k, k < ns ∧ g.testBit k = true ∧ tr (4 * k + w) ≠ v ∧ lb k = true)) := by
      intro hno
      refine hrec _ ⟨f', ch, ?_, hch, fun k => ?_, ?_⟩
      · have : szN g w v tr (i + 1) = szN g w v tr i := by
          cases e : g.testBit i with
          | false => exact szN_no e
          | true => exact szN_same hw (Classical.byContradiction fun q => hno ⟨e, q⟩)
        rw [this]
      · rw [hc k]
        constructor
        · rintro ⟨h1, h2⟩; exact ⟨by omega, h2⟩
        · rintro ⟨h1, h2⟩
          rcases Nat.lt_succ_iff_lt_or_eq.mp h1 with h | rfl
          · exact ⟨h, h2⟩
          · exact absurd h2 hno
      · rw [hf']
        constructor
        · rintro (h | ⟨k, h1, h2⟩)
          · exact Or.inl h
          · exact Or.inr ⟨k, by omega, h2⟩
        · rintro (h | ⟨k, h1, h2, h3, h4⟩)
          · exact Or.inl h
          · rcases Nat.lt_succ_iff_lt_or_eq.mp h1 with h | rfl
            · exact Or.inr ⟨k, h, h2, h3, h4⟩
            · exact absurd ⟨h2, h3⟩ hno
    cases h1 : g.testBit i with
    | false => rw [if_neg (by decide)]; exact hskip (fun q => by rw [h1] at q; exact absurd q.1 (by decide))
    | true =>
      rw [if_pos rfl]
      by_cases h2 : tr (4 * i + w) = v
      · rw [if_pos h2]; exact hskip (fun q => q.2 h2)
      · rw [if_neg h2]
        have hgo : ∀ f2, (f2 = true ↔ f' = true ∨ lb i = true) → Ok (rec (mF S (upd (szN g w v tr i) (4 * i + w) v) tt tf (bI f2) tx ty, nI (ch ||| 2 ^ i), nI (i + 1))) (fun r => ∃ f' ch, r = (mF S (szN g w v tr ns) tt tf (bI f') tx ty, nI ch) ∧ ch < 2 ^ 10 ∧ (∀ k, ch.testBit k = true ↔ k < ns ∧ g.testBit k = true ∧ tr (4 * k + w) ≠ v) ∧ (f' = true ↔ f = true ∨ ∃ k, k < ns ∧ g.testBit k = true ∧ tr (4 * k + w) ≠ v ∧ lb k = true)) := by
          intro f2 hf2
          refine hrec _ ⟨f2, ch ||| 2 ^ i, by rw [szN_yes hw h1], Nat.or_lt_two_pow hch (pow_lt10 (by omega)), fun k => ?_, ?_⟩
          · rw [fb_bit_set, Bool.or_eq_true, decide_eq_true_eq, hc k]
            constructor
            · rintro (⟨q1, q2⟩ | rfl)
              · exact ⟨by omega, q2⟩
              · exact ⟨by omega, h1, h2⟩
            · rintro ⟨q1, q2⟩
              rcases Nat.lt_succ_iff_lt_or_eq.mp q1 with h | h
              · exact Or.inl ⟨h, q2⟩
              · exact Or.inr h
          · rw [hf2, hf']
            constructor
            · rintro ((h | ⟨k, q1, q2⟩) | h)
              · exact Or.inl h
              · exact Or.inr ⟨k, by omega, q2⟩
              · exact Or.inr ⟨i, by omega, h1, h2, h⟩
            · rintro (h | ⟨k, q1, q2, q3, q4⟩)
              · exact Or.inl (Or.inl h)
              · rcases Nat.lt_succ_iff_lt_or_eq.mp q1 with h | rfl
                · exact Or.inl (Or.inr ⟨k, h, q2, q3, q4⟩)
                · exact Or.inr q4
        cases hf2 : f' with
        | true => rw [if_pos rfl]; exact hgo true (by simp [hf2])
        | false =>
          rw [if_neg (by decide)]
          cases h3 : lb i with
          | true => rw [if_pos rfl]; exact hgo true (by simp [h3])
          | false => rw [if_neg (by decide)]; exact hgo false (by simp [hf2, h3])
  · rintro u rec ⟨f', ch, rfl, hch, hc, hf'⟩
    unfold F_X8_sizes_b6
    dsimp only
    have e2 : (mF S (szN g w v tr ns) tt tf (bI f') tx ty).1 36 2 = nI ns := m2
    rw [e2, if_pos (nle_nI ns)]
    exact ⟨_, rfl, f', ch, rfl, hch, hc, hf'⟩
theorem isIn8 (S : HS) (x a b : Int32) : f_X8_isIn x a b S = some (bI (!(decide (x < a)) && !(decide (b < x)))) := by
  unfold f_X8_isIn f_X8_isIn_b14 f_X8_isIn_b15
  by_cases h1 : x < a
  · simp [h1, nz_0, bI]
  · by_cases h2 : b < x
    · simp [h1, h2, nz_0, bI]
    · simp [h1, h2, nz_1, bI]
theorem inrng8 (hM : MC S nm nr ns kd fr to lb) {th : Nat} (ht : th < 2 ^ 10) (tr tx ty : Nat → Int32) (tf fl : Int32) : Ok (f_X8_isInRange (mF S tr (nI th) tf fl tx ty)) (fun r => ∃ ok, r = bI ok ∧ (ok = true ↔ ∀ k, k < ns → th.testBit k = true → rngB (tr (4 * k)) 0 = true ∧ rngB (tr (4 * k + 1)) 1 = true)) := by
  obtain ⟨m1, m2, m3, m4, m5, m6, m7⟩ := hM
  unfold f_X8_isInRange f_X8_isInRange_b4
  refine ok_fx ns (fun i u => ∃ ok, u = (bI ok, nI i) ∧ (ok = true ↔ ∀ k, k < i → th.testBit k = true → rngB (tr (4 * k)) 0 = true ∧ rngB (tr (4 * k + 1)) 1 = true)) ?_ ?_ (FU_gt (by omega)) ⟨true, rfl, fun _ k hk => absurd hk (by omega), fun _ => rfl⟩
  · rintro i u rec hi ⟨ok, rfl, hok⟩ hrec
    unfold F_X8_isInRange_b4 f_X8_isInRange_b69 f_X8_isInRange_b73 f_X8_isInRange_b74
    dsimp only
    have e2 : (mF S tr (nI th) tf fl tx ty).1 36 2 = nI ns := m2
    have e25 : (mF S tr (nI th) tf fl tx ty).1 36 25 = nI th := rfl
    have e56 : ∀ k, (mF S tr (nI th) tf fl tx ty).1 56 k = tr k := fun _ => rfl
    have i0 : (4 : Int32) * nI i = nI (4 * i) := by rw [show (4 : Int32) = nI 4 from rfl, pk_mul]
    have i1 : nI (4 * i) + (1 : Int32) = nI (4 * i + 1) := nI_1 _
    rw [e2, if_neg (nlt_le hi (by omega)), ifb, e25, has8 _ (by omega) (by omega), bsm, ifb, i0, i1, if_pos (ib_nI (show 4 * i < 40 by omega) (by omega)), if_pos (ib_nI (show 4 * i + 1 < 40 by omega) (by omega)), nI_cl (by omega), nI_cl (by omega), e56, e56, isIn8, isIn8, bsm, bsm, ifb, ifb, nI_1]
    have hr0 : (!(decide (tr (4 * i) < -999)) && !(decide (999 < tr (4 * i)))) = rngB (tr (4 * i)) 0 := rfl
    have hr1 : (!(decide (tr (4 * i + 1) < -999)) && !(decide (999 < tr (4 * i + 1)))) = rngB (tr (4 * i + 1)) 1 := rfl
    rw [hr0, hr1]
    have hgo : ∀ ok', (ok' = true ↔ ok = true ∧ (th.testBit i = true → rngB (tr (4 * i)) 0 = true ∧ rngB (tr (4 * i + 1)) 1 = true)) → Ok (rec (bI ok', nI (i + 1))) (fun r => ∃ ok, r = bI ok ∧ (ok = true ↔ ∀ k, k < ns → th.testBit k = true → rngB (tr (4 * k)) 0 = true ∧ rngB (tr (4 * k + 1)) 1 = true)) := by
      intro ok' h
      refine hrec _ ⟨ok', rfl, ?_⟩
      rw [h, hok]
      constructor
      · rintro ⟨h1, h2⟩ k hk
        rcases Nat.lt_succ_iff_lt_or_eq.mp hk with h | rfl
        · exact h1 k h
        · exact h2
      · intro h1
        exact ⟨fun k hk => h1 k (by omega), h1 i (by omega)⟩
    cases h0 : ok with
    | false => rw [if_neg (by decide)]; exact hgo false (by simp [h0])
    | true =>
      rw [if_pos rfl]
      cases h1 : th.testBit i with
      | false => rw [if_neg (by decide)]; exact hgo true (by simp [h0, h1])
      | true =>
        rw [if_pos rfl]
        cases h2 : rngB (tr (4 * i)) 0 with
        | false => rw [if_neg (by decide)]; exact hgo false (by simp [h1, h2])
        | true =>
          rw [if_pos rfl]
          cases h3 : rngB (tr (4 * i + 1)) 1 with
          | false => rw [if_neg (by decide)]; exact hgo false (by simp [h1, h3])
          | true => rw [if_pos rfl]; exact hgo true (by simp [h0, h2, h3])
  · rintro u rec ⟨ok, rfl, hok⟩
    unfold F_X8_isInRange_b4
    dsimp only
    have e2 : (mF S tr (nI th) tf fl tx ty).1 36 2 = nI ns := m2
    rw [e2, if_pos (nle_nI ns), nz_bI, if_pos rfl]
    exact ⟨_, rfl, ok, rfl, hok⟩
end
