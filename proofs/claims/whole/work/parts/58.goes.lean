/-! the model goes through a text -/
def wS (S : HS) (g w : Int32) : HS := sI (sI S 36 35 g) 36 34 w
def WD (S0 : HS) (p : Int32) (S : HS) (L : List Nat) : Prop := ∃ g, S = wS S0 g (p - nI L.length) ∧ (∀ j, j < L.length → p = nI j → g = nI (L.getD j 0)) ∧ ((∀ j, j < L.length → p ≠ nI j) → g = -1)
theorem wS_o {S : HS} {g w : Int32} {h : Nat} (h1 : h ≠ 36) : (wS S g w).1 h = S.1 h := by simp [wS, sI, h1]
theorem wS_k {S : HS} {g w : Int32} {k : Nat} (h1 : k ≠ 34) (h2 : k ≠ 35) : (wS S g w).1 36 k = S.1 36 k := by
  show upd (upd (S.1 36) 35 g) 34 w k = _
  rw [upd_ne h1, upd_ne h2]
theorem wS_s {S : HS} {g w g' w' : Int32} : sI (sI (wS S g w) 36 35 g') 36 34 w' = wS S g' w' := by
  unfold wS sI
  refine Prod.ext ?_ rfl
  funext h
  dsimp only
  by_cases e : h = 36
  · subst e
    simp only [if_true]
    funext k
    unfold upd
    by_cases e2 : k = 34
    · simp [e2]
    · by_cases e3 : k = 35
      · simp [e3]
      · simp [e2, e3]
  · simp [e]
theorem i32_ss {p c : Int32} : p - c - 1 = p - (c + 1) := by grind
theorem i32_pp {p c : Int32} : p - (p - c) = c := by grind
theorem i32_p0 {p : Int32} : p - 0 = p := by grind
section
variable {S0 S : HS} {p : Int32} {L : List Nat}
theorem WD_eq {L' : List Nat} (h : WD S0 p S L) (e : L = L') : WD S0 p S L' := e ▸ h
theorem sign8 (h : WD S0 p S L) (c : Nat) (hl : L.length < 328) : Ok (f_X8_sign (nI c) S) (fun S' => WD S0 p S' (L ++ [c])) := by
  obtain ⟨g, rfl, h1, h2⟩ := h
  unfold f_X8_sign f_X8_sign_b16
  have e34 : (wS S0 g (p - nI L.length)).1 36 34 = p - nI L.length := rfl
  have e34' : ∀ v, (sI (wS S0 g (p - nI L.length)) 36 35 v).1 36 34 = p - nI L.length := fun _ => rfl
  have e35 : (wS S0 g (p - nI L.length)).1 36 35 = g := rfl
  have hlen : (L ++ [c]).length = L.length + 1 := by rw [List.length_append, List.length_cons, List.length_nil]
  rw [e34, e34', e34', e35, wS_s, wS_s, i32_ss, nI_1]
  by_cases e : p = nI L.length
  · rw [if_pos (i32_eq0.mpr e)]
    refine ⟨_, rfl, nI c, by rw [hlen], fun j hj hp => ?_, fun hn => absurd e (hn L.length (by rw [hlen]; omega))⟩
    rw [hlen] at hj
    have : j = L.length := (nI_eq (by omega) (by omega)).mp (hp.symm.trans e)
    rw [getD_snoc L c (by omega), if_pos this]
  · rw [if_neg (fun q => e (i32_eq0.mp q))]
    refine ⟨_, rfl, g, by rw [hlen], fun j hj hp => ?_, fun hn => h2 (fun j hj => hn j (by rw [hlen]; omega))⟩
    rw [hlen] at hj
    have hne : j ≠ L.length := fun q => e (by rw [← q]; exact hp)
    rw [getD_snoc L c (by omega), if_neg hne]
    exact h1 j (by omega) hp
theorem fx_s {V α : Type} (F : (V → Option α) → V → Option α) (n : Nat) (v : V) : fx F (n + 1) v = F (fx F n) v := rfl
theorem signs8 (h : WD S0 p S L) {n : Int32} (hn : rngB n 0 = true) (hl : (L ++ nS n).length ≤ 328) : Ok (f_X8_signs n S) (fun S' => WD S0 p S' (L ++ nS n)) := by
  obtain ⟨m, hm, ha⟩ := absN hn
  have hcl : (iabs n).toNatClampNeg = m := by rw [ha, nI_cl (by omega)]
  have hdv : ∀ u, 0 < u → u < 1000 → nI m / nI u = nI (m / u) := fun u h0 h1 => pk_div (by omega) h0 (by omega)
  have hlp : ∀ x : Nat, x < 1000 → ¬ (x ≤ 0) → ¬ nI x ≤ 0 := fun x h0 h1 => by rw [show (0 : Int32) = nI 0 from rfl, nI_leI (by omega) (by omega)]; exact h1
  have hne : ∀ x : Nat, x < 1000 → x ≠ 0 → ¬ nI x = 0 := fun x h0 h1 => by rw [show (0 : Int32) = nI 0 from rfl, nI_eq (by omega) (by omega)]; exact h1
  -- one digit
  have step : ∀ {S L} (u k : Nat), WD S0 p S L → 0 < u → u < 1000 → L.length < 328 → ∀ (P : HS → Prop), (∀ S', WD S0 p S' (L ++ [48 + m / u % 10]) → Ok (fx (F_X8_signs_b33 n) k (S', nI m, nI (u / 10))) P) → Ok (fx (F_X8_signs_b33 n) (k + 1) (S, nI m, nI u)) P := by
    intro S L u k hW hu0 hu1 hL P hk
    rw [fx_s]
    unfold F_X8_signs_b33
    dsimp only
    rw [if_neg (hlp u hu1 (by omega)), if_neg (hne u hu1 (by omega)), if_neg (by decide), hdv u hu0 hu1, remN (by have := Nat.div_le_self m u; omega), show (48 : Int32) = nI 48 from rfl, nI_add]
    refine Ok.bind (sign8 hW _ hL) (fun S' h' => ?_)
    rw [if_neg (by decide), show nI u / (10 : Int32) = nI (u / 10) from pk_div (d := 10) (by omega) (by decide) (by decide)]
    exact hk S' h'
  have fin : ∀ {S L} (k : Nat), WD S0 p S L → Ok (fx (F_X8_signs_b33 n) (k + 1) (S, nI m, nI 0)) (fun S' => WD S0 p S' L) := by
    intro S L k hW
    rw [fx_s]
    unfold F_X8_signs_b33
    dsimp only
    rw [if_pos (by decide)]
    exact ⟨_, rfl, hW⟩
  have h3 : ∀ {S L}, WD S0 p S L → (L ++ dgt m).length ≤ 328 → Ok (f_X8_signs_b15 n S (nI m)) (fun S' => WD S0 p S' (L ++ dgt m)) := by
    intro S L hW hl
    unfold dgt at hl ⊢
    simp only [List.length_append, List.length_cons, List.length_nil] at hl
    unfold f_X8_signs_b15 f_X8_signs_b17
    have d9 : ∀ u, 0 < u → u < 1000 → (nI m / nI u ≤ (9 : Int32) ↔ m / u ≤ 9) := fun u h0 h1 => by
      rw [hdv u h0 h1, show (9 : Int32) = nI 9 from rfl, nI_leI (by have := Nat.div_le_self m u; omega) (by omega)]
    rw [show (1 : Int32) = nI 1 from rfl]
    have u1 : ∀ k (S : HS) (u : Nat), 0 < u → u < 1000 → m / u ≤ 9 → fx (F_X8_signs_b17 n) (k + 1) (S, nI m, nI u) = f_X8_signs_b33 n S (nI m) (nI u) := by
      intro k S u h0 h1 h2
      rw [fx_s]
      unfold F_X8_signs_b17
      dsimp only
      rw [if_neg (hne u h1 (by omega)), if_pos ((d9 u h0 h1).mpr h2)]
    have u2 : ∀ k (S : HS) (u : Nat), 0 < u → u < 1000 → ¬ m / u ≤ 9 → fx (F_X8_signs_b17 n) (k + 1) (S, nI m, nI u) = fx (F_X8_signs_b17 n) k (S, nI m, nI (u * 10)) := by
      intro k S u h0 h1 h2
      rw [fx_s]
      unfold F_X8_signs_b17
      dsimp only
      rw [if_neg (hne u h1 (by omega)), if_neg (fun q => h2 ((d9 u h0 h1).mp q)), show nI u * (10 : Int32) = nI (u * 10) by rw [show (10 : Int32) = nI 10 from rfl, pk_mul]]
    rw [show FU = 999 + 1 from rfl]
    by_cases e10 : 10 ≤ m
    · rw [u2 999 S 1 (by omega) (by omega) (by omega), show (999 : Nat) = 998 + 1 from rfl, show 1 * 10 = 10 from rfl]
      by_cases e100 : 100 ≤ m
      · rw [u2 998 S 10 (by omega) (by omega) (by omega), show (998 : Nat) = 997 + 1 from rfl, show 10 * 10 = 100 from rfl, u1 997 S 100 (by omega) (by omega) (by omega)]
        rw [if_pos e100, if_pos e10] at hl ⊢
        simp only [List.length_cons, List.length_nil] at hl
        unfold f_X8_signs_b33
        rw [show FU = 999 + 1 from rfl]
        refine step 100 999 hW (by omega) (by omega) (by omega) _ (fun S1 w1 => ?_)
        refine step 10 998 w1 (by omega) (by omega) (by simp only [List.length_append, List.length_cons, List.length_nil]; omega) _ (fun S2 w2 => ?_)
        refine step 1 997 w2 (by omega) (by omega) (by simp only [List.length_append, List.length_cons, List.length_nil]; omega) _ (fun S3 w3 => ?_)
        exact Ok.mono (fin 996 w3) (fun S4 w4 => WD_eq w4 (by simp))
      · rw [u1 998 S 10 (by omega) (by omega) (by omega)]
        rw [if_neg e100, if_pos e10] at hl ⊢
        simp only [List.length_cons, List.length_nil] at hl
        unfold f_X8_signs_b33
        rw [show FU = 999 + 1 from rfl]
        refine step 10 999 hW (by omega) (by omega) (by omega) _ (fun S2 w2 => ?_)
        refine step 1 998 w2 (by omega) (by omega) (by simp only [List.length_append, List.length_cons, List.length_nil]; omega) _ (fun S3 w3 => ?_)
        exact Ok.mono (fin 997 w3) (fun S4 w4 => WD_eq w4 (by simp))
    · rw [u1 999 S 1 (by omega) (by omega) (by omega)]
      rw [if_neg (by omega), if_neg e10] at hl ⊢
      simp only [List.length_nil] at hl
      unfold f_X8_signs_b33
      rw [show FU = 999 + 1 from rfl]
      refine step 1 999 hW (by omega) (by omega) (by omega) _ (fun S3 w3 => ?_)
      exact Ok.mono (fin 998 w3) (fun S4 w4 => WD_eq w4 (by simp))
  unfold nS at hl ⊢
  unfold f_X8_signs
  rw [hcl] at hl ⊢
  by_cases e : 0 ≤ n
  · rw [if_pos e] at hl ⊢
    have : n = nI m := by
      rw [← ha]
      unfold iabs
      rw [if_pos e]
    rw [if_pos e, List.nil_append]
    have h4 := h3 h hl
    rw [← this] at h4
    exact h4
  · rw [if_neg e] at hl ⊢
    have : -n = nI m := by
      rw [← ha]
      unfold iabs
      rw [if_neg e]
      grind
    simp only [List.length_append, List.length_cons, List.length_nil] at hl
    rw [if_neg e, this, show (45 : Int32) = nI 45 from rfl]
    refine Ok.bind (sign8 h _ (by omega)) (fun S' h' => ?_)
    refine Ok.mono (h3 h' (by simp only [List.length_append, List.length_cons, List.length_nil]; omega)) (fun S2 h2 => WD_eq h2 (by simp))
end
/-- rows of shapes in the model -/
def HM1 (S : HS) (ns : Nat) (len : Nat → Nat) (trn : Nat → Bool) (txt : Nat → Nat → Nat) : Prop := ∀ k, k < ns → S.1 38 k = bI (lbL len k) ∧ len k ≤ 5 ∧ (0 < len k → S.1 39 k = bI (trn k) ∧ S.1 40 k = nI (len k) ∧ ∀ i, i < len k → S.1 41 (5 * k + i) = nI (txt k i) ∧ txt k i ≤ 26)
section
variable {kd : Nat → Int32} {fr to : Nat → Nat} {ns nr : Nat} {A : AB} {len : Nat → Nat} {trn : Nat → Bool} {txt : Nat → Nat → Nat} {S0 S : HS} {p : Int32} {L : List Nat}
theorem WD_o (h : WD S0 p S L) {x : Nat} (hx : x ≠ 36) : S.1 x = S0.1 x := by
  obtain ⟨g, rfl, -⟩ := h
  exact wS_o hx
theorem tells8 (hH : HM1 S0 ns len trn txt) {s : Nat} (hs : s < ns) (hns : ns ≤ 10) (h0 : 0 < len s) (h : WD S0 p S L) (hl : (L ++ ([44] ++ ltS (fun i => txt s (if trn s = true then len s - 1 - i else i)) (len s))).length ≤ 328) : Ok (f_X8_tells (nI s) S) (fun S' => WD S0 p S' (L ++ ([44] ++ ltS (fun i => txt s (if trn s = true then len s - 1 - i else i)) (len s)))) := by
  obtain ⟨a1, a2, a3⟩ := hH s hs
  obtain ⟨a3, a4, a5⟩ := a3 h0
  have hmono : ∀ i, i ≤ len s → (ltS (fun i => txt s (if trn s = true then len s - 1 - i else i)) i).length ≤ (ltS (fun i => txt s (if trn s = true then len s - 1 - i else i)) (len s)).length := by
    have : ∀ d i, (ltS (fun i => txt s (if trn s = true then len s - 1 - i else i)) i).length ≤ (ltS (fun i => txt s (if trn s = true then len s - 1 - i else i)) (i + d)).length := by
      intro d i
      induction d with
      | zero => exact Nat.le_refl _
      | succ d ih =>
        show _ ≤ (ltS _ (i + d) ++ lS _).length
        rw [List.length_append]
        omega
    intro i hi
    have := this (len s - i) i
    rw [show i + (len s - i) = len s by omega] at this
    exact this
  simp only [List.length_append, List.length_cons, List.length_nil] at hl
  unfold f_X8_tells
  rw [show (44 : Int32) = nI 44 from rfl]
  refine Ok.bind (sign8 h _ (by omega)) (fun S1 w1 => ?_)
  unfold f_X8_tells_b8
  refine ok_fx (len s) (fun i v => ∃ S', v = (S', nI i) ∧ WD S0 p S' (L ++ ([44] ++ ltS (fun i => txt s (if trn s = true then len s - 1 - i else i)) i))) ?_ ?_ (FU_gt (by omega)) ⟨S1, rfl, WD_eq w1 (by simp [ltS])⟩
  · rintro i v rec hi ⟨S', rfl, hW⟩ hrec
    unfold F_X8_tells_b8
    dsimp only
    rw [if_pos (ib_nI (show s < 10 by omega) (by omega)), if_pos (ib_nI (show s < 10 by omega) (by omega)), if_pos (ib_nI (show s < 10 by omega) (by omega)), nI_cl (by omega), WD_o hW (by decide : (40 : Nat) ≠ 36), WD_o hW (by decide : (39 : Nat) ≠ 36), a4, a3, if_neg (nlt_le hi (by omega)), ifb]
    have hj : ∃ j, j < len s ∧ j = (if trn s = true then len s - 1 - i else i) := by
      by_cases e : trn s = true
      · exact ⟨len s - 1 - i, by omega, by rw [if_pos e]⟩
      · exact ⟨i, hi, by rw [if_neg e]⟩
    obtain ⟨j, hj1, hj2⟩ := hj
    obtain ⟨a6, a7⟩ := a5 j hj1
    have hst : ltS (fun i => txt s (if trn s = true then len s - 1 - i else i)) (i + 1) = ltS (fun i => txt s (if trn s = true then len s - 1 - i else i)) i ++ lS (txt s j) := by
      show _ ++ lS (txt s (if trn s = true then len s - 1 - i else i)) = _
      rw [← hj2]
    have hlen := hmono (i + 1) (by omega)
    rw [hst, List.length_append] at hlen
    have hmain : Ok (f_X8_tells_b48 (nI s) rec S' (nI i) ((5 : Int32) * nI s) (nI j)) (fun S' => WD S0 p S' (L ++ ([44] ++ ltS (fun i => txt s (if trn s = true then len s - 1 - i else i)) (len s)))) := by
      unfold f_X8_tells_b48 f_X8_tells_b67 f_X8_tells_b82
      rw [show (5 : Int32) * nI s + nI j = nI (5 * s + j) by rw [show (5 : Int32) = nI 5 from rfl, pk_mul, nI_add], if_pos (ib_nI (show 5 * s + j < 50 by omega) (by omega)), nI_cl (by omega), WD_o hW (by decide : (41 : Nat) ≠ 36), a6, nI_1]
      unfold lS at hst hlen
      have h26 : nI (txt s j) = (26 : Int32) ↔ txt s j = 26 := nI_eq (b := 26) (by omega) (by omega)
      by_cases e : txt s j = 26
      · rw [if_pos (h26.mpr e)]
        rw [if_pos e] at hst hlen
        simp only [List.length_cons, List.length_nil] at hlen
        rw [show (55357 : Int32) = nI 55357 from rfl, show (56528 : Int32) = nI 56528 from rfl]
        refine Ok.bind (sign8 hW _ (by simp only [List.length_append, List.length_cons, List.length_nil]; omega)) (fun S2 w2 => ?_)
        rw [if_pos (h26.mpr e)]
        refine Ok.bind (sign8 w2 _ (by simp only [List.length_append, List.length_cons, List.length_nil]; omega)) (fun S3 w3 => ?_)
        exact hrec _ ⟨S3, rfl, WD_eq w3 (by rw [hst]; simp)⟩
      · rw [if_neg (fun q => e (h26.mp q))]
        rw [if_neg e] at hst hlen
        simp only [List.length_cons, List.length_nil] at hlen
        rw [show (97 : Int32) = nI 97 from rfl, nI_add]
        refine Ok.bind (sign8 hW _ (by simp only [List.length_append, List.length_cons, List.length_nil]; omega)) (fun S2 w2 => ?_)
        rw [if_neg (fun q => e (h26.mp q))]
        exact hrec _ ⟨S2, rfl, WD_eq w2 (by rw [hst]; simp)⟩
    by_cases e : trn s = true
    · rw [if_pos e] at hj2
      rw [if_pos e, show nI (len s) - (1 : Int32) = nI (len s - 1) from pk_sub (a := len s) (b := 1) (by omega), pk_sub (by omega), ← hj2]
      exact hmain
    · rw [if_neg e] at hj2
      rw [if_neg e, ← hj2]
      rw [← hj2] at hmain
      exact hmain
  · rintro v rec ⟨S', rfl, hW⟩
    unfold F_X8_tells_b8
    dsimp only
    rw [if_pos (ib_nI (show s < 10 by omega) (by omega)), nI_cl (by omega), WD_o hW (by decide : (40 : Nat) ≠ 36), a4, if_pos (nle_nI _)]
    exact ⟨_, rfl, hW⟩
/-- a snapshot in the model -/
def MSn (S : HS) (e : Nat) (A : AB) : Prop := S.1 57 e = nI A.1 ∧ S.1 59 e = nI A.2.1 ∧ ∀ k w, A.1.testBit k = true → w < 4 → S.1 58 (40 * e + 4 * k + w) = A.2.2.1 k w
theorem goes8 {e : Nat} (he : e < 10) (hH : HM1 S ns len trn txt) (hns : ns ≤ 10) (hnr : nr ≤ 12) (hA : AI kd fr to (lbL len) ns nr A) (hM : MSn S e A) (hlen328 : (TX A len trn txt).length ≤ 328) : Ok (f_X8_goesThrough (nI e) p S) (fun r => WD S p r.1 (TX A len trn txt) ∧ r.2 = nI (TX A len trn txt).length) := by
  obtain ⟨b1, b2, b3⟩ := hM
  have hfo := fok_lt hA.2.1 hnr
  have hth : A.1 < 2 ^ 10 := by
    apply Nat.lt_pow_two_of_testBit
    intro i hi
    cases e : A.1.testBit i with
    | false => rfl
    | true => exact absurd (hA.1 i e) (by omega)
  unfold TX at hlen328
  rw [List.length_append] at hlen328
  have hmal : ∀ i, i ≤ 10 → (alS A.1 A.2.2.1 len trn txt i).length ≤ (alS A.1 A.2.2.1 len trn txt 10).length := by
    have : ∀ d i, (alS A.1 A.2.2.1 len trn txt i).length ≤ (alS A.1 A.2.2.1 len trn txt (i + d)).length := by
      intro d i
      induction d with
      | zero => exact Nat.le_refl _
      | succ d ih =>
        show _ ≤ (alS A.1 A.2.2.1 len trn txt (i + d) ++ _).length
        rw [List.length_append]
        omega
    intro i hi
    have := this (10 - i) i
    rw [show i + (10 - i) = 10 by omega] at this
    exact this
  have hmru : ∀ i, i ≤ 12 → (ruS A.2.1 i).length ≤ (ruS A.2.1 12).length := by
    have : ∀ d i, (ruS A.2.1 i).length ≤ (ruS A.2.1 (i + d)).length := by
      intro d i
      induction d with
      | zero => exact Nat.le_refl _
      | succ d ih =>
        show _ ≤ (ruS A.2.1 (i + d) ++ _).length
        rw [List.length_append]
        omega
    intro i hi
    have := this (12 - i) i
    rw [show i + (12 - i) = 12 by omega] at this
    exact this
  unfold f_X8_goesThrough f_X8_goesThrough_b12
  refine ok_fx 10 (fun i v => ∃ S', v = (S', nI i) ∧ WD S p S' (alS A.1 A.2.2.1 len trn txt i)) ?_ ?_ (FU_gt (by omega)) ⟨_, rfl, -1, ?_, fun j hj => absurd hj (by show ¬ j < 0; omega), fun _ => rfl⟩
  · rintro i v rec hi ⟨S', rfl, hW⟩ hrec
    unfold F_X8_goesThrough_b12 f_X8_goesThrough_b127
    dsimp only
    rw [if_neg (le10n hi), if_pos (ib_nI he (by omega)), nI_cl (by omega), WD_o hW (by decide : (57 : Nat) ≠ 36), b1, has8 _ (by omega) (by omega), bsm, ifb, nI_1]
    have hst : alS A.1 A.2.2.1 len trn txt (i + 1) = alS A.1 A.2.2.1 len trn txt i ++ (if A.1.testBit i = true then shS A.2.2.1 len trn txt i else []) := rfl
    by_cases et : A.1.testBit i = true
    · rw [if_pos et]
      rw [if_pos et] at hst
      have hin := hA.1 i et
      obtain ⟨a1, a2, a3⟩ := hH i hin
      have hl := hmal (i + 1) (by omega)
      rw [hst] at hl
      unfold shS at hst hl
      rw [if_pos (ib_nI hi (by omega)), nI_cl (by omega), WD_o hW (by decide : (38 : Nat) ≠ 36), a1, ifb]
      generalize hT1 : ltS (fun k => txt i (if trn i = true then len i - 1 - k else k)) (len i) = T1 at hst hl
      simp only [List.length_append, List.length_cons, List.length_nil, nmS_4] at hl
      have hmain : ∀ c, c = (if 0 < len i then 116 else 98) → Ok (f_X8_goesThrough_b48 (nI e) p rec S' (nI i) (nI c)) (fun r => WD S p r.1 (TX A len trn txt) ∧ r.2 = nI (TX A len trn txt).length) := by
        intro c hce
        unfold f_X8_goesThrough_b48
        refine Ok.bind (sign8 hW _ (by omega)) (fun S1 w1 => ?_)
        refine Ok.bind (signs8 w1 (rngI (by omega)) (by simp only [List.length_append, List.length_cons, List.length_nil]; omega)) (fun S2 w2 => ?_)
        unfold f_X8_goesThrough_b59
        refine ok_fx 4 (fun j v => ∃ S3, v = (S3, nI i, nI j) ∧ WD S p S3 (alS A.1 A.2.2.1 len trn txt i ++ ([c] ++ (nS (nI i) ++ nmS (A.2.2.1 i) j)))) ?_ ?_ (FU_gt (by omega)) ⟨S2, rfl, WD_eq w2 (by simp [nmS])⟩
        · rintro j v rec2 hj ⟨S3, rfl, w3⟩ hrec2
          unfold F_X8_goesThrough_b59
          dsimp only
          rw [if_neg (le4n hj)]
          have hlen : (nmS (A.2.2.1 i) (j + 1)).length ≤ (nmS (A.2.2.1 i) 4).length := by
            match j, hj with
            | 0, _ => simp only [nmS, List.length_append, List.length_cons, List.length_nil]; omega
            | 1, _ => simp only [nmS, List.length_append, List.length_cons, List.length_nil]; omega
            | 2, _ => simp only [nmS, List.length_append, List.length_cons, List.length_nil]; omega
            | 3, _ => simp only [nmS, List.length_append, List.length_cons, List.length_nil]; omega
          have hst2 : nmS (A.2.2.1 i) (j + 1) = nmS (A.2.2.1 i) j ++ ([if j = 0 then 58 else 44] ++ nS (A.2.2.1 i j)) := rfl
          rw [nmS_4, hst2] at hlen
          simp only [List.length_append, List.length_cons, List.length_nil] at hlen
          have hgo : ∀ c2, c2 = (if j = 0 then 58 else 44) → Ok (f_X8_goesThrough_b78 (nI e) p rec rec2 S3 (nI i) (nI j) (nI c2)) (fun r => WD S p r.1 (TX A len trn txt) ∧ r.2 = nI (TX A len trn txt).length) := by
            intro c2 hc2
            unfold f_X8_goesThrough_b78
            refine Ok.bind (sign8 w3 _ (by simp only [List.length_append, List.length_cons, List.length_nil]; omega)) (fun S4 w4 => ?_)
            have hidx : (40 : Int32) * nI e + 4 * nI i + nI j = nI (40 * e + 4 * i + j) := by
              rw [show (40 : Int32) = nI 40 from rfl, show (4 : Int32) = nI 4 from rfl, pk_mul, pk_mul, nI_add, nI_add]
            rw [hidx, if_pos (ib_nI (show 40 * e + 4 * i + j < 400 by omega) (by omega)), nI_cl (by omega), WD_o w4 (by decide : (58 : Nat) ≠ 36), b3 i j et hj, nI_1]
            refine Ok.bind (signs8 w4 (rng20 hj (hA.2.2.2.1 j hj i et)) (by simp only [List.length_append, List.length_cons, List.length_nil]; omega)) (fun S5 w5 => ?_)
            exact hrec2 _ ⟨S5, rfl, WD_eq w5 (by rw [hst2, hc2]; simp)⟩
          have h0 : nI j = 0 ↔ j = 0 := by rw [show (0 : Int32) = nI 0 from rfl, nI_eq (by omega) (by omega)]
          by_cases e0 : j = 0
          · rw [if_pos (h0.mpr e0)]
            exact hgo 58 (by rw [if_pos e0])
          · rw [if_neg (fun q => e0 (h0.mp q))]
            exact hgo 44 (by rw [if_neg e0])
        · rintro v rec2 ⟨S3, rfl, w3⟩
          unfold F_X8_goesThrough_b59 f_X8_goesThrough_b121 f_X8_goesThrough_b127
          dsimp only
          rw [if_pos (by decide), if_pos (ib_nI hi (by omega)), nI_cl (by omega), WD_o w3 (by decide : (38 : Nat) ≠ 36), a1, ifb, nI_1, show (59 : Int32) = nI 59 from rfl]
          by_cases e0 : 0 < len i
          · rw [if_pos (show lbL len i = true from decide_eq_true e0)]
            rw [if_pos e0] at hl
            simp only [List.length_cons, List.length_nil] at hl
            refine Ok.bind (tells8 hH hin hns e0 w3 (by rw [hT1]; simp only [List.length_append, List.length_cons, List.length_nil, nmS_4]; omega)) (fun S4 w4 => ?_)
            rw [hT1] at w4
            refine Ok.bind (sign8 w4 _ (by simp only [List.length_append, List.length_cons, List.length_nil, nmS_4]; omega)) (fun S5 w5 => ?_)
            exact hrec _ ⟨S5, rfl, WD_eq w5 (by rw [hst, hce]; simp [e0])⟩
          · rw [if_neg (show ¬ lbL len i = true from fun q => e0 (of_decide_eq_true q))]
            rw [if_neg e0] at hl
            simp only [List.length_nil] at hl
            have hT0 : T1 = [] := by
              rw [← hT1, show len i = 0 by omega]
              rfl
            refine Ok.bind (sign8 w3 _ (by simp only [List.length_append, List.length_cons, List.length_nil, nmS_4]; omega)) (fun S5 w5 => ?_)
            exact hrec _ ⟨S5, rfl, WD_eq w5 (by rw [hst, hce, hT0]; simp [e0])⟩
      by_cases e0 : 0 < len i
      · rw [if_pos (show lbL len i = true from decide_eq_true e0)]
        exact hmain 116 (by rw [if_pos e0])
      · rw [if_neg (show ¬ lbL len i = true from fun q => e0 (of_decide_eq_true q))]
        exact hmain 98 (by rw [if_neg e0])
    · rw [if_neg et]
      rw [if_neg et, List.append_nil] at hst
      exact hrec _ ⟨S', rfl, by rw [hst]; exact hW⟩
  · rintro v rec ⟨S', rfl, hW⟩
    unfold F_X8_goesThrough_b12 f_X8_goesThrough_b135
    dsimp only
    rw [if_pos (by decide)]
    refine ok_fx 12 (fun i v => ∃ S', v = (S', nI i) ∧ WD S p S' (alS A.1 A.2.2.1 len trn txt 10 ++ ruS A.2.1 i)) ?_ ?_ (FU_gt (by omega)) ⟨S', rfl, WD_eq hW (by simp [ruS])⟩
    · rintro i v rec2 hi ⟨S', rfl, hW⟩ hrec
      unfold F_X8_goesThrough_b135 f_X8_goesThrough_b171
      dsimp only
      rw [if_neg (le12n hi), if_pos (ib_nI he (by omega)), nI_cl (by omega), WD_o hW (by decide : (59 : Nat) ≠ 36), b2, has8 _ (by omega) (by omega), bsm, ifb, nI_1]
      have hst : ruS A.2.1 (i + 1) = ruS A.2.1 i ++ (if A.2.1.testBit i = true then [114] ++ (nS (nI i) ++ [59]) else []) := rfl
      by_cases et : A.2.1.testBit i = true
      · rw [if_pos et]
        rw [if_pos et] at hst
        have h1 := hmru (i + 1) (by omega)
        rw [hst] at h1
        simp only [List.length_append, List.length_cons, List.length_nil] at h1
        rw [show (114 : Int32) = nI 114 from rfl, show (59 : Int32) = nI 59 from rfl]
        refine Ok.bind (sign8 hW _ (by simp only [List.length_append]; omega)) (fun S2 w2 => ?_)
        refine Ok.bind (signs8 w2 (rngI (by omega)) (by simp only [List.length_append, List.length_cons, List.length_nil]; omega)) (fun S3 w3 => ?_)
        refine Ok.bind (sign8 w3 _ (by simp only [List.length_append, List.length_cons, List.length_nil]; omega)) (fun S4 w4 => ?_)
        exact hrec _ ⟨S4, rfl, WD_eq w4 (by rw [hst]; simp)⟩
      · rw [if_neg et]
        rw [if_neg et, List.append_nil] at hst
        exact hrec _ ⟨S', rfl, by rw [hst]; exact hW⟩
    · rintro v rec2 ⟨S', rfl, hW⟩
      have hW' := hW
      obtain ⟨g, hg, -⟩ := hW'
      unfold F_X8_goesThrough_b135
      dsimp only
      rw [if_pos (by decide)]
      refine ⟨_, rfl, hW, ?_⟩
      show p - S'.1 36 34 = _
      rw [hg, show (wS S g (p - nI (alS A.1 A.2.2.1 len trn txt 10 ++ ruS A.2.1 12).length)).1 36 34 = p - nI (alS A.1 A.2.2.1 len trn txt 10 ++ ruS A.2.1 12).length from rfl, i32_pp]
      rfl
  · show sI (sI S 36 34 p) 36 35 (-1) = wS S (-1) (p - nI 0)
    rw [show p - nI 0 = p from i32_p0]
    unfold wS sI
    refine Prod.ext ?_ rfl
    funext h
    dsimp only
    by_cases eh : h = 36
    · subst eh
      simp only [if_true]
      funext k
      unfold upd
      by_cases e2 : k = 34
      · simp [e2]
      · by_cases e3 : k = 35
        · simp [e3]
        · simp [e2, e3]
    · simp [eh]
end
