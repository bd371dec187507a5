/-! the law's loop -/
theorem law_J {x : Option (HS × Int32)} {y : HS → Option (HS × Int32)} {P : Int32 → Prop} (k : HS → Option Int32) (h : J x y) (hk : ∀ S, Inv S → Ok (k S) P) : Ok (x.bind fun o => (y o.1).bind fun r => (f_X8_thrown r.1).bind fun t => if t = o.2 then (if o.2 = 0 then (if ib (0 : Int32) 1 = true then (if lg_cmp (r.1.2.1 60 (0 : Int32).toNatClampNeg) r.2.toInt64 = 0 then k r.1 else some (0 : Int32)) else none) else k r.1) else some (0 : Int32)) P := by
  obtain ⟨o, rfl, r, hy, h1, h2, h3⟩ := h
  rw [bsm, hy, bsm, show f_X8_thrown r.1 = some (r.1.1 36 36) from rfl, bsm, if_pos h1]
  by_cases e : o.2 = 0
  · rw [if_pos e, if_pos ib01, cl0, if_pos ((lg_cmp_eq _ _).mpr (h2 e))]
    exact hk _ h3
  · rw [if_neg e]
    exact hk _ h3
theorem law_B {x : Option (HS × Int32)} {y : HS → Option (HS × Int32)} {P : Int32 → Prop} (k : HS → Option Int32) (h : JB x y) (hk : ∀ S, Inv S → Ok (k S) P) : Ok (x.bind fun o => (y o.1).bind fun r => (f_X8_thrown r.1).bind fun t => if t = o.2 then (if o.2 = 0 then (if ib (0 : Int32) 1 = true then (if r.2 = 0 then (if lg_cmp (r.1.2.1 60 (0 : Int32).toNatClampNeg) (0 : Int64) = 0 then k r.1 else some (0 : Int32)) else (if lg_cmp (r.1.2.1 60 (0 : Int32).toNatClampNeg) (1 : Int64) = 0 then k r.1 else some (0 : Int32))) else none) else k r.1) else some (0 : Int32)) P := by
  obtain ⟨o, rfl, r, hy, h1, h2, h3⟩ := h
  rw [bsm, hy, bsm, show f_X8_thrown r.1 = some (r.1.1 36 36) from rfl, bsm, if_pos h1]
  by_cases e : o.2 = 0
  · obtain ⟨h4, h5⟩ := h2 e
    unfold nz at h5
    rw [Bool.or_eq_true, decide_eq_true_eq, decide_eq_true_eq] at h5
    rw [if_pos e, if_pos ib01, cl0]
    rcases h5 with h5 | h5
    · rw [if_pos h5, if_pos ((lg_cmp_eq _ _).mpr (by rw [h4, h5]; decide))]
      exact hk _ h3
    · rw [if_neg (by rw [h5]; decide), if_pos ((lg_cmp_eq _ _).mpr (by rw [h4, h5]; decide))]
      exact hk _ h3
  · rw [if_neg e]
    exact hk _ h3
theorem law_D {x : Option (HS × Int32)} {y : HS → Option (HS × Int32)} {P : Int32 → Prop} (k : HS → Option Int32) (h : Ok x (fun o => Ok (y o.1) (fun r => o.2 = r.2 ∧ Inv r.1))) (hk : ∀ S, Inv S → Ok (k S) P) : Ok (x.bind fun o => (y o.1).bind fun r => if o.2 = r.2 then k r.1 else some (0 : Int32)) P := by
  obtain ⟨o, rfl, r, hy, h1, h3⟩ := h
  rw [bsm, hy, bsm, if_pos h1]
  exact hk _ h3
theorem law_D0 {x : Option Int32} {y : Option (HS × Int32)} {P : Int32 → Prop} (k : HS → Option Int32) (h : Ok x (fun o => Ok y (fun r => o = r.2 ∧ Inv r.1))) (hk : ∀ S, Inv S → Ok (k S) P) : Ok (x.bind fun o => y.bind fun r => if o = r.2 then k r.1 else some (0 : Int32)) P := by
  obtain ⟨o, rfl, r, rfl, h1, h3⟩ := h
  rw [bsm, bsm, if_pos h1]
  exact hk _ h3
theorem nz_b0 : nz (0 : Int32) = true := by decide
theorem nz_b1 : nz (1 : Int32) = true := by decide
theorem law_turn {xs : Nat → Int32} {L : Nat} {rec : HS × Int32 → Option Int32} {S : HS} {x4 : Int32} {P : Int32 → Prop} (hI : Inv S) (hend : ¬ (Int32.ofNat L) - (6 : Int32) < x4) (h0 : ib x4 L = true) (h1 : ib (x4 + (1 : Int32)) L = true) (h2 : ib (x4 + (2 : Int32)) L = true) (h3 : ib (x4 + (3 : Int32)) L = true) (h4 : ib (x4 + (4 : Int32)) L = true) (h5 : ib (x4 + (5 : Int32)) L = true) (hrec : ∀ S', Inv S' → Ok (rec (S', x4 + (6 : Int32))) P) : Ok (F_law xs L rec (S, x4)) P := by
  unfold F_law
  dsimp only
  rw [if_neg hend, if_pos h0]
  refine Ok.ite (fun _ => ?_) (fun _ => ?_)
  · simp only [h1, if_true]
    exact law_J (fun S => f_law_b221 xs L rec S x4) (j_spell hI _) (fun S' h => hrec S' h)
  refine Ok.ite (fun _ => ?_) (fun _ => ?_)
  · exact law_D (fun S => f_law_b1895 xs L rec S x4) (j_clear hI) (fun S' h => hrec S' h)
  refine Ok.ite (fun _ => ?_) (fun _ => ?_)
  · simp only [h1, h2, h3, h4, h5, if_true]
    exact law_J (fun S => f_law_b338 xs L rec S x4) (j_addBox hI _ _ _ _ _) (fun S' h => hrec S' h)
  refine Ok.ite (fun _ => ?_) (fun _ => ?_)
  · unfold f_law_b374 f_law_b413
    simp only [h1, h2, h3, h4, if_true]
    by_cases e : xs (x4 + (4 : Int32)).toNatClampNeg = 0
    · simp only [if_pos e]
      exact law_J (fun S => f_law_b446 xs L rec S x4) (j_addLabel hI _ _ _ _ nz_b0) (fun S' h => hrec S' h)
    · simp only [if_neg e]
      exact law_J (fun S => f_law_b446 xs L rec S x4) (j_addLabel hI _ _ _ _ nz_b1) (fun S' h => hrec S' h)
  refine Ok.ite (fun _ => ?_) (fun _ => ?_)
  · simp only [h1, h2, h3, h4, if_true]
    exact law_J (fun S => f_law_b538 xs L rec S x4) (j_move hI _ _ _ _) (fun S' h => hrec S' h)
  refine Ok.ite (fun _ => ?_) (fun _ => ?_)
  · simp only [h1, h2, h3, h4, if_true]
    exact law_J (fun S => f_law_b630 xs L rec S x4) (j_resize hI _ _ _ _) (fun S' h => hrec S' h)
  refine Ok.ite (fun _ => ?_) (fun _ => ?_)
  · simp only [h1, h2, h3, h4, if_true]
    exact law_J (fun S => f_law_b722 xs L rec S x4) (j_lay hI _ _ _ _) (fun S' h => hrec S' h)
  refine Ok.ite (fun _ => ?_) (fun _ => ?_)
  · simp only [h1, h2, if_true]
    exact law_J (fun S => f_law_b790 xs L rec S x4) (j_drop hI _ _) (fun S' h => hrec S' h)
  refine Ok.ite (fun _ => ?_) (fun _ => ?_)
  · simp only [h1, if_true]
    exact law_J (fun S => f_law_b846 xs L rec S x4) (j_back hI _) (fun S' h => hrec S' h)
  refine Ok.ite (fun _ => ?_) (fun _ => ?_)
  · simp only [h1, h2, if_true]
    exact law_J (fun S => f_law_b914 xs L rec S x4) (j_on hI _ _) (fun S' h => hrec S' h)
  refine Ok.ite (fun _ => ?_) (fun _ => ?_)
  · simp only [h1, if_true]
    exact law_J (fun S => f_law_b970 xs L rec S x4) (j_branches hI _) (fun S' h => hrec S' h)
  refine Ok.ite (fun _ => ?_) (fun _ => ?_)
  · simp only [h1, if_true]
    exact law_J (fun S => f_law_b1026 xs L rec S x4) (j_below hI _) (fun S' h => hrec S' h)
  refine Ok.ite (fun _ => ?_) (fun _ => ?_)
  · simp only [h1, if_true]
    exact law_J (fun S => f_law_b1082 xs L rec S x4) (j_standsAt hI _) (fun S' h => hrec S' h)
  refine Ok.ite (fun _ => ?_) (fun _ => ?_)
  · exact law_D0 (fun S => f_law_b1895 xs L rec S x4) (j_acts hI) (fun S' h => hrec S' h)
  refine Ok.ite (fun _ => ?_) (fun _ => ?_)
  · simp only [h1, if_true]
    unfold f_law_b1152
    exact law_B (fun S => f_law_b1158 xs L rec S x4) (j_counts hI _) (fun S' h => hrec S' h)
  refine Ok.ite (fun _ => ?_) (fun _ => ?_)
  · simp only [h1, if_true]
    unfold f_law_b1215
    exact law_B (fun S => f_law_b1221 xs L rec S x4) (j_isVoid hI _) (fun S' h => hrec S' h)
  refine Ok.ite (fun _ => ?_) (fun _ => ?_)
  · simp only [h1, if_true]
    unfold f_law_b1278
    exact law_B (fun S => f_law_b1284 xs L rec S x4) (j_isThere hI _) (fun S' h => hrec S' h)
  refine Ok.ite (fun _ => ?_) (fun _ => ?_)
  · simp only [h1, h2, if_true]
    exact law_J (fun S => f_law_b1352 xs L rec S x4) (j_number hI _ _) (fun S' h => hrec S' h)
  refine Ok.ite (fun _ => ?_) (fun _ => ?_)
  · simp only [h1, h2, if_true]
    exact law_J (fun S => f_law_b1420 xs L rec S x4) (j_numberAnew hI _ _) (fun S' h => hrec S' h)
  refine Ok.ite (fun _ => ?_) (fun _ => ?_)
  · simp only [h1, if_true]
    unfold f_law_b1477
    exact law_B (fun S => f_law_b1483 xs L rec S x4) (j_isInForce hI _) (fun S' h => hrec S' h)
  refine Ok.ite (fun _ => ?_) (fun _ => ?_)
  · simp only [h1, if_true]
    unfold f_law_b1540
    exact law_B (fun S => f_law_b1546 xs L rec S x4) (j_holds hI _) (fun S' h => hrec S' h)
  refine Ok.ite (fun _ => ?_) (fun _ => ?_)
  · exact law_D0 (fun S => f_law_b1895 xs L rec S x4) (j_broken hI) (fun S' h => hrec S' h)
  refine Ok.ite (fun _ => ?_) (fun _ => ?_)
  · unfold f_law_b1583 f_law_b1610
    simp only [h1, h2, if_true]
    by_cases e : xs (x4 + (2 : Int32)).toNatClampNeg = 0
    · simp only [if_pos e]
      exact law_J (fun S => f_law_b1643 xs L rec S x4) (j_part hI _ _) (fun S' h => hrec S' h)
    · simp only [if_neg e]
      exact law_J (fun S => f_law_b1643 xs L rec S x4) (j_part hI _ _) (fun S' h => hrec S' h)
  refine Ok.ite (fun _ => ?_) (fun _ => ?_)
  · exact law_J (fun S => f_law_b1687 xs L rec S x4) (j_ask hI) (fun S' h => hrec S' h)
  refine Ok.ite (fun _ => ?_) (fun _ => ?_)
  · exact law_D (fun S => f_law_b1895 xs L rec S x4) (j_make hI) (fun S' h => hrec S' h)
  refine Ok.ite (fun _ => ?_) (fun _ => ?_)
  · simp only [h1, if_true]
    exact law_J (fun S => f_law_b1756 xs L rec S x4) (j_length hI _) (fun S' h => hrec S' h)
  refine Ok.ite (fun _ => ?_) (fun _ => ?_)
  · simp only [h1, h2, if_true]
    exact law_J (fun S => f_law_b1824 xs L rec S x4) (j_charAt hI _ _) (fun S' h => hrec S' h)
  refine Ok.ite (fun _ => ?_) (fun _ => ?_)
  · simp only [h1, h2, if_true]
    exact law_J (fun S => f_law_b1892 xs L rec S x4) (j_charAnew hI _ _) (fun S' h => hrec S' h)
  exact hrec S hI
/-! the beginning -/
theorem S0_o {a : Nat} (h : a ≠ 15 ∧ a ≠ 52 ∧ a ≠ 24 ∧ a ≠ 27) : S0.1 a = fun _ => 0 := by
  obtain ⟨h1, h2, h3, h4⟩ := h
  unfold S0
  simp [h1, h2, h3, h4]
theorem z_bit {k : Nat} (h : (0 : Nat).testBit k = true) : False := by
  rw [Nat.zero_testBit] at h
  exact absurd h (by decide)
theorem S0_st : ∀ d, d < 4 → S0.1 15 d = cI 0 ∧ S0.1 52 d = cI 0 := by
  intro d hd
  match d, hd with
  | 0, _ => decide
  | 1, _ => decide
  | 2, _ => decide
  | 3, _ => decide
theorem Inv_0 : Inv S0 := by
  have o : ∀ a k, a ≠ 15 ∧ a ≠ 52 ∧ a ≠ 24 ∧ a ≠ 27 → S0.1 a k = nI 0 := fun a k h => by rw [S0_o h]; rfl
  refine I0_inv (sp := 0) (ns := 0) (nr := 0) (na := 0) (ne := 0) (nm := 0) (lt := fun _ => 0) (len := fun _ => 0) (fr := fun _ => 0) (to := fun _ => 0) (sj := fun _ => 0) (dr := fun _ => 0) (ab := fun _ => 0) (st := fun _ => 0) (lby := fun _ => 0) (se := fun _ => 0) (trn := fun _ => false) (txt := fun _ _ => 0) (kd := fun _ => 0) (dd := fun _ => 0) (qq := fun _ _ => 0) ⟨⟨⟨by omega, fun i h => absurd h (by omega), by omega, by omega, fun e h => absurd h (by omega)⟩, ⟨by omega, by omega, fun k h => absurd h (by omega)⟩, ⟨fun a h => absurd h (by omega), fun a c _ h => absurd h (by omega)⟩, ⟨by omega, fun k h => absurd h (by omega), fun d _ => ⟨Nat.zero_le _, fun j h => absurd h (by show ¬ 0 = j + 1; omega)⟩⟩, fun k h => absurd h (by omega), fun k h => absurd h (by omega), fun v => rfl⟩, ⟨⟨o 0 1 (by omega), fun i h => absurd h (by omega)⟩, ⟨o 2 0 (by omega), o 5 0 (by omega), ⟨fun k => ⟨Nat.zero_le _, fun h => absurd h (by omega)⟩, 0, by omega, o 2 1 (by omega), fun k h => absurd h (by omega)⟩, ⟨by omega, fun k h => absurd h (by omega)⟩, fun a h => absurd h (by omega), ⟨o 9 0 (by omega), fun k h => absurd h (by omega), fun d hd => (S0_st d hd).1⟩⟩, ⟨⟨18, 21, ⟨rfl, rfl, by omega⟩, ⟨o 18 5 (by omega), o 18 6 (by omega), fun k w h => (z_bit h).elim, fun j w h => (z_bit h).elim⟩⟩, rfl⟩, ⟨24, 27, rfl, rfl, by omega⟩, ⟨o 30 0 (by omega), o 30 1 (by omega), fun e h => absurd h (by omega), fun i => ?_, fun i => ?_⟩⟩, ⟨⟨o 36 0 (by omega), fun i h => absurd h (by omega)⟩, ⟨fun k h => absurd h (by omega), ⟨o 36 7 (by omega), o 36 2 (by omega), by omega, by omega, by omega, fun k h => absurd h (by omega), fun k h => absurd h (by omega)⟩, fun k h => absurd h (by omega), fun a h => absurd h (by omega), ⟨o 36 12 (by omega), fun k h => absurd h (by omega), fun d hd => (S0_st d hd).2⟩⟩, ⟨⟨o 36 20 (by omega), o 36 22 (by omega), fun k w h => (z_bit h).elim, fun j h => (z_bit h).elim⟩, fun a h => absurd h (by omega)⟩, ⟨o 36 29 (by omega), o 36 30 (by omega), fun e h => absurd h (by omega)⟩⟩⟩
  · rw [o 33 i (by omega)]; decide
  · rw [o 35 i (by omega)]; decide
theorem L6 {L i : Nat} (hL : L ≤ 3072) (hi : i ≤ 600) : (Int32.ofNat L) - (6 : Int32) < nI (6 * i) ↔ L < 6 * i + 6 := by
  show nI L - (6 : Int32) < nI (6 * i) ↔ _
  rw [Int32.lt_iff_toInt_lt, Int32.toInt_sub, toInt_nI (show L < 2 ^ 31 by omega), toInt_nI (show 6 * i < 2 ^ 31 by omega), show (6 : Int32).toInt = 6 from by decide]
  simp only [Int.bmod]
  omega
theorem law_pure {L : Nat} (xs : Nat → Int32) (hL : L ≤ 3072) : fx (F_law xs L) 600 (S0, 0) = some 1 := by
  apply ok_eq
  refine ok_fx (L / 6) (fun i v => Inv v.1 ∧ v.2 = nI (6 * i)) ?_ ?_ (by omega) ⟨Inv_0, rfl⟩
  · rintro i ⟨S, x⟩ rec hi ⟨hI, hx⟩ hrec
    dsimp only at hI hx
    subst hx
    have hle : 6 * i + 6 ≤ L := by omega
    have hib : ∀ j, j < 6 → ib (nI (6 * i + j)) L = true := fun j hj => ib_nI (by omega) (by omega)
    refine law_turn hI (fun q => absurd ((L6 hL (by omega)).mp q) (by omega)) (hib 0 (by omega)) ?_ ?_ ?_ ?_ ?_ (fun S' h => ?_)
    · rw [show (1 : Int32) = nI 1 from rfl, nI_add]; exact hib 1 (by omega)
    · rw [show (2 : Int32) = nI 2 from rfl, nI_add]; exact hib 2 (by omega)
    · rw [show (3 : Int32) = nI 3 from rfl, nI_add]; exact hib 3 (by omega)
    · rw [show (4 : Int32) = nI 4 from rfl, nI_add]; exact hib 4 (by omega)
    · rw [show (5 : Int32) = nI 5 from rfl, nI_add]; exact hib 5 (by omega)
    · refine hrec _ ⟨h, ?_⟩
      show nI (6 * i) + (6 : Int32) = nI (6 * (i + 1))
      rw [show (6 : Int32) = nI 6 from rfl, nI_add, show 6 * i + 6 = 6 * (i + 1) by omega]
  · rintro ⟨S, x⟩ rec ⟨hI, hx⟩
    dsimp only at hI hx
    subst hx
    unfold F_law
    dsimp only
    rw [if_pos ((L6 hL (by omega)).mpr (by omega))]
    exact ⟨_, rfl, rfl⟩
