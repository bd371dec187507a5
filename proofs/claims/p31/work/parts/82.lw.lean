/-! the law's own rows; its small methods -/
def kN (x : Int32) : Nat := x.toNatClampNeg
theorem kN_eq {x : Int32} (h : KK x) : x = nI (kN x) ∧ kN x < 7 := by
  rcases h with (h | h | h | h | h | h) | h <;> subst h <;> decide
def tW (dr ab : Nat → Nat) (dd : Nat → Int32) (k : Nat) : Nat := dr k + 4 * ab k + (if dd k = 0 then 256 else 0)
def rW (kd : Nat → Int32) (fr to lby : Nat → Nat) (j : Nat) : Nat := kN (kd j) + 8 * fr j + 128 * to j + 2048 * lby j
def LI (S : HS) (na ns nr ne nm : Nat) (kd dd : Nat → Int32) (fr to dr ab st lby : Nat → Nat) : Prop :=
  (∀ k, k < na → S.1 36 k = nI (tW dr ab dd k)) ∧ (∀ j, j < nr → S.1 37 j = nI (rW kd fr to lby j)) ∧ S.1 38 0 = nI na ∧ S.1 38 1 = nI ns ∧ S.1 38 2 = nI nr ∧ S.1 38 3 = nI ne ∧ S.1 38 4 = nI nm ∧ ∀ x, x < 4 → S.1 39 x = nI (st x)
theorem LI_fr {S S' : HS} {na ns nr ne nm : Nat} {kd dd : Nat → Int32} {fr to dr ab st lby : Nat → Nat} (f : ∀ x, 36 ≤ x → x < 40 → S'.1 x = S.1 x) (h : LI S na ns nr ne nm kd dd fr to dr ab st lby) : LI S' na ns nr ne nm kd dd fr to dr ab st lby := by
  unfold LI at h ⊢
  rw [f 36 (by omega) (by omega), f 37 (by omega) (by omega), f 38 (by omega) (by omega), f 39 (by omega) (by omega)]
  exact h
theorem part31 (S : HS) {m a b : Nat} (hm : m < 2 ^ 31) (ha : a < 31) (hb : b < 31) : f_L_part (nI m) (nI a) (nI b) S = some (nI (m / 2 ^ a % 2 ^ b)) := by
  unfold f_L_part
  rw [pk_shrN hm _ a (s_l a (by omega)), shl1 hb, show (1 : Int32) = nI 1 from rfl, pk_sub Nat.one_le_two_pow, fa_mask]
theorem ib05 : ib (0 : Int32) 5 = true := by decide
theorem ib15 : ib (1 : Int32) 5 = true := by decide
theorem ib25 : ib (2 : Int32) 5 = true := by decide
theorem ib35 : ib (3 : Int32) 5 = true := by decide
theorem ib45 : ib (4 : Int32) 5 = true := by decide
theorem cl1 : (1 : Int32).toNatClampNeg = 1 := by decide
theorem cl2 : (2 : Int32).toNatClampNeg = 2 := by decide
theorem cl3 : (3 : Int32).toNatClampNeg = 3 := by decide
theorem cl4 : (4 : Int32).toNatClampNeg = 4 := by decide
theorem k0 {x : Int32} (h : x ≠ 0) {α : Type} {a : Option α} : (if x = 0 then none else a) = a := if_neg h
section
variable {S : HS} {na ns nr ne nm : Nat} {kd dd : Nat → Int32} {fr to dr ab st lby : Nat → Nat} {k j : Nat}
theorem pt_dr (hT : TWF na dr ab st) (hk : k < na) : f_L_part (nI (tW dr ab dd k)) 0 2 S = some (nI (dr k)) := by
  obtain ⟨w1, w2, -⟩ := hT
  obtain ⟨a1, a2, -⟩ := w2 k hk
  have hm : tW dr ab dd k < 2 ^ 31 ∧ tW dr ab dd k / 2 ^ 0 % 2 ^ 2 = dr k := by
    unfold tW
    by_cases e : dd k = 0
    · rw [if_pos e]; omega
    · rw [if_neg e]; omega
  have h := part31 S (a := 0) (b := 2) hm.1 (by omega) (by omega)
  rw [hm.2] at h
  exact h
theorem pt_ab (hT : TWF na dr ab st) (hk : k < na) : f_L_part (nI (tW dr ab dd k)) 2 6 S = some (nI (ab k)) := by
  obtain ⟨w1, w2, -⟩ := hT
  obtain ⟨a1, a2, -⟩ := w2 k hk
  have hm : tW dr ab dd k < 2 ^ 31 ∧ tW dr ab dd k / 2 ^ 2 % 2 ^ 6 = ab k := by
    unfold tW
    by_cases e : dd k = 0
    · rw [if_pos e]; omega
    · rw [if_neg e]; omega
  have h := part31 S (a := 2) (b := 6) hm.1 (by omega) (by omega)
  rw [hm.2] at h
  exact h
theorem pt_ad (hT : TWF na dr ab st) (hk : k < na) : f_L_part (nI (tW dr ab dd k)) 8 1 S = some (bI (decide (dd k = 0))) := by
  obtain ⟨w1, w2, -⟩ := hT
  obtain ⟨a1, a2, -⟩ := w2 k hk
  have hm : tW dr ab dd k < 2 ^ 31 ∧ nI (tW dr ab dd k / 2 ^ 8 % 2 ^ 1) = bI (decide (dd k = 0)) := by
    unfold tW
    by_cases e : dd k = 0
    · rw [if_pos e, decide_eq_true e]
      refine ⟨by omega, ?_⟩
      rw [show (dr k + 4 * ab k + 256) / 2 ^ 8 % 2 ^ 1 = 1 by omega]
      rfl
    · rw [if_neg e, decide_eq_false e]
      refine ⟨by omega, ?_⟩
      rw [show (dr k + 4 * ab k + 0) / 2 ^ 8 % 2 ^ 1 = 0 by omega]
      rfl
  have h := part31 S (a := 8) (b := 1) hm.1 (by omega) (by omega)
  rw [hm.2] at h
  exact h
/-- a row of a rule -/
theorem pr_all (hK : KK (kd j)) (hf : fr j < 10) (ht : to j < 10) (hl : lby j < 60) : f_L_part (nI (rW kd fr to lby j)) 0 3 S = some (kd j) ∧ f_L_part (nI (rW kd fr to lby j)) 3 4 S = some (nI (fr j)) ∧ f_L_part (nI (rW kd fr to lby j)) 7 4 S = some (nI (to j)) ∧ f_L_part (nI (rW kd fr to lby j)) 11 6 S = some (nI (lby j)) := by
  obtain ⟨h1, h2⟩ := kN_eq hK
  have hm : rW kd fr to lby j < 2 ^ 31 ∧ rW kd fr to lby j / 2 ^ 0 % 2 ^ 3 = kN (kd j) ∧ rW kd fr to lby j / 2 ^ 3 % 2 ^ 4 = fr j ∧ rW kd fr to lby j / 2 ^ 7 % 2 ^ 4 = to j ∧ rW kd fr to lby j / 2 ^ 11 % 2 ^ 6 = lby j := by
    unfold rW
    omega
  obtain ⟨m0, m1, m2, m3, m4⟩ := hm
  have e1 := part31 S (a := 0) (b := 3) m0 (by omega) (by omega)
  have e2 := part31 S (a := 3) (b := 4) m0 (by omega) (by omega)
  have e3 := part31 S (a := 7) (b := 4) m0 (by omega) (by omega)
  have e4 := part31 S (a := 11) (b := 6) m0 (by omega) (by omega)
  rw [m1, ← h1] at e1
  rw [m2] at e2
  rw [m3] at e3
  rw [m4] at e4
  exact ⟨e1, e2, e3, e4⟩
theorem isOn_e {s : Nat} (hk : k < 60) (hs : s ≤ 60) : f_L_isOn_b37 (nI k) S (nI s) = some (bI (decide (s = k + 1))) := by
  unfold f_L_isOn_b37 f_L_isOn_b49
  rw [nI_1]
  by_cases e : s = k + 1
  · rw [if_pos (by rw [e]), nz_1, if_pos rfl, decide_eq_true e]
    rfl
  · rw [if_neg (fun q => e ((nI_eq (by omega) (by omega)).mp q)), nz_0, if_pos rfl, decide_eq_false e]
    rfl
theorem k_isOn (hT : TWF na dr ab st) (hL : LI S na ns nr ne nm kd dd fr to dr ab st lby) (hk : k < na) : f_L_isOn (nI k) S = some (bI ((cset st ab).testBit k)) := by
  have hT' := hT
  obtain ⟨w1, w2, w3⟩ := hT'
  obtain ⟨a1, a2, a3⟩ := w2 k hk
  have hab : ∀ k, k < na → ab k ≤ k := fun k hk => (w2 k hk).2.1
  unfold f_L_isOn
  rw [if_pos (ib_nI (show k < 60 by omega) (by omega)), nI_cl (by omega), hL.1 k hk, pt_dr hT hk, bsm, if_pos (ib_nI a1 (by omega)), nI_cl (by omega), hL.2.2.2.2.2.2.2 _ a1, cset_bit hT hk]
  apply ok_eq
  unfold f_L_isOn_b11
  refine ok_fx na (fun i v => ∃ s, v = nI s ∧ s + i ≤ na ∧ (wy ab s).testBit k = (wy ab (st (dr k))).testBit k) ?_ ?_ (FU_gt (by omega)) ⟨st (dr k), rfl, by have := (w3 _ a1).1; omega, rfl⟩
  · rintro i v rec hi ⟨s, rfl, hle, hb⟩ hrec
    unfold F_L_isOn_b11
    dsimp only
    rw [← hb]
    cases s with
    | zero =>
      rw [if_pos (by decide), isOn_e (by omega) (by omega), wy_0, Nat.zero_testBit, decide_eq_false (by omega)]
      exact ⟨_, rfl, rfl⟩
    | succ s =>
      rw [if_neg (by rw [lb_le (by omega)]; omega)]
      by_cases e : s = k
      · subst e
        rw [if_pos (by rw [nI_1]), isOn_e (by omega) (by omega), wy_s hab hk, Nat.testBit_or, Nat.testBit_two_pow_self, decide_eq_true rfl]
        exact ⟨_, rfl, rfl⟩
      · have hs1 : nI (s + 1) - (1 : Int32) = nI s := by rw [show (1 : Int32) = nI 1 from rfl, pk_sub (by omega)]; rfl
        have := hab s (by omega)
        rw [if_neg (by rw [nI_1]; exact fun q => e (by have := (nI_eq (show s + 1 < 2 ^ 31 by omega) (show k + 1 < 2 ^ 31 by omega)).mp q; omega)), hs1, if_pos (ib_nI (show s < 60 by omega) (by omega)), nI_cl (by omega), hL.1 s (by omega), pt_ab hT (by omega), bsm]
        have h2 := hrec (nI (ab s)) ⟨ab s, rfl, by omega, ?_⟩
        · rw [← hb] at h2
          exact h2
        · rw [← hb, wy_s hab (by omega), Nat.testBit_or, Nat.testBit_two_pow]
          simp [e]
  · rintro v rec ⟨s, rfl, hle, hb⟩
    have : s = 0 := by omega
    subst this
    unfold F_L_isOn_b11
    dsimp only
    rw [if_pos (by decide), isOn_e (by omega) (by omega), ← hb, wy_0, Nat.zero_testBit, decide_eq_false (by omega)]
    exact ⟨_, rfl, rfl⟩
end
/-- the class and the law's rows -/
def CL (S : HS) (sp ns nr na ne nm : Nat) (lt len fr to sj dr ab st lby se : Nat → Nat) (trn : Nat → Bool) (txt : Nat → Nat → Nat) (kd dd : Nat → Int32) (qq : Nat → Nat → Int32) : Prop := CI S sp ns nr na ne nm lt len fr to sj dr ab st lby se trn txt kd dd qq ∧ LI S na ns nr ne nm kd dd fr to dr ab st lby
/-- a number as it is noted -/
def nv (A : AB) (k j : Nat) : Int32 := if A.1.testBit k = true then 5000 + A.2.2.1 k j else 0
def smN (A0 A : AB) (k : Nat) : Nat → Bool
  | 0 => true
  | j + 1 => smN A0 A k j && decide (nv A0 k j = nv A k j)
def dfN (A0 A : AB) (k : Nat) : Bool := !smN A0 A k 4
section
variable {S : HS} {sp ns nr na ne nm : Nat} {lt len fr to sj dr ab st lby se : Nat → Nat} {trn : Nat → Bool} {txt : Nat → Nat → Nat} {kd dd : Nat → Int32} {qq : Nat → Nat → Int32}
theorem k_voids (h : CL S sp ns nr na ne nm lt len fr to sj dr ab st lby se trn txt kd dd qq) : f_L_voids S = some (S, nI (fb_ct (fun k => (rep kd fr to (lbL len) dd sj qq (cset st ab) na).2.testBit k) na)) := by
  obtain ⟨hC, hL⟩ := h
  have hna := hC.1.2.2.2.1.1
  unfold f_L_voids f_L_voids_b4
  refine fx_run na (fun i => (S, nI (fb_ct (fun k => (rep kd fr to (lbL len) dd sj qq (cset st ab) na).2.testBit k) i), nI i)) ?_ ?_ (FU_gt (by omega)) rfl
  · intro i rec hi
    unfold F_L_voids_b4 f_L_voids_b25
    dsimp only
    rw [if_pos ib05, cl0, hL.2.2.1, if_neg (nlt_le hi (by omega)), k_isVoid hC hi, bsm]
    dsimp only
    rw [if_pos rfl, ifb, nI_1, fb_ct_succ]
    cases (rep kd fr to (lbL len) dd sj qq (cset st ab) na).2.testBit i with
    | false => rw [if_neg (by decide), i32_00, nI_1, if_neg (by decide)]; rfl
    | true => rw [if_pos rfl, nI_1, if_pos rfl]
  · intro rec
    unfold F_L_voids_b4
    dsimp only
    rw [if_pos ib05, cl0, hL.2.2.1, if_pos (nle_nI _)]
theorem k_notes (h : CL S sp ns nr na ne nm lt len fr to sj dr ab st lby se trn txt kd dd qq) : Ok (f_L_notes S) (fun S' => (∀ x, x ≠ 40 → S'.1 x = S.1 x) ∧ S'.2 = S.2 ∧ ∀ k j, k < ns → j < 4 → S'.1 40 (4 * k + j) = nv (rep kd fr to (lbL len) dd sj qq (cset st ab) na).1 k j) := by
  obtain ⟨hC, hL⟩ := h
  have hns := hC.1.2.1.2.1
  refine ⟨sA S 40 (fa_fill (fun t => nv (rep kd fr to (lbL len) dd sj qq (cset st ab) na).1 (t / 4) (t % 4)) (S.1 40) (4 * ns)), ?_, fun x p => sA_o p, rfl, fun k j hk hj => ?_⟩
  · unfold f_L_notes f_L_notes_b2
    have hCi : ∀ f, CI (sA S 40 f) sp ns nr na ne nm lt len fr to sj dr ab st lby se trn txt kd dd qq := fun f => CI_lw hC (fun x p => sA_o (by omega)) rfl
    have hLi : ∀ f, (sA S 40 f).1 38 1 = nI ns := fun f => by rw [sA_o (by omega)]; exact hL.2.2.2.1
    have h4 : (4 : Int32) * nI ns = nI (4 * ns) := by rw [show (4 : Int32) = nI 4 from rfl, pk_mul]
    refine fx_run (4 * ns) (fun i => (sA S 40 (fa_fill (fun t => nv (rep kd fr to (lbL len) dd sj qq (cset st ab) na).1 (t / 4) (t % 4)) (S.1 40) i), nI i)) ?_ ?_ (FU_gt (by omega)) ?_
    · intro i rec hi
      have d4 : nI i / (4 : Int32) = nI (i / 4) := pk_div (d := 4) (by omega) (by decide) (by decide)
      have r4 : nI i - nI (i / 4) * (4 : Int32) = nI (i % 4) := by
        have := pk_rem (a := i) (d := 4) (by omega) (by decide) (by decide)
        rw [show (nI 4 : Int32) = 4 from rfl, d4] at this
        exact this
      have hst : ∀ v, v = nv (rep kd fr to (lbL len) dd sj qq (cset st ab) na).1 (i / 4) (i % 4) → f_L_notes_b41 rec (sA S 40 (fa_fill (fun t => nv (rep kd fr to (lbL len) dd sj qq (cset st ab) na).1 (t / 4) (t % 4)) (S.1 40) i)) (nI i) (nI i) v = rec (sA S 40 (fa_fill (fun t => nv (rep kd fr to (lbL len) dd sj qq (cset st ab) na).1 (t / 4) (t % 4)) (S.1 40) (i + 1)), nI (i + 1)) := by
        rintro v rfl
        unfold f_L_notes_b41
        rw [if_pos (ib_nI (show i < 40 by omega) (by omega)), nI_cl (by omega), sA_sI, nI_1, ← fa_fill_succ]
      have hth := k_isThere (hCi (fa_fill (fun t => nv (rep kd fr to (lbL len) dd sj qq (cset st ab) na).1 (t / 4) (t % 4)) (S.1 40) i)) (show i / 4 < ns by omega)
      unfold F_L_notes_b2
      dsimp only
      rw [if_pos ib15, cl1, hLi, h4, if_neg (nlt_le hi (by omega)), k0 (by decide), d4, hth, bsm]
      dsimp only
      rw [if_pos rfl, ifb]
      cases ht : (rep kd fr to (lbL len) dd sj qq (cset st ab) na).1.1.testBit (i / 4) with
      | false =>
        rw [if_neg (by decide)]
        refine hst 0 ?_
        unfold nv
        rw [ht, if_neg (by decide)]
      | true =>
        rw [if_pos rfl, k0 (by decide), k0 (by decide), r4, k_number_y (hCi _) (show i / 4 < ns by omega) (show i % 4 < 4 by omega) ht, bsm]
        dsimp only
        rw [if_pos rfl]
        refine hst _ ?_
        unfold nv
        rw [ht, if_pos rfl]
    · intro rec
      unfold F_L_notes_b2
      dsimp only
      rw [if_pos ib15, cl1, hLi, h4, if_pos (nle_nI _)]
    · rw [fa_fill_0, sA_self]
      rfl
  · rw [sA_at, fa_fill_in (by omega), show (4 * k + j) / 4 = k by omega, show (4 * k + j) % 4 = j by omega]
theorem k_differs {A0 : AB} (hC : CI S sp ns nr na ne nm lt len fr to sj dr ab st lby se trn txt kd dd qq) (h1 : S.1 38 1 = nI ns) (hn : ∀ k j, k < ns → j < 4 → S.1 40 (4 * k + j) = nv A0 k j) : f_L_differs S = some (S, nI (fb_ct (dfN A0 (rep kd fr to (lbL len) dd sj qq (cset st ab) na).1) ns)) := by
  have hns := hC.1.2.1.2.1
  unfold f_L_differs f_L_differs_b5
  refine fx_run ns (fun i => (S, nI (fb_ct (dfN A0 (rep kd fr to (lbL len) dd sj qq (cset st ab) na).1) i), nI i)) ?_ ?_ (FU_gt (by omega)) rfl
  · intro k rec hk
    unfold F_L_differs_b5
    dsimp only
    rw [if_pos ib15, cl1, h1, if_neg (nlt_le hk (by omega))]
    unfold f_L_differs_b19
    have hin : ∀ x : Int32, fx (F_L_differs_b19 rec) FU (S, x, nI k, 1, 0) = rec (S, x + bI (dfN A0 (rep kd fr to (lbL len) dd sj qq (cset st ab) na).1 k), nI (k + 1)) := by
      intro x
      refine fx_run 4 (fun j => (S, x, nI k, bI (smN A0 (rep kd fr to (lbL len) dd sj qq (cset st ab) na).1 k j), nI j)) ?_ ?_ (FU_gt (by omega)) rfl
      · intro j rec2 hj
        have i4 : (4 : Int32) * nI k + nI j = nI (4 * k + j) := by rw [show (4 : Int32) = nI 4 from rfl, pk_mul, nI_add]
        unfold F_L_differs_b19
        dsimp only
        rw [if_neg (le4n hj)]
        cases hs : smN A0 (rep kd fr to (lbL len) dd sj qq (cset st ab) na).1 k j with
        | false =>
          rw [if_pos (show bI false = 0 from rfl)]
          unfold f_L_differs_b71 f_L_differs_b72
          rw [nI_1, show smN A0 (rep kd fr to (lbL len) dd sj qq (cset st ab) na).1 k (j + 1) = (smN A0 (rep kd fr to (lbL len) dd sj qq (cset st ab) na).1 k j && decide (nv A0 k j = nv (rep kd fr to (lbL len) dd sj qq (cset st ab) na).1 k j)) from rfl, hs]
          rfl
        | true =>
          rw [if_neg (show ¬ bI true = 0 by decide), i4, if_pos (ib_nI (show 4 * k + j < 40 by omega) (by omega)), nI_cl (by omega), hn k j hk hj, k_isThere hC hk, bsm]
          dsimp only
          rw [if_pos rfl, ifb]
          have hst : ∀ v, v = nv (rep kd fr to (lbL len) dd sj qq (cset st ab) na).1 k j → f_L_differs_b64 rec rec2 S x (nI k) (nI j) (nv A0 k j) v = rec2 (S, x, nI k, bI (smN A0 (rep kd fr to (lbL len) dd sj qq (cset st ab) na).1 k (j + 1)), nI (j + 1)) := by
            rintro v rfl
            unfold f_L_differs_b64 f_L_differs_b71 f_L_differs_b72
            rw [nI_1, show smN A0 (rep kd fr to (lbL len) dd sj qq (cset st ab) na).1 k (j + 1) = (smN A0 (rep kd fr to (lbL len) dd sj qq (cset st ab) na).1 k j && decide (nv A0 k j = nv (rep kd fr to (lbL len) dd sj qq (cset st ab) na).1 k j)) from rfl, hs]
            by_cases e : nv A0 k j = nv (rep kd fr to (lbL len) dd sj qq (cset st ab) na).1 k j
            · rw [if_pos e, decide_eq_true e]; rfl
            · rw [if_neg e, decide_eq_false e]; rfl
          cases ht : (rep kd fr to (lbL len) dd sj qq (cset st ab) na).1.1.testBit k with
          | false =>
            rw [if_neg (by decide)]
            refine hst 0 ?_
            unfold nv
            rw [ht, if_neg (by decide)]
          | true =>
            rw [if_pos rfl, k_number_y hC hk hj ht, bsm]
            dsimp only
            rw [if_pos rfl]
            refine hst _ ?_
            unfold nv
            rw [ht, if_pos rfl]
      · intro rec2
        unfold F_L_differs_b19 f_L_differs_b91
        dsimp only
        rw [if_pos (by decide), ifb, nI_1]
        unfold dfN
        cases smN A0 (rep kd fr to (lbL len) dd sj qq (cset st ab) na).1 k 4 <;> rfl
    rw [hin, fb_ct_succ]
    cases dfN A0 (rep kd fr to (lbL len) dd sj qq (cset st ab) na).1 k
    · rw [show bI false = nI 0 from rfl, nI_add]
      rfl
    · rw [show bI true = nI 1 from rfl, nI_add]
      rfl
  · intro rec
    unfold F_L_differs_b5
    dsimp only
    rw [if_pos ib15, cl1, h1, if_pos (nle_nI _)]
end
theorem smN_all {A0 A : AB} {k : Nat} : ∀ n, smN A0 A k n = true ↔ ∀ j, j < n → nv A0 k j = nv A k j
  | 0 => ⟨fun _ j hj => absurd hj (by omega), fun _ => rfl⟩
  | n + 1 => by
    show (smN A0 A k n && decide (nv A0 k n = nv A k n)) = true ↔ _
    rw [Bool.and_eq_true, smN_all n, decide_eq_true_eq]
    constructor
    · rintro ⟨h1, h2⟩ j hj
      rcases Nat.lt_succ_iff_lt_or_eq.mp hj with h | rfl
      · exact h1 j h
      · exact h2
    · intro h
      exact ⟨fun j hj => h j (by omega), h n (by omega)⟩
theorem dfN_f {A0 A : AB} {k : Nat} : dfN A0 A k = false ↔ ∀ j, j < 4 → nv A0 k j = nv A k j := by
  unfold dfN
  rw [Bool.not_eq_false']
  exact smN_all 4
theorem ct_0 {p : Nat → Bool} : ∀ n, (∀ k, k < n → p k = false) → fb_ct p n = 0
  | 0, _ => rfl
  | n + 1, h => by rw [fb_ct_succ, ct_0 n (fun k hk => h k (by omega)), h n (by omega)]; rfl
/-- the same board: nothing differs -/
theorem dfN_same (A : AB) (n : Nat) : fb_ct (dfN A A) n = 0 := ct_0 n (fun _ _ => dfN_f.mpr (fun _ _ => rfl))
theorem dfN_aeq {A B : AB} {n : Nat} (h1 : B.1 = A.1) (h2 : NSm A.1 A.2.2.1 B.2.2.1) : fb_ct (dfN A B) n = 0 := ct_0 n (fun k _ => dfN_f.mpr (fun j hj => by
  unfold nv
  rw [h1]
  by_cases e : A.1.testBit k = true
  · rw [if_pos e, if_pos e, h2 k j e hj]
  · rw [if_neg e, if_neg e]))
theorem i32_5 {a b : Int32} : (5000 : Int32) + a = 5000 + b ↔ a = b := by grind
theorem dfN_dfA {A B : AB} {ns : Nat} (h1 : B.1 = A.1) (hn : ns ≤ 10) (hA : ∀ k, A.1.testBit k = true → k < ns) : fb_ct (dfN A B) ns = fb_ct (fun k => A.1.testBit k && dfA A B k) 10 := by
  rw [ct_ext (p := fun k => A.1.testBit k && dfA A B k) (n := ns) (fun k hk => by
    cases e : A.1.testBit k with
    | false => rfl
    | true => exact absurd (hA k e) (by omega)) hn]
  refine fb_ct_cong (fun k hk => ?_)
  cases e : A.1.testBit k with
  | false =>
    rw [Bool.false_and]
    refine dfN_f.mpr (fun j hj => ?_)
    unfold nv
    rw [h1, e, if_neg (by decide), if_neg (by decide)]
  | true =>
    rw [Bool.true_and, Bool.eq_iff_iff, ← Bool.not_eq_false, ← Bool.not_eq_false, dfN_f, dfA_iff]
    have hv : ∀ j, nv A k j = nv B k j ↔ A.2.2.1 k j = B.2.2.1 k j := fun j => by
      unfold nv
      rw [h1, e, if_pos rfl, if_pos rfl, i32_5]
    constructor
    · intro h q
      exact h (fun j hj => (hv j).mpr (q j hj))
    · intro h q
      exact h (fun j hj => (hv j).mp (q j hj))
