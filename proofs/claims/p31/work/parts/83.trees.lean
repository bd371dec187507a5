/-! the trees -/
theorem fx_inv {V α : Type} {F : (V → Option α) → V → Option α} {R : Option α} (N : Nat) (I : Nat → V → Prop) (hs : ∀ i v rec, i < N → I i v → (∀ v', I (i + 1) v' → rec v' = R) → F rec v = R) (he : ∀ v rec, I N v → F rec v = R) {n : Nat} (hn : N < n) {v : V} (h0 : I 0 v) : fx F n v = R := by
  have key : ∀ m i v, N - i < m → i ≤ N → I i v → fx F m v = R := by
    intro m
    induction m with
    | zero => intro i v h; omega
    | succ m ih =>
      intro i v h1 h2 h3
      rw [fx_s]
      by_cases e : i = N
      · subst e; exact he v _ h3
      · exact hs i v _ (by omega) h3 (fun v' h' => ih (i + 1) v' (by omega) (by omega) h')
  exact key n 0 v (by omega) (by omega) h0
theorem bI_eq {a b : Bool} : bI a = bI b ↔ a = b := by cases a <;> cases b <;> decide
def bwk (ab : Nat → Nat) (t s : Nat) : Bool := decide (t = 0) || (wy ab s).testBit (t - 1)
theorem nI_i0 (x : Nat) : nI x + (0 : Int32) = nI x := i32_00
section
variable {S : HS} {sp ns nr na ne nm : Nat} {lt len fr to sj dr ab st lby se : Nat → Nat} {trn : Nat → Bool} {txt : Nat → Nat → Nat} {kd dd : Nat → Int32} {qq : Nat → Nat → Int32}
theorem trees_walk {rec105 : HS × Int32 × Int32 → Option (HS × Int32)} {rec125 : HS × Int32 × Int32 × Int32 × Int32 → Option (HS × Int32)} {d i : Nat} {x6 x7 : Int32} {c : Bool} {s0 : Nat} (h : CL S sp ns nr na ne nm lt len fr to sj dr ab st lby se trn txt kd dd qq) (hd : d < 4) (hs0 : s0 ≤ na) : f_L_areTrees_b190 rec105 rec125 S (nI d) x6 x7 (nI i) (bI c) (nI s0) = rec125 (S, nI d, x6, x7 + bI (c && bwk ab (st d) s0), nI (i + 1)) := by
  obtain ⟨hC, hL⟩ := h
  have hT := hC.1.2.2.2.1
  have hT' := hT
  obtain ⟨w1, w2, w3⟩ := hT'
  have hab : ∀ k, k < na → ab k ≤ k := fun k hk => (w2 k hk).2.1
  have hsd := (w3 d hd).1
  have hst : S.1 39 d = nI (st d) := hL.2.2.2.2.2.2.2 d hd
  have hend : ∀ s, s ≤ na → s = 0 ∨ s = st d → bwk ab (st d) s = bwk ab (st d) s0 → f_L_areTrees_b221 rec105 rec125 S (nI d) x6 x7 (nI i) (bI c) (nI s) = rec125 (S, nI d, x6, x7 + bI (c && bwk ab (st d) s0), nI (i + 1)) := by
    intro s hs he hb
    unfold f_L_areTrees_b221 f_L_areTrees_b241 f_L_areTrees_b242
    rw [ifb, if_pos (ib_nI (show d < 4 by omega) (by omega)), nI_cl (by omega), hst, nI_1]
    have hv : bwk ab (st d) s = decide (s = st d) := by
      unfold bwk
      rcases he with e | e
      · subst e
        rw [wy_0, Nat.zero_testBit, Bool.or_false]
        exact decide_eq_decide.mpr eq_comm
      · subst e
        rw [decide_eq_true rfl]
        cases hz : st d with
        | zero => rfl
        | succ t => rw [wy_s hab (by omega), Nat.testBit_or, show t + 1 - 1 = t from rfl, Nat.testBit_two_pow_self, Bool.true_or, Bool.or_true]
    rw [hv] at hb
    cases c with
    | false => rfl
    | true =>
      rw [if_pos rfl, Bool.true_and, ← hb]
      by_cases e : s = st d
      · rw [if_pos (by rw [e]), decide_eq_true e]
        rfl
      · rw [if_neg (fun q => e ((nI_eq (by omega) (by omega)).mp q)), decide_eq_false e]
        rfl
  unfold f_L_areTrees_b190
  refine fx_inv na (fun i' v => ∃ s, v = (S, nI d, x6, x7, nI i, bI c, nI s) ∧ s + i' ≤ na ∧ bwk ab (st d) s = bwk ab (st d) s0) ?_ ?_ (FU_gt (by omega)) ⟨s0, rfl, by omega, rfl⟩
  · rintro i' v rec hi ⟨s, rfl, hle, hb⟩ hrec
    unfold F_L_areTrees_b190
    dsimp only
    rw [if_pos (ib_nI (show d < 4 by omega) (by omega)), nI_cl (by omega), hst]
    cases s with
    | zero =>
      rw [if_pos (by decide)]
      exact hend 0 (by omega) (Or.inl rfl) hb
    | succ s =>
      rw [if_neg (by rw [lb_le (by omega)]; omega)]
      by_cases e : s + 1 = st d
      · rw [if_pos (by rw [e])]
        exact hend _ (by omega) (Or.inr e) hb
      · have hs1 : nI (s + 1) - (1 : Int32) = nI s := by rw [show (1 : Int32) = nI 1 from rfl, pk_sub (by omega)]; rfl
        have := hab s (by omega)
        rw [if_neg (fun q => e ((nI_eq (by omega) (by omega)).mp q)), hs1, if_pos (ib_nI (show s < 60 by omega) (by omega)), nI_cl (by omega), hL.1 s (by omega), pt_ab hT (by omega), bsm]
        refine hrec _ ⟨ab s, rfl, by omega, ?_⟩
        rw [← hb]
        unfold bwk
        rw [wy_s hab (by omega), Nat.testBit_or, Nat.testBit_two_pow]
        cases hz : st d with
        | zero => rfl
        | succ t => rw [decide_eq_false (show ¬ s = t + 1 - 1 by omega), Bool.false_or]
  · rintro v rec ⟨s, rfl, hle, hb⟩
    have : s = 0 := by omega
    subst this
    unfold F_L_areTrees_b190
    dsimp only
    rw [if_pos (by decide)]
    exact hend 0 (by omega) (Or.inl rfl) hb
theorem fbr_0 {d N : Nat} (hN : N < 1000) : ∀ n, n ≤ N → fbr dr ab st d (nI (fb_ct (brn dr ab st d) N)) n = 0
  | 0, _ => rfl
  | n + 1, h => by
    rw [fbr, if_neg, fbr_0 hN n (by omega)]
    rintro ⟨q, e⟩
    have a1 := fb_ct_le (brn dr ab st d) N
    have a2 := fb_ct_le (brn dr ab st d) n
    have a3 := fb_ct_mono (brn dr ab st d) h
    rw [fb_ct_succ, q, if_pos rfl] at a3
    have := (nI_eq (by omega) (by omega)).mp e
    omega
theorem bwk_blw {d k : Nat} : (decide (dr k = d) && bwk ab (st d) (ab k)) = blw dr ab st d k := rfl
theorem trees_in {rec105 : HS × Int32 × Int32 → Option (HS × Int32)} {d : Nat} (h : CL S sp ns nr na ne nm lt len fr to sj dr ab st lby se trn txt kd dd qq) (hd : d < 4) : f_L_areTrees_b125 rec105 S (nI d) 0 0 0 = rec105 (S, 1, nI (d + 1)) := by
  have h0 := h
  obtain ⟨hC, hL⟩ := h
  have hT := hC.1.2.2.2.1
  have hT' := hT
  obtain ⟨w1, w2, w3⟩ := hT'
  have hsd := (w3 d hd).1
  have hst : S.1 39 d = nI (st d) := hL.2.2.2.2.2.2.2 d hd
  unfold f_L_areTrees_b125
  refine fx_run na (fun i => (S, nI d, nI (fb_ct (brn dr ab st d) i), nI (fb_ct (blw dr ab st d) i), nI i)) ?_ ?_ (FU_gt (by omega)) rfl
  · intro i rec hi
    obtain ⟨a1, a2, a3⟩ := w2 i hi
    unfold F_L_areTrees_b125
    dsimp only
    rw [if_pos ib05, cl0, hL.2.2.1, if_neg (nlt_le hi (by omega)), if_pos (ib_nI (show i < 60 by omega) (by omega)), nI_cl (by omega), hL.1 i hi, pt_dr hT hi, bsm]
    have hmid : ∀ c : Bool, c = decide (dr i = d) → f_L_areTrees_b152 rec105 rec S (nI d) (nI (fb_ct (brn dr ab st d) i)) (nI (fb_ct (blw dr ab st d) i)) (nI i) (bI c) = rec (S, nI d, nI (fb_ct (brn dr ab st d) (i + 1)), nI (fb_ct (blw dr ab st d) (i + 1)), nI (i + 1)) := by
      rintro c rfl
      unfold f_L_areTrees_b152
      rw [if_pos (ib_nI (show i < 60 by omega) (by omega)), nI_cl (by omega), hL.1 i hi, pt_ab hT hi, bsm, ifb, if_pos (ib_nI (show d < 4 by omega) (by omega)), nI_cl (by omega), hst]
      unfold f_L_areTrees_b186 f_L_areTrees_b187
      have e1 : ∀ x : Int32, x = nI (fb_ct (brn dr ab st d) (i + 1)) → f_L_areTrees_b190 rec105 rec S (nI d) x (nI (fb_ct (blw dr ab st d) i)) (nI i) (bI (decide (dr i = d))) (nI (ab i)) = rec (S, nI d, nI (fb_ct (brn dr ab st d) (i + 1)), nI (fb_ct (blw dr ab st d) (i + 1)), nI (i + 1)) := by
        rintro x rfl
        rw [trees_walk h0 hd (by omega), bwk_blw, fb_ct_succ (p := blw dr ab st d)]
        cases blw dr ab st d i
        · rw [show bI false = (0 : Int32) from rfl, i32_00]; rfl
        · rw [show bI true = (1 : Int32) from rfl, nI_1]; rfl
      by_cases e : dr i = d
      · rw [if_pos (decide_eq_true e)]
        by_cases e2 : ab i = st d
        · rw [if_pos (by rw [e2])]
          refine e1 _ ?_
          rw [nI_1, fb_ct_succ, if_pos (show brn dr ab st d i = true by unfold brn; rw [decide_eq_true e, decide_eq_true e2]; rfl)]
        · rw [if_neg (fun q => e2 ((nI_eq (by omega) (by omega)).mp q))]
          refine e1 _ ?_
          rw [i32_00, fb_ct_succ, if_neg (show ¬ brn dr ab st d i = true by unfold brn; rw [decide_eq_true e, decide_eq_false e2]; decide)]
          rfl
      · rw [if_neg (by rw [decide_eq_false e]; decide)]
        refine e1 _ ?_
        rw [i32_00, fb_ct_succ, if_neg (show ¬ brn dr ab st d i = true by unfold brn; rw [decide_eq_false e]; exact Bool.false_ne_true)]
        rfl
    by_cases e : dr i = d
    · rw [if_pos (by rw [e])]
      exact hmid true (decide_eq_true e).symm
    · rw [if_neg (fun q => e ((nI_eq (by omega) (by omega)).mp q))]
      exact hmid false (decide_eq_false e).symm
  · intro rec
    unfold F_L_areTrees_b125
    dsimp only
    have hc : cI (st d) = nI (st d) - (1 : Int32) := by
      cases st d with
      | zero => decide
      | succ t => rw [show (1 : Int32) = nI 1 from rfl, pk_sub (by omega)]; rfl
    have hfb : fbr dr ab st d (nI (fb_ct (brn dr ab st d) na)) na = 0 := fbr_0 (by omega) na (Nat.le_refl _)
    rw [if_pos ib05, cl0, hL.2.2.1, if_pos (nle_nI _), k_stands hC hd, bsm]
    dsimp only
    rw [if_pos rfl, if_pos (ib_nI (show d < 4 by omega) (by omega)), nI_cl (by omega), hst, if_pos hc, k_branches hC hd, bsm]
    dsimp only
    rw [if_pos rfl, if_pos rfl, k_below hC hd, bsm]
    dsimp only
    rw [if_pos rfl, if_pos rfl, asks7, k_on_n hC hd hfb, awr_1, bsm]
    dsimp only
    rw [if_pos rfl]
    unfold f_L_areTrees_b312
    rw [nI_1]
theorem k_trees (h : CL S sp ns nr na ne nm lt len fr to sj dr ab st lby se trn txt kd dd qq) : f_L_areTrees S = some (S, 1) := by
  have h0 := h
  obtain ⟨hC, hL⟩ := h
  have hT := hC.1.2.2.2.1
  have hT' := hT
  obtain ⟨w1, w2, w3⟩ := hT'
  have hVs := (rep_ok (set := cset st ab) hC.1.2.1 hC.1.2.2.1 na (Nat.le_refl _)).2.2.2
  have hVa := (rep_more (set := cset st ab) hC.1.2.1 hC.1.2.2.1 na (Nat.le_refl _)).2.2
  unfold f_L_areTrees f_L_areTrees_b15 f_L_areTrees_b20
  rw [k_acts hC, bsm, if_pos ib05, cl0, hL.2.2.1, if_pos rfl]
  refine fx_run na (fun i => (S, 1, nI i)) ?_ ?_ (FU_gt (by omega)) rfl
  · intro i rec hi
    unfold F_L_areTrees_b20
    dsimp only
    have h67 : f_L_areTrees_b67 rec S (nI i) = rec (S, 1, nI (i + 1)) := by
      unfold f_L_areTrees_b67 f_L_areTrees_b89 f_L_areTrees_b94
      rw [if_pos (ib_nI (show i < 60 by omega) (by omega)), nI_cl (by omega), hL.1 i hi, pt_ad hT hi, bsm, ifb, k_isVoid hC hi, bsm, nI_1]
      dsimp only
      by_cases e : dd i = 0
      · have hv : (rep kd fr to (lbL len) dd sj qq (cset st ab) na).2.testBit i = false := by
          cases hv : (rep kd fr to (lbL len) dd sj qq (cset st ab) na).2.testBit i with
          | false => rfl
          | true => exact absurd e (hVa i hv)
        rw [if_pos (decide_eq_true e), if_pos rfl, hv, if_pos (show bI false = 0 from rfl)]
      · rw [if_neg (by rw [decide_eq_false e]; decide)]
    rw [if_pos ib05, cl0, hL.2.2.1, if_neg (nlt_le hi (by omega)), if_neg (by decide), k_isOn hT hL hi, bsm, k_counts hC hi, bsm]
    dsimp only
    rw [if_pos rfl, if_pos rfl, ifb, k_isVoid hC hi, bsm]
    dsimp only
    rw [if_pos rfl, ifb, h67]
    cases hc : (cset st ab).testBit i with
    | true => rw [if_pos rfl]
    | false =>
      have hv : (rep kd fr to (lbL len) dd sj qq (cset st ab) na).2.testBit i = false := by
        cases hv : (rep kd fr to (lbL len) dd sj qq (cset st ab) na).2.testBit i with
        | false => rfl
        | true => exact absurd (hVs i hv) (by rw [hc]; decide)
      rw [if_neg (by decide), hv, if_neg (by decide)]
  · intro rec
    unfold F_L_areTrees_b20 f_L_areTrees_b102 f_L_areTrees_b105
    dsimp only
    rw [if_pos ib05, cl0, hL.2.2.1, if_pos (nle_nI _)]
    refine fx_run 4 (fun d => (S, 1, nI d)) ?_ ?_ (by omega) rfl
    · intro d rec hd
      unfold F_L_areTrees_b105
      dsimp only
      rw [if_neg (le4n hd), if_neg (by decide)]
      exact trees_in h0 hd
    · intro rec
      unfold F_L_areTrees_b105 f_L_areTrees_b320
      dsimp only
      rw [if_pos (by decide), nz_1, if_pos rfl]
end
