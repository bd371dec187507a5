/-! the board: numbers, and what rules hold -/
theorem CL_q {S S' : HS} {sp ns nr na ne nm : Nat} {lt len fr to sj dr ab st lby se : Nat → Nat} {trn : Nat → Bool} {txt : Nat → Nat → Nat} {kd dd : Nat → Int32} {qq : Nat → Nat → Int32} (h : CL S sp ns nr na ne nm lt len fr to sj dr ab st lby se trn txt kd dd qq) (q : QF S S') : CL S' sp ns nr na ne nm lt len fr to sj dr ab st lby se trn txt kd dd qq := ⟨CI_q h.1 q, LI_fr (fun x _ _ => q.1 x (by omega) (by omega) (by omega)) h.2⟩
theorem ct_single {p : Nat → Bool} {a n : Nat} (ha : a < n) (hp : p a = true) : 1 ≤ fb_ct p n := by
  have := fb_ct_mono p (show a + 1 ≤ n by omega)
  rw [fb_ct_succ, hp, if_pos rfl] at this
  omega
theorem ct_some {p : Nat → Bool} : ∀ n, 1 ≤ fb_ct p n → ∃ k, k < n ∧ p k = true
  | 0, h => absurd h (by show ¬ 1 ≤ 0; omega)
  | n + 1, h => by
    cases e : p n with
    | true => exact ⟨n, by omega, e⟩
    | false =>
      rw [fb_ct_succ, e, if_neg (by decide)] at h
      obtain ⟨k, h1, h2⟩ := ct_some n h
      exact ⟨k, by omega, h2⟩
section
variable {S : HS} {sp ns nr na ne nm : Nat} {lt len fr to sj dr ab st lby se : Nat → Nat} {trn : Nat → Bool} {txt : Nat → Nat → Nat} {kd dd : Nat → Int32} {qq : Nat → Nat → Int32}
theorem lby_of (hG : GW ns nr na len kd fr to dd sj qq dr ab st lby) {a : Nat} (ha : a < na) (hd : dd a = 3) : lby (sj a) = a ∧ sj a < nr := by
  obtain ⟨gW, gA, gT, gK, gL, gB⟩ := hG
  have h1 := gB (fun x => decide (x = a))
  have h2 : 1 ≤ fb_ct (fun a' => decide (a' = a) && decide (dd a' = 3)) na := ct_single ha (by rw [decide_eq_true rfl, decide_eq_true hd]; rfl)
  rw [h1] at h2
  obtain ⟨k, hk, hk2⟩ := ct_some nr h2
  have e := of_decide_eq_true hk2
  have := (gL k hk).2.2
  rw [e] at this
  rw [this]
  exact ⟨e, hk⟩
/-- in force: its act counts, and is not void -/
theorem lby_on (h : CI S sp ns nr na ne nm lt len fr to sj dr ab st lby se trn txt kd dd qq) {j : Nat} (hf : (rep kd fr to (lbL len) dd sj qq (cset st ab) na).1.2.1.testBit j = true) : (cset st ab).testBit (lby j) = true ∧ (rep kd fr to (lbL len) dd sj qq (cset st ab) na).2.testBit (lby j) = false := by
  obtain ⟨-, h2, -⟩ := rep_more (set := cset st ab) h.1.2.1 h.1.2.2.1 na (Nat.le_refl _)
  obtain ⟨a, h3, h4, h5, h6, h7⟩ := h2 j hf
  obtain ⟨e, -⟩ := lby_of h.1.2 h3 h4
  rw [h5] at e
  rw [e]
  exact ⟨h6, h7⟩
theorem brd_rules (h : CL S sp ns nr na ne nm lt len fr to sj dr ab st lby se trn txt kd dd qq) : f_L_isBoard_b388 S 0 1 = some (S, 1) := by
  obtain ⟨hC, hL⟩ := h
  have hR := hC.1.2.1
  have hAI := (rep_ok (set := cset st ab) hR hC.1.2.2.1 na (Nat.le_refl _)).1
  have hK := hC.1.2.2.2.2.1
  have hlb := hC.1.2.2.2.2.2.1
  have hna := hC.1.2.2.2.1.1
  have hnr := hR.1
  have hns := hR.2.1
  unfold f_L_isBoard_b388 f_L_isBoard_b391
  refine fx_run nr (fun i => (S, nI (fb_ct (fun k => (rep kd fr to (lbL len) dd sj qq (cset st ab) na).2.testBit (lby k)) i), 1, nI i)) ?_ ?_ (by omega) rfl
  · intro i rec hi
    obtain ⟨f1, f2⟩ := hR.2.2 i hi
    obtain ⟨l1, l2, l3⟩ := hlb i hi
    obtain ⟨p1, p2, p3, p4⟩ := pr_all (S := S) (hK i hi).1 (show fr i < 10 by omega) (show to i < 10 by omega) (show lby i < 60 by omega)
    have h487 : ∀ (c x9 t0 t1 : Int32), t0 + t1 = nI (fb_ct (fun k => (rep kd fr to (lbL len) dd sj qq (cset st ab) na).2.testBit (lby k)) (i + 1)) → (((rep kd fr to (lbL len) dd sj qq (cset st ab) na).1.2.1.testBit i = true ∧ c = 1 ∧ x9 = 1) ∨ ((rep kd fr to (lbL len) dd sj qq (cset st ab) na).1.2.1.testBit i = false ∧ c = 1 ∧ kd i ≠ 6 ∧ (x9 = 0 ∨ x9 = 1)) ∨ ((rep kd fr to (lbL len) dd sj qq (cset st ab) na).1.2.1.testBit i = false ∧ x9 = -5004 ∧ (c = 0 ∨ c = 1 ∧ kd i = 6))) → f_L_isBoard_b487 rec S (nI i) (nI (lby i)) c x9 t0 t1 = rec (S, nI (fb_ct (fun k => (rep kd fr to (lbL len) dd sj qq (cset st ab) na).2.testBit (lby k)) (i + 1)), 1, nI (i + 1)) := by
      intro c x9 t0 t1 ht hc
      unfold f_L_isBoard_b487 f_L_isBoard_b574 f_L_isBoard_b566 f_L_isBoard_b587
      rw [k_force hC hi, bsm]
      dsimp only
      rw [if_pos rfl, if_pos (ib_nI (show i < 12 by omega) (by omega)), nI_cl (by omega), hL.2.1 i hi, p1, bsm, ht, nI_1]
      rcases hc with ⟨hf, rfl, rfl⟩ | ⟨hf, rfl, h6, h9⟩ | ⟨hf, rfl, rfl | ⟨rfl, h6⟩⟩
      · obtain ⟨o1, o2⟩ := lby_on hC hf
        rw [hf, if_neg (show ¬ bI true = 0 by decide), if_neg (by decide), if_pos rfl, k_counts hC l1, o1, bsm]
        dsimp only
        rw [if_pos rfl, if_neg (show ¬ bI true = 0 by decide), k_isVoid hC l1, o2, bsm]
        dsimp only
        rw [if_pos rfl, if_pos (show bI false = 0 from rfl)]
      · rw [hf, if_pos (show bI false = 0 from rfl), if_neg (by decide), if_neg h6]
        rcases h9 with rfl | rfl
        · rw [if_pos rfl]
        · rw [if_neg (by decide), if_pos rfl]
      · rw [hf, if_pos (show bI false = 0 from rfl), if_pos rfl, if_pos rfl]
      · rw [hf, if_pos (show bI false = 0 from rfl), if_neg (by decide), if_pos h6, if_pos rfl]
    have h455 : ∀ (c : Int32) (e : Nat) (x9 : Int32), f_L_asks 10 (nI i) 0 0 0 0 S = some (S, (e, x9)) → (((rep kd fr to (lbL len) dd sj qq (cset st ab) na).1.2.1.testBit i = true ∧ c = 1 ∧ x9 = 1) ∨ ((rep kd fr to (lbL len) dd sj qq (cset st ab) na).1.2.1.testBit i = false ∧ c = 1 ∧ kd i ≠ 6 ∧ (x9 = 0 ∨ x9 = 1)) ∨ ((rep kd fr to (lbL len) dd sj qq (cset st ab) na).1.2.1.testBit i = false ∧ x9 = -5004 ∧ (c = 0 ∨ c = 1 ∧ kd i = 6))) → f_L_isBoard_b455 rec S (nI (fb_ct (fun k => (rep kd fr to (lbL len) dd sj qq (cset st ab) na).2.testBit (lby k)) i)) (nI i) (nI (lby i)) c = rec (S, nI (fb_ct (fun k => (rep kd fr to (lbL len) dd sj qq (cset st ab) na).2.testBit (lby k)) (i + 1)), 1, nI (i + 1)) := by
      intro c e x9 ha hc
      unfold f_L_isBoard_b455
      rw [ha, bsm, k_isVoid hC l1, bsm]
      dsimp only
      rw [if_pos rfl, ifb]
      cases hv : (rep kd fr to (lbL len) dd sj qq (cset st ab) na).2.testBit (lby i) with
      | false => rw [if_neg (by decide), h487 c x9 _ _ (by rw [fb_ct_succ, hv, if_neg (by decide), i32_00]; rfl) hc]
      | true => rw [if_pos rfl, h487 c x9 _ _ (by rw [fb_ct_succ, hv, if_pos rfl, nI_1]) hc]
    have hno : (rep kd fr to (lbL len) dd sj qq (cset st ab) na).1.1.testBit (fr i) = false ∨ (rep kd fr to (lbL len) dd sj qq (cset st ab) na).1.1.testBit (to i) = false → (rep kd fr to (lbL len) dd sj qq (cset st ab) na).1.2.1.testBit i = false := by
      intro q
      cases hf : (rep kd fr to (lbL len) dd sj qq (cset st ab) na).1.2.1.testBit i with
      | false => rfl
      | true =>
        obtain ⟨a1, a2⟩ := hAI.2.2.1 i hf
        rcases q with q | q
        · rw [a1] at q; exact absurd q (by decide)
        · rw [a2] at q; exact absurd q (by decide)
    have hn : (rep kd fr to (lbL len) dd sj qq (cset st ab) na).1.1.testBit (fr i) = false ∨ (rep kd fr to (lbL len) dd sj qq (cset st ab) na).1.1.testBit (to i) = false → f_L_isBoard_b455 rec S (nI (fb_ct (fun k => (rep kd fr to (lbL len) dd sj qq (cset st ab) na).2.testBit (lby k)) i)) (nI i) (nI (lby i)) 0 = rec (S, nI (fb_ct (fun k => (rep kd fr to (lbL len) dd sj qq (cset st ab) na).2.testBit (lby k)) (i + 1)), 1, nI (i + 1)) := by
      intro q
      have hf := hno q
      refine h455 0 4 (-5004) (asks10_n _ _ _ _ _ _ (k_holds_n hC hi hf ?_)) (Or.inr (Or.inr ⟨hf, rfl, Or.inl rfl⟩))
      rcases q with q | q
      · exact Or.inl q
      · exact Or.inr (Or.inl q)
    unfold F_L_isBoard_b391 f_L_isBoard_b454
    dsimp only
    rw [if_pos ib25, cl2, hL.2.2.2.2.1, if_neg (nlt_le hi (by omega)), if_neg (by decide), if_pos (ib_nI (show i < 12 by omega) (by omega)), nI_cl (by omega), hL.2.1 i hi, p4, bsm, if_pos (ib_nI (show i < 12 by omega) (by omega)), p2, bsm, k_isThere hC f1, bsm]
    dsimp only
    rw [if_pos rfl, ifb, if_pos (ib_nI (show i < 12 by omega) (by omega)), hL.2.1 i hi, p3, bsm, k_isThere hC f2, bsm]
    dsimp only
    rw [if_pos rfl, ifb]
    cases ha : (rep kd fr to (lbL len) dd sj qq (cset st ab) na).1.1.testBit (fr i) with
    | false => rw [if_neg (by decide), hn (Or.inl ha)]
    | true =>
      rw [if_pos rfl]
      cases hb : (rep kd fr to (lbL len) dd sj qq (cset st ab) na).1.1.testBit (to i) with
      | false => rw [if_neg (by decide), hn (Or.inr hb)]
      | true =>
        rw [if_pos rfl]
        cases hf : (rep kd fr to (lbL len) dd sj qq (cset st ab) na).1.2.1.testBit i with
        | true => exact h455 1 0 1 (asks10_y _ _ _ _ _ _ (k_holds_f hC hi hf)) (Or.inl ⟨hf, rfl, rfl⟩)
        | false =>
          by_cases h6 : kd i = 6
          · exact h455 1 4 (-5004) (asks10_n _ _ _ _ _ _ (k_holds_n hC hi hf (Or.inr (Or.inr h6)))) (Or.inr (Or.inr ⟨hf, rfl, Or.inr ⟨rfl, h6⟩⟩))
          · obtain ⟨v, hv⟩ := k_holds_y hC hi ha hb h6
            refine h455 1 0 (bI v) (asks10_y _ _ _ _ _ _ hv) (Or.inr (Or.inl ⟨hf, rfl, h6, ?_⟩))
            cases v
            · exact Or.inl rfl
            · exact Or.inr rfl
  · intro rec
    unfold F_L_isBoard_b391 f_L_isBoard_b595 f_L_isBoard_b614
    dsimp only
    rw [if_pos ib25, cl2, hL.2.2.2.2.1, if_pos (nle_nI _), if_neg (by decide), k_broken hC, bsm, if_pos rfl, nz_1, if_pos rfl]
theorem brd_num {rec9 : HS × Int32 × Int32 × Int32 → Option (HS × Int32)} {k : Nat} {P : HS × Int32 → Prop} (h : CL S sp ns nr na ne nm lt len fr to sj dr ab st lby se trn txt kd dd qq) (hk : k < ns) (h9 : ∀ S' : HS, CL S' sp ns nr na ne nm lt len fr to sj dr ab st lby se trn txt kd dd qq → Ok (rec9 (S', 0, 1, nI (k + 1))) P) : Ok (f_L_isBoard_b33 rec9 S 0 1 (nI k) (bI ((rep kd fr to (lbL len) dd sj qq (cset st ab) na).1.1.testBit k)) 0) P := by
  have hns := h.1.1.2.1.2.1
  have hAI := (rep_ok (set := cset st ab) h.1.1.2.1 h.1.1.2.2.1 na (Nat.le_refl _)).1
  have hrg := hAI.2.2.2.1
  have h143 : ∀ S' : HS, CL S' sp ns nr na ne nm lt len fr to sj dr ab st lby se trn txt kd dd qq → Ok (f_L_isBoard_b143 rec9 S' 0 1 (nI k) (bI ((rep kd fr to (lbL len) dd sj qq (cset st ab) na).1.1.testBit k))) P := by
    intro S' hS
    obtain ⟨r, h1, h2⟩ := h9 S' hS
    refine ⟨r, ?_, h2⟩
    rw [← h1]
    unfold f_L_isBoard_b143 f_L_isBoard_b146
    refine fx_run 2 (fun w => (S', 0, 1, nI k, bI ((rep kd fr to (lbL len) dd sj qq (cset st ab) na).1.1.testBit k), nI w)) ?_ ?_ (by omega) rfl
    · intro w rec hw
      unfold F_L_isBoard_b146
      dsimp only
      rw [if_neg (le2n hw), if_neg (by decide)]
      exact brd_lnk hS hk hw
    · intro rec
      unfold F_L_isBoard_b146 f_L_isBoard_b382
      dsimp only
      rw [if_pos (by decide), nI_1]
  unfold f_L_isBoard_b33
  refine ok_fx 4 (fun w v => ∃ S' : HS, CL S' sp ns nr na ne nm lt len fr to sj dr ab st lby se trn txt kd dd qq ∧ v = (S', 0, 1, nI k, bI ((rep kd fr to (lbL len) dd sj qq (cset st ab) na).1.1.testBit k), nI w)) ?_ ?_ (by omega) ⟨S, h, rfl⟩
  · rintro w v rec hw ⟨S', hS, rfl⟩ hrec
    unfold F_L_isBoard_b33 f_L_isBoard_b114 f_L_isBoard_b118 f_L_isBoard_b135
    dsimp only
    rw [if_neg (le4n hw), if_neg (by decide), asks9, nI_1]
    cases ht : (rep kd fr to (lbL len) dd sj qq (cset st ab) na).1.1.testBit k with
    | false =>
      rw [k_number_n hS.1 hk hw ht, awr_4, bsm, if_pos (show bI false = 0 from rfl), if_pos rfl]
      exact hrec _ ⟨S', hS, by rw [ht]⟩
    | true =>
      obtain ⟨⟨S2, e2, v2⟩, hr, hv, hq⟩ := k_anew hS.1 hk hw ht
      dsimp only at hv hq
      obtain ⟨rfl, rfl⟩ := Prod.mk.inj hv
      have hS2 := CL_q hS hq
      have hgo := hrec (S2, 0, 1, nI k, bI true, nI (w + 1)) ⟨S2, hS2, by rw [ht]⟩
      have hb := hrg w hw k ht
      unfold rngB at hb
      rw [k_number_y hS.1 hk hw ht, awr_0, bsm, if_neg (show ¬ bI true = 0 by decide), hr, bsm]
      dsimp only
      rw [if_pos rfl, if_pos rfl]
      by_cases h2 : 2 ≤ w
      · rw [if_pos h2, Bool.and_eq_true, Bool.not_eq_true', Bool.not_eq_true', decide_eq_false_iff_not, decide_eq_false_iff_not] at hb
        rw [if_pos (by rw [show (2 : Int32) = nI 2 from rfl, nI_leI (by omega) (by omega)]; exact h2), if_neg (fun q => hb.1 (by clear hr hgo hrec; grind)), if_neg (fun q => hb.2 (by clear hr hgo hrec; grind))]
        exact hgo
      · rw [if_neg h2, Bool.and_eq_true, Bool.not_eq_true', Bool.not_eq_true', decide_eq_false_iff_not, decide_eq_false_iff_not] at hb
        rw [if_neg (le2n (by omega)), if_neg hb.1, if_neg hb.2]
        exact hgo
  · rintro v rec ⟨S', hS, rfl⟩
    unfold F_L_isBoard_b33
    dsimp only
    rw [if_pos (by decide)]
    exact h143 S' hS
theorem k_board (h : CL S sp ns nr na ne nm lt len fr to sj dr ab st lby se trn txt kd dd qq) : Ok (f_L_isBoard S) (fun o => o.2 = 1 ∧ CL o.1 sp ns nr na ne nm lt len fr to sj dr ab st lby se trn txt kd dd qq) := by
  have hns := h.1.1.2.1.2.1
  unfold f_L_isBoard f_L_isBoard_b9
  refine ok_fx ns (fun k v => ∃ S' : HS, CL S' sp ns nr na ne nm lt len fr to sj dr ab st lby se trn txt kd dd qq ∧ v = (S', 0, 1, nI k)) ?_ ?_ (by omega) ⟨S, h, rfl⟩
  · rintro k v rec hk ⟨S', hS, rfl⟩ hrec
    unfold F_L_isBoard_b9
    dsimp only
    rw [if_pos ib15, cl1, hS.2.2.2.2.1, if_neg (nlt_le hk (by omega)), if_neg (by decide), k_isThere hS.1 hk, bsm]
    dsimp only
    rw [if_pos rfl]
    exact brd_num hS hk (fun S2 h2 => hrec _ ⟨S2, h2, rfl⟩)
  · rintro v rec ⟨S', hS, rfl⟩
    unfold F_L_isBoard_b9
    dsimp only
    rw [if_pos ib15, cl1, hS.2.2.2.2.1, if_pos (nle_nI _), brd_rules hS]
    exact ⟨_, rfl, rfl, hS⟩
end
