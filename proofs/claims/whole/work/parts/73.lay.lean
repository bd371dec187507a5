/-! a rule is laid -/
def rlS (T : HS) (nr na : Nat) (k a c : Int32) : HS := sI (sI (sI (sI T 42 nr k) 43 nr a) 44 nr c) 45 nr (nI na)
section
variable {S T R F : HS} {sp ns nr na ne nm V : Nat} {lt len fr to sj dr ab st lby se : Nat → Nat} {trn : Nat → Bool} {txt : Nat → Nat → Nat} {kd dd : Nat → Int32} {qq : Nat → Nat → Int32} {w a c : Nat} {k : Int32} {A B : AB}
theorem rlS_o {x : Nat} {a c : Int32} (h : x ≠ 42 ∧ x ≠ 43 ∧ x ≠ 44 ∧ x ≠ 45) : (rlS T nr na k a c).1 x = T.1 x := by
  obtain ⟨h1, h2, h3, h4⟩ := h
  unfold rlS
  rw [sI_o h4, sI_o h3, sI_o h2, sI_o h1]
theorem rlS_r {j : Nat} {a c : Int32} : (rlS T nr na k a c).1 42 j = (if j = nr then k else T.1 42 j) ∧ (rlS T nr na k a c).1 43 j = (if j = nr then a else T.1 43 j) ∧ (rlS T nr na k a c).1 44 j = (if j = nr then c else T.1 44 j) ∧ (rlS T nr na k a c).1 45 j = (if j = nr then nI na else T.1 45 j) := by
  unfold rlS
  by_cases e : j = nr
  · subst e
    refine ⟨?_, ?_, ?_, ?_⟩
    · rw [sI_o (by omega), sI_o (by omega), sI_o (by omega), sI_at, if_pos rfl]
    · rw [sI_o (by omega), sI_o (by omega), sI_at, if_pos rfl]
    · rw [sI_o (by omega), sI_at, if_pos rfl]
    · rw [sI_at, if_pos rfl]
  · refine ⟨?_, ?_, ?_, ?_⟩
    · rw [sI_o (by omega), sI_o (by omega), sI_o (by omega), sI_k e, if_neg e]
    · rw [sI_o (by omega), sI_o (by omega), sI_k e, sI_o (by omega), if_neg e]
    · rw [sI_o (by omega), sI_k e, sI_o (by omega), sI_o (by omega), if_neg e]
    · rw [sI_k e, sI_o (by omega), sI_o (by omega), sI_o (by omega), if_neg e]
/-- rows of rules behind those that count don't matter -/
theorem I0_ru (h : I0 S sp ns nr na ne nm lt len fr to sj dr ab st lby se trn txt kd dd qq) {n : Nat} {a c : Int32} : I0 (rlS S nr n k a c) sp ns nr na ne nm lt len fr to sj dr ab st lby se trn txt kd dd qq := by
  obtain ⟨h0, ⟨c1, c2, c3, c4, c5⟩, ⟨m1, m2, m3, m4⟩⟩ := h
  have f : ∀ x, x ≠ 42 → x ≠ 43 → x ≠ 44 → x ≠ 45 → (rlS S nr n k a c).1 x = S.1 x := fun x p q r s => rlS_o ⟨p, q, r, s⟩
  have f36 : (rlS S nr n k a c).1 36 = S.1 36 := f 36 (by omega) (by omega) (by omega) (by omega)
  obtain ⟨k1, k2, k3, k4, k5⟩ := m2
  refine ⟨h0, ⟨SC_fr (fun x p => f x (by omega) (by omega) (by omega) (by omega)) c1, OC_fr (fun x p q => f x (by omega) (by omega) (by omega) (by omega)) c2, BC_fr (fun x p q => f x (by omega) (by omega) (by omega) (by omega)) rfl rfl c3, BN_fr rfl c4, EC_fr (fun x p => f x (by omega) (by omega) (by omega) (by omega)) (by rw [f 35 (by omega) (by omega) (by omega) (by omega)]; exact c5.2.2.2.2) rfl c5⟩, ⟨SM_fr (by rw [f36]) (f 37 (by omega) (by omega) (by omega) (by omega)) m1, ⟨HM1_fr (fun x p q => f x (by omega) (by omega) (by omega) (by omega)) k1, ?_, fun j hj => ?_, fun a ha => TM_fr2 (fun x p q => f x (by omega) (by omega) (by omega) (by omega)) (k4 a ha), MT_fr2 (fun x p => f x (by omega) (by omega) (by omega) (by omega)) (by rw [f36]) k5⟩, BM_fr (f 51 (by omega) (by omega) (by omega) (by omega)) (fun x p q => f x (by omega) (by omega) (by omega) (by omega)) (fun j _ => by rw [f36]) m3, EM_fr (fun x p q => f x (by omega) (by omega) (by omega) (by omega)) (fun j _ => by rw [f36]) m4⟩⟩
  · obtain ⟨n1, n2, n3, n4, n5, n6, n7⟩ := k2
    refine ⟨by rw [f36]; exact n1, by rw [f36]; exact n2, n3, n4, n5, fun j hj => ?_, by rw [f 38 (by omega) (by omega) (by omega) (by omega)]; exact n7⟩
    obtain ⟨r1, r2, r3, -⟩ := rlS_r (T := S) (nr := nr) (na := n) (k := k) (a := a) (c := c) (j := j)
    rw [r1, r2, r3, if_neg (by omega), if_neg (by omega), if_neg (by omega)]
    exact n6 j hj
  · obtain ⟨-, -, -, r4⟩ := rlS_r (T := S) (nr := nr) (na := n) (k := k) (a := a) (c := c) (j := j)
    rw [r4, if_neg (by omega)]
    exact k3 j hj
theorem MC_ru (h : MC T nr nr ns kd fr to (lbL len)) (hnr : nr < 12) (ha : a < 10) (hc : c < 10) {n : Nat} : MC (rlS T nr n k (nI a) (nI c)) nr (nr + 1) ns (exF kd nr k) (exF fr nr a) (exF to nr c) (lbL len) := by
  obtain ⟨n1, n2, n3, n4, n5, n6, n7⟩ := h
  have f36 : (rlS T nr n k (nI a) (nI c)).1 36 = T.1 36 := rlS_o (by omega)
  refine ⟨by rw [f36]; exact n1, by rw [f36]; exact n2, by omega, by omega, n5, fun j hj => ?_, by rw [rlS_o (by omega)]; exact n7⟩
  obtain ⟨r1, r2, r3, -⟩ := rlS_r (T := T) (nr := nr) (na := n) (k := k) (a := nI a) (c := nI c) (j := j)
  rw [r1, r2, r3]
  by_cases e : j = nr
  · subst e
    rw [if_pos rfl, if_pos rfl, if_pos rfl, exF_at, exF_at, exF_at]
    exact ⟨rfl, rfl, rfl, ha, hc⟩
  · rw [if_neg e, if_neg e, if_neg e, exF_ne e, exF_ne e, exF_ne e]
    exact n6 j (by omega)
/-! the class's draft of a rule -/
theorem draft4 (h5 : S.1 5 0 = nI nr) (hnr : nr < 12) (a c : Int32) : f_X4_draft k a c S = some (sI (sI (sI S 6 nr k) 7 nr a) 8 nr c) := by
  have e1 : (sI S 6 nr k).1 5 0 = nI nr := by rw [sI_o (by omega)]; exact h5
  have e2 : (sI (sI S 6 nr k) 7 nr a).1 5 0 = nI nr := by rw [sI_o (by omega)]; exact e1
  unfold f_X4_draft
  rw [h5, put7 S 6 k (show nr < 12 from hnr) (by decide), bsm, e1, put7 _ 7 a (show nr < 12 from hnr) (by decide), bsm, e2, put7 _ 8 c (show nr < 12 from hnr) (by decide), bsm]
theorem RC_ru (h : RC S nr kd fr to) (hnr : nr < 12) (ha : a < 10) (hc : c < 10) : RC (sI (sI (sI S 6 nr k) 7 nr (nI a)) 8 nr (nI c)) (nr + 1) (exF kd nr k) (exF fr nr a) (exF to nr c) ∧ RC (sI (sI (sI S 6 nr k) 7 nr (nI a)) 8 nr (nI c)) nr kd fr to := by
  have r : ∀ j, (sI (sI (sI S 6 nr k) 7 nr (nI a)) 8 nr (nI c)).1 6 j = (if j = nr then k else S.1 6 j) ∧ (sI (sI (sI S 6 nr k) 7 nr (nI a)) 8 nr (nI c)).1 7 j = (if j = nr then nI a else S.1 7 j) ∧ (sI (sI (sI S 6 nr k) 7 nr (nI a)) 8 nr (nI c)).1 8 j = (if j = nr then nI c else S.1 8 j) := by
    intro j
    by_cases e : j = nr
    · subst e
      refine ⟨?_, ?_, ?_⟩
      · rw [sI_o (by omega), sI_o (by omega), sI_at, if_pos rfl]
      · rw [sI_o (by omega), sI_at, if_pos rfl]
      · rw [sI_at, if_pos rfl]
    · refine ⟨?_, ?_, ?_⟩
      · rw [sI_o (by omega), sI_o (by omega), sI_k e, if_neg e]
      · rw [sI_o (by omega), sI_k e, sI_o (by omega), if_neg e]
      · rw [sI_k e, sI_o (by omega), sI_o (by omega), if_neg e]
  obtain ⟨h1, h2⟩ := h
  refine ⟨⟨by omega, fun j hj => ?_⟩, ⟨by omega, fun j hj => ?_⟩⟩
  · obtain ⟨r1, r2, r3⟩ := r j
    rw [r1, r2, r3]
    by_cases e : j = nr
    · subst e
      rw [if_pos rfl, if_pos rfl, if_pos rfl, exF_at, exF_at, exF_at]
      exact ⟨rfl, rfl, rfl, ha, hc⟩
    · rw [if_neg e, if_neg e, if_neg e, exF_ne e, exF_ne e, exF_ne e]
      exact h2 j (by omega)
  · obtain ⟨r1, r2, r3⟩ := r j
    rw [r1, r2, r3, if_neg (by omega), if_neg (by omega), if_neg (by omega)]
    exact h2 j hj
/-! the model's way through a laying -/
theorem w42 {S : HS} {k : Nat} {v : Int32} : (sI S 42 k v).1 36 = S.1 36 := sI_o (by omega)
theorem w43 {S : HS} {k : Nat} {v : Int32} : (sI S 43 k v).1 36 = S.1 36 := sI_o (by omega)
theorem w44 {S : HS} {k : Nat} {v : Int32} : (sI S 44 k v).1 36 = S.1 36 := sI_o (by omega)
theorem w45 {S : HS} {k : Nat} {v : Int32} : (sI S 45 k v).1 36 = S.1 36 := sI_o (by omega)
theorem ly8_n {p1 p2 p3 p4 : Int32} (hsh : T.1 36 2 = nI ns) (hns : ns ≤ 10) (hn : (p1 < 0 ∨ ¬ p1 < 4) ∨ (p3 < 0 ∨ ¬ p3 < nI ns) ∨ (p4 < 0 ∨ ¬ p4 < nI ns)) : f_X8_lay p1 p2 p3 p4 T = some (sI T 36 36 1, 0) := by
  have hend : f_X8_lay_b29 p1 p2 p3 p4 T 0 = some (sI T 36 36 1, 0) := by
    unfold f_X8_lay_b29 f_X8_lay_b51 f_X8_lay_b52 f_X8_lay_b86 f_X8_lay_b87 f_X8_lay_b158 f_X8_lay_b187
    simp only [isIn8, bsm, if_true, can8, d10, zb]
    have hi : ∀ {α : Type} (b : Bool) (x : α), (if bI b = 0 then x else if p3 = p4 then x else x) = x := fun b x => by
      cases b
      · rfl
      · rw [ob]; split <;> rfl
    exact hi _ _
  unfold f_X8_lay f_X8_lay_b28
  rcases dr_or p1 with ⟨w, hw, rfl⟩ | ⟨-, hb⟩
  · rcases in_or p3 ns (by omega) with ⟨a, ha, rfl⟩ | h3
    · have h4 : p4 < 0 ∨ ¬ p4 < nI ns := by
        rcases hn with h | h | h
        · rcases h with h | h
          · exact absurd h (nI_pos (by omega))
          · exact absurd (show nI w < (4 : Int32) from lt_nI (n := 4) hw (by decide)) h
        · rcases h with h | h
          · exact absurd h (nI_pos (by omega))
          · exact absurd (lt_nI ha (by omega)) h
        · exact h
      simp only [isDr8, isDr_yes hw, bsm, ob, zb, isSh8 hsh, isN_yes ha (show ns < 2 ^ 31 by omega), isN_no h4 (show ns < 2 ^ 31 by omega), hend]
    · simp only [isDr8, isDr_yes hw, bsm, ob, zb, isSh8 hsh, isN_no h3 (show ns < 2 ^ 31 by omega), hend]
  · simp only [isDr8, hb, bsm, zb, hend]
theorem ly8_b (hsh : T.1 36 2 = nI ns) (hns : ns ≤ 10) (hw : w < 4) (ha : a < ns) (hc : c < ns) {p2 : Int32} : f_X8_lay (nI w) p2 (nI a) (nI c) T = f_X8_lay_b29 (nI w) p2 (nI a) (nI c) T 1 := by
  unfold f_X8_lay
  simp only [isDr8, isDr_yes hw, bsm, ob, isSh8 hsh, isN_yes ha (show ns < 2 ^ 31 by omega), isN_yes hc (show ns < 2 ^ 31 by omega)]
theorem ly8_g {p2 : Int32} (h : (!(decide (p2 < 0)) && !(decide ((6 : Int32) < p2))) = false ∨ nI a = nI c) : f_X8_lay_b29 (nI w) p2 (nI a) (nI c) T 1 = some (sI T 36 36 2, 0) := by
  have hend : f_X8_lay_b51 (nI w) p2 (nI a) (nI c) T 1 = some (sI T 36 36 2, 0) := by
    unfold f_X8_lay_b51 f_X8_lay_b52 f_X8_lay_b86 f_X8_lay_b87 f_X8_lay_b158 f_X8_lay_b187
    simp only [if_neg n1z, if_true, can8, bsm, d20, zb]
  unfold f_X8_lay_b29
  rw [isIn8, bsm, hend]
  rcases h with h | h
  · rw [h]; rfl
  · rw [if_pos h]
    split <;> rfl
theorem ly8_k {p2 : Int32} (h : (!(decide (p2 < 0)) && !(decide ((6 : Int32) < p2))) = true) (hne : ¬ nI a = nI c) : f_X8_lay_b29 (nI w) p2 (nI a) (nI c) T 1 = f_X8_lay_b52 (nI w) p2 (nI a) (nI c) T 1 1 := by
  unfold f_X8_lay_b29
  rw [isIn8, bsm, h, ob, if_neg hne]
theorem ly8_f {p2 : Int32} (hru : T.1 36 7 = nI nr) (hnr : nr ≤ 12) (h12 : T.1 36 12 = nI na) (hna : na ≤ 60) (h : nr = 12 ∨ na = 60) : f_X8_lay_b52 (nI w) p2 (nI a) (nI c) T 1 1 = some (sI T 36 36 3, 0) := by
  have hend : f_X8_lay_b86 (nI w) p2 (nI a) (nI c) T 1 1 = some (sI T 36 36 3, 0) := by
    unfold f_X8_lay_b86 f_X8_lay_b87 f_X8_lay_b158 f_X8_lay_b187
    simp only [if_neg n1z, if_true, can8, bsm, d30, zb]
  unfold f_X8_lay_b52
  rw [if_neg n1z, if_neg n1z, hru, h12, hend]
  by_cases e : nr = 12
  · rw [e, if_pos (by decide)]
  · rw [if_neg (by rw [show (12 : Int32) = nI 12 from rfl, nI_leI (by omega) (by omega)]; omega)]
    have : na = 60 := h.resolve_left e
    rw [this, if_pos (by decide)]
theorem ly8_t {p2 : Int32} (hru : T.1 36 7 = nI nr) (hnr : nr < 12) (h12 : T.1 36 12 = nI na) (hna : na < 60) {U : HS} {ok : Bool} (ht : f_X8_tries (nI na) (wrS (rlS T nr na p2 (nI a) (nI c)) na (nI w) 3 (nI nr) 0 0 0 0) = some (U, bI ok)) : f_X8_lay_b52 (nI w) p2 (nI a) (nI c) T 1 1 = if ok = true then (f_X8_makes (sI U 36 36 0)).bind (fun o196 => some ((sI o196.1 36 7 ((o196.1.1 36 7) + (1 : Int32))), (((sI o196.1 36 7 ((o196.1.1 36 7) + (1 : Int32))).1 36 7) - (1 : Int32)))) else some (sI U 36 36 3, 0) := by
  have hr12 : (rlS T nr na p2 (nI a) (nI c)).1 36 12 = nI na := by rw [rlS_o (by omega)]; exact h12
  have hcm : f_X8_canMake (wrS (rlS T nr na p2 (nI a) (nI c)) na (nI w) 3 (nI nr) 0 0 0 0) = some (U, bI ok) := cm8 (by rw [wrS_o (by omega)]; exact hr12) hna ht
  have hwr := writes8 hr12 hna (nI w) 3 (nI nr) 0 0 0 0
  have hru' : f_X8_writes (nI w) 3 (nI nr) 0 0 0 0 (sI (sI (sI (sI T 42 nr p2) 43 nr (nI a)) 44 nr (nI c)) 45 nr (nI na)) = some (wrS (rlS T nr na p2 (nI a) (nI c)) na (nI w) 3 (nI nr) 0 0 0 0) := hwr
  unfold f_X8_lay_b52 f_X8_lay_b87 f_X8_lay_b158 f_X8_lay_b187
  simp only [if_neg n1z, hru, h12, if_neg (le12n hnr), if_neg (le60n hna), w42, w43, w44, w45, if_pos (ib_nI hnr (show 12 < 2 ^ 31 by omega)), nI_cl (show nr < 2 ^ 31 by omega)]
  rw [hru', bsm, hcm, bsm]
  cases ok with
  | true =>
    simp only [ob, can8, bsm, d00, decide_true, if_true]
  | false =>
    simp only [zb, can8, bsm, d30]
    rfl
end
