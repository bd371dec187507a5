/-! the model tries an act -/
def MB (S : HS) (kd : Nat → Int32) (A : AB) : Prop := S.1 36 20 = nI A.1 ∧ S.1 36 22 = nI A.2.1 ∧ rpN A.1 A.2.2.1 (S.1 53) ∧ ∀ j, A.2.1.testBit j = true → kd j = 6 → S.1 54 j = A.2.2.2 j 0 ∧ S.1 55 j = A.2.2.2 j 1
def TM (S : HS) (a : Nat) (d : Int32) (s : Nat) (q : Nat → Int32) : Prop := S.1 48 a = d ∧ S.1 49 a = nI s ∧ (d = 0 → ∀ w, w < 4 → S.1 50 (4 * a + w) = q w) ∧ (d = 1 → S.1 50 (4 * a) = q 0 ∧ S.1 50 (4 * a + 1) = q 1) ∧ (d = 2 → S.1 50 (4 * a) = q 2 ∧ S.1 50 (4 * a + 1) = q 3)
def rpM (kd : Nat → Int32) (fo : Nat) (T : Nat → Nat → Int32) (tx ty : Nat → Int32) : Prop := ∀ j, fo.testBit j = true → kd j = 6 → tx j = T j 0 ∧ ty j = T j 1
/-- what moves and sizes leave alone -/
def OUM (S : HS) (d : Int32) (A : AB) (tr : Nat → Int32) : Prop := d = 1 ∨ d = 2 → ∀ k w, k < 10 → w < 4 → A.1.testBit k = false → tr (4 * k + w) = S.1 53 (4 * k + w)
def TRP (S : HS) (kd : Nat → Int32) (fr to : Nat → Nat) (lb : Nat → Bool) (d : Int32) (s : Nat) (q : Nat → Int32) (A : AB) (r : HS × Int32) : Prop := ∃ tr tt tf fl tx ty ok, r = (mF S tr tt tf fl tx ty, bI ok) ∧ (ok = true → ∃ A', Does kd fr to lb d s q A A' ∧ tt = nI A'.1 ∧ tf = nI A'.2.1 ∧ rpN A'.1 A'.2.2.1 tr ∧ rpM kd A'.2.1 A'.2.2.2 tx ty) ∧ (ok = false → (¬ ∃ A', Does kd fr to lb d s q A A') ∧ tx = S.1 54 ∧ ty = S.1 55) ∧ OUM S d A tr
section
variable {S : HS} {nm nr ns : Nat} {kd : Nat → Int32} {fr to : Nat → Nat} {lb : Nat → Bool} {A : AB}
theorem tend8 (hM : MC S nm nr ns kd fr to lb) {th : Nat} (ht : th < 2 ^ 10) (p : Int32) (tr tx ty : Nat → Int32) (tf : Int32) (f : Bool) : Ok (f_X8_tries_b394 p (mF S tr (nI th) tf (bI f) tx ty)) (fun r => ∃ ok, r = (mF S tr (nI th) tf (bI f) tx ty, bI ok) ∧ (ok = true ↔ f = false ∧ ∀ k, k < ns → th.testBit k = true → rngB (tr (4 * k)) 0 = true ∧ rngB (tr (4 * k + 1)) 1 = true)) := by
  unfold f_X8_tries_b394 f_X8_tries_b412 f_X8_tries_b413
  have e28 : (mF S tr (nI th) tf (bI f) tx ty).1 36 28 = bI f := rfl
  rw [e28, ifb, nz_0, nz_1]
  cases f with
  | true =>
    rw [if_pos rfl, if_pos rfl]
    exact ⟨_, rfl, false, rfl, by simp⟩
  | false =>
    rw [if_neg (by decide)]
    refine Ok.bind (inrng8 hM ht tr tx ty tf _) ?_
    rintro r ⟨ok, rfl, hok⟩
    rw [ifb]
    cases ok with
    | true => rw [if_pos rfl, if_pos rfl]; exact ⟨_, rfl, true, rfl, by simp at hok; simpa using hok⟩
    | false => rw [if_neg (by decide), if_pos rfl]; exact ⟨_, rfl, false, rfl, by simp at hok; simpa using hok⟩
theorem AI_mono {n1 n2 : Nat} (h : AI kd fr to lb ns n1 A) (hn : n1 ≤ n2) : AI kd fr to lb ns n2 A := ⟨h.1, fun k hk => by have := h.2.1 k hk; omega, h.2.2⟩
/-- what the model's settling comes to in the board's own words -/
theorem mgr0 {x g ld ch : Nat} {v : Int32} {ok : Bool} {N : Nat → Nat → Int32} {trz tx ty : Nat → Int32} {c : Nat → Int32} (hW : RW nr ns kd fr to) (hA : AI kd fr to lb ns nr A) (hx : x < 2) (hg : sbt g A.1) (hz : ∀ k, A.1.testBit k = true → trz (4 * k + (x + 2)) = if g.testBit k = true then v else N k (x + 2)) (hc : ∀ k, A.1.testBit k = true → trz (4 * k + x) = N k x) (hT : rpM kd A.2.1 A.2.2.2 tx ty) (hch : ∀ k, ch.testBit k = (g.testBit k && decide (N k (x + 2) ≠ v)))
    (h : TS (lkf A.2.1 kd x) fr to (fun j => gapM trz tx ty kd fr j x) (fixF (lkf A.2.1 kd x) fr to ld (fun k => ch.testBit k) 10) (col trz x) c ok) : ∃ c', TS (lkf A.2.1 kd x) fr to (gpA (setc N g (x + 2) v) A.2.2.2 kd fr x) (fixF (lkf A.2.1 kd x) fr to ld (fun k => g.testBit k && decide (N k (x + 2) ≠ v)) 10) (fun k => N k x) c' ok ∧ ∀ k, A.1.testBit k = true → c' k = c k := by
  have ho := RW_ok (w := x) hW hA.2.1
  have hl := RW_lt (w := x) hW hA.2.1
  have hfx : fixF (lkf A.2.1 kd x) fr to ld (fun k => ch.testBit k) 10 = fixF (lkf A.2.1 kd x) fr to ld (fun k => g.testBit k && decide (N k (x + 2) ≠ v)) 10 := fixF_cong (fun k _ => hch k)
  rw [hfx] at h
  have hDth : ∀ k, Dm (lkf A.2.1 kd x) fr to (fixF (lkf A.2.1 kd x) fr to ld (fun k => g.testBit k && decide (N k (x + 2) ≠ v)) 10) k → A.1.testBit k = true := by
    intro k hk
    rw [fixF_Dm ho hl (by omega)] at hk
    obtain ⟨c, c1, c2, c3⟩ := hk
    rw [Bool.and_eq_true] at c2
    exact clo_th hA (hg c c2.1) k c3
  obtain ⟨c', b1, b2, b3⟩ := TS_move (n' := fun k => N k x) (gp' := gpA (setc N g (x + 2) v) A.2.2.2 kd fr x) ho hl (fixF_lt ho (by omega)) h (fun k hk => hc k (hDth k hk)) (fun j hj hD => by
    have hth := hDth _ hD
    unfold gpA gapM
    by_cases e6 : kd j = 6
    · have e24 : ¬ (kd j = 2 ∨ kd j = 4) := by rw [e6]; decide
      rw [if_pos e6, if_neg e24, if_pos e6]
      obtain ⟨h0, h1⟩ := hT j (lkf_fo hj) e6
      by_cases e0 : x = 0
      · rw [if_pos e0, e0, h0]
      · rw [if_neg e0, show x = 1 by omega, h1]
    · rw [if_neg e6, if_neg e6]
      by_cases e : kd j = 2 ∨ kd j = 4
      · rw [if_pos e, if_pos e, show 4 * fr j + 2 + x = 4 * fr j + (x + 2) by omega, hz _ hth]
        unfold setc
        by_cases e2 : g.testBit (fr j) = true
        · rw [if_pos e2, if_pos ⟨rfl, e2⟩]
        · rw [if_neg e2, if_neg (fun q => e2 q.2)]
      · rw [if_neg e, if_neg e])
  refine ⟨c', b1, fun k hk => ?_⟩
  by_cases hD : Dm (lkf A.2.1 kd x) fr to (fixF (lkf A.2.1 kd x) fr to ld (fun k => g.testBit k && decide (N k (x + 2) ≠ v)) 10) k
  · exact b2 k hD
  · rw [b3 k hD, h.1 k hD]
    exact (hc k hk).symm
theorem szN_col {g w u k n : Nat} {v : Int32} {num : Nat → Int32} (hk : k < n) (hw : w < 4) (hu : u < 4) : szN g w v num n (4 * k + u) = if u = w ∧ g.testBit k = true then v else num (4 * k + u) := by
  unfold szN
  rw [show (4 * k + u) % 4 = u by omega, show (4 * k + u) / 4 = k by omega]
  by_cases e : u = w ∧ g.testBit k = true
  · rw [if_pos ⟨e.1, hk, e.2⟩, if_pos e]
  · rw [if_neg (fun q => e ⟨q.1, q.2.2⟩), if_neg e]
theorem shN_coln {g w u k n : Nat} {x : Int32} {num : Nat → Int32} (hk : k < n) (hw : w < 4) (hu : u < 4) : shN g w x num n (4 * k + u) = num (4 * k + u) + (if u = w ∧ g.testBit k = true then x else 0) := by
  unfold shN
  rw [show (4 * k + u) % 4 = u by omega, show (4 * k + u) / 4 = k by omega]
  by_cases e : u = w ∧ g.testBit k = true
  · rw [if_pos ⟨e.1, hk, e.2⟩, if_pos e]
  · rw [if_neg (fun q => e ⟨q.1, q.2.2⟩), if_neg e]
    exact i32_00.symm
theorem shN_out {g w u k n : Nat} {x : Int32} {num : Nat → Int32} (hu : u < 4) (hg : g.testBit k = false) : shN g w x num n (4 * k + u) = num (4 * k + u) := by
  unfold shN
  rw [show (4 * k + u) % 4 = u by omega, show (4 * k + u) / 4 = k by omega, if_neg (fun q => by rw [hg] at q; exact absurd q.2.2 (by decide))]
theorem szN_out {g w u k n : Nat} {v : Int32} {num : Nat → Int32} (hu : u < 4) (hg : g.testBit k = false) : szN g w v num n (4 * k + u) = num (4 * k + u) := by
  unfold szN
  rw [show (4 * k + u) % 4 = u by omega, show (4 * k + u) / 4 = k by omega, if_neg (fun q => by rw [hg] at q; exact absurd q.2.2 (by decide))]
theorem OUM_no {S : HS} {d : Int32} {tr : Nat → Int32} (h1 : d ≠ 1) (h2 : d ≠ 2) : OUM S d A tr := fun q => (q.elim h1 h2).elim
/-- a class gets a size in the model, both ways round -/
theorem mgr {x g ld ch : Nat} {v : Int32} {ok : Bool} {N : Nat → Nat → Int32} {trz tx ty : Nat → Int32} {c : Nat → Int32} (hW : RW nr ns kd fr to) (hA : AI kd fr to lb ns nr A) (hx : x < 2) (hg : sbt g A.1) (hz : ∀ k, A.1.testBit k = true → trz (4 * k + (x + 2)) = if g.testBit k = true then v else N k (x + 2)) (hc : ∀ k, A.1.testBit k = true → trz (4 * k + x) = N k x) (hT : rpM kd A.2.1 A.2.2.2 tx ty) (hch : ∀ k, ch.testBit k = (g.testBit k && decide (N k (x + 2) ≠ v)))
    (h : TS (lkf A.2.1 kd x) fr to (fun j => gapM trz tx ty kd fr j x) (fixF (lkf A.2.1 kd x) fr to ld (fun k => ch.testBit k) 10) (col trz x) c ok) :
    (ok = true → (∀ k, g.testBit k = true → lb k = true → N k (x + 2) = v) → ∀ N', (∀ k, A.1.testBit k = true → N' k x = c k) → (∀ k, A.1.testBit k = true → N' k (x + 2) = if g.testBit k = true then v else N k (x + 2)) → (∀ k w, A.1.testBit k = true → w < 4 → w ≠ x → w ≠ x + 2 → N' k w = N k w) → GrA kd fr to lb A.1 A.2.1 A.2.2.2 x g ld v N N') ∧
    (∀ N', GrA kd fr to lb A.1 A.2.1 A.2.2.2 x g ld v N N' → ok = true ∧ ∀ k, A.1.testBit k = true → N' k x = c k) := by
  have ho := RW_ok (w := x) hW hA.2.1
  have hl := RW_lt (w := x) hW hA.2.1
  obtain ⟨c', b1, b2⟩ := mgr0 hW hA hx hg hz hc hT hch h
  refine ⟨fun e hl N' n1 n2 n3 => ⟨hl, n2, n3, c', by rw [e] at b1; exact b1, fun k hk => by rw [n1 k hk, b2 k hk]⟩, ?_⟩
  rintro N' ⟨-, -, -, c2, g4, g5⟩
  cases ok with
  | true => exact ⟨rfl, fun k hk => by rw [g5 k hk, ← b2 k hk]; exact TS_uniq ho hl (fixF_lt ho (by omega)) g4 b1 k⟩
  | false => exact (TS_excl g4 b1).elim
end
