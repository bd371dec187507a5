/-! what an act does to an abstract board: the shapes that are there, the rules in force, numbers, gaps of ties -/
section
variable {lk : Nat → Bool} {fr to : Nat → Nat} {gp gp' : Nat → Int32} {fx : Nat} {n n' cur : Nat → Int32}
theorem TS_move {ok : Bool} (ho : rOk lk fr to) (hl : rLt lk) (hf : fx < 2 ^ 10) (h : TS lk fr to gp fx n cur ok) (hn : ∀ k, Dm lk fr to fx k → n k = n' k) (hg : ∀ j, lk j = true → Dm lk fr to fx (fr j) → gp j = gp' j) : ∃ cur', TS lk fr to gp' fx n' cur' ok ∧ (∀ k, Dm lk fr to fx k → cur' k = cur k) ∧ ∀ k, ¬ Dm lk fr to fx k → cur' k = n' k := by
  classical
  obtain ⟨a1, a2, a3⟩ := h
  refine ⟨fun k => if Dm lk fr to fx k then cur k else n' k, ⟨fun k hk => if_neg hk, fun q => ?_, fun q => ?_⟩, fun k hk => if_pos hk, fun k hk => if_neg hk⟩
  · obtain ⟨b1, b2⟩ := a2 q
    refine ⟨fun k hk => ?_, fun j hj hD => ?_⟩
    · dsimp only
      rw [if_pos (Dm_self hk), b1 k hk, hn k (Dm_self hk)]
    · dsimp only
      rw [if_pos hD, if_pos ((Dm_link ho hl hf hj).mp hD), ← hg j hj hD]
      exact b2 j hj hD
  · rintro ⟨m, m1, m2⟩
    exact a3 q ⟨m, fun k hk => by rw [m1 k hk, hn k (Dm_self hk)], fun j hj hD => by rw [hg j hj hD]; exact m2 j hj hD⟩
end
abbrev AB := Nat × Nat × (Nat → Nat → Int32) × (Nat → Nat → Int32)
def gpA (N T : Nat → Nat → Int32) (kd : Nat → Int32) (fr : Nat → Nat) (w j : Nat) : Int32 := if kd j = 2 ∨ kd j = 4 then N (fr j) (w + 2) else if kd j = 6 then T j w else 0
def setc (N : Nat → Nat → Int32) (g w : Nat) (v : Int32) : Nat → Nat → Int32 := fun k u => if u = w ∧ g.testBit k = true then v else N k u
def RG (th : Nat) (N : Nat → Nat → Int32) (x : Nat) : Prop := ∀ k, th.testBit k = true → rngB (N k x) x = true
/-- a class g gets the size v for the axis x, and places are settled, the lead being ld -/
def GrA (kd : Nat → Int32) (fr to : Nat → Nat) (lb : Nat → Bool) (th fo : Nat) (T : Nat → Nat → Int32) (x g ld : Nat) (v : Int32) (N N' : Nat → Nat → Int32) : Prop :=
  (∀ k, g.testBit k = true → lb k = true → N k (x + 2) = v) ∧
  (∀ k, th.testBit k = true → N' k (x + 2) = if g.testBit k = true then v else N k (x + 2)) ∧
  (∀ k w, th.testBit k = true → w < 4 → w ≠ x → w ≠ x + 2 → N' k w = N k w) ∧
  ∃ c, TS (lkf fo kd x) fr to (gpA (setc N g (x + 2) v) T kd fr x) (fixF (lkf fo kd x) fr to ld (fun k => g.testBit k && decide (N k (x + 2) ≠ v)) 10) (fun k => N k x) c true ∧ ∀ k, th.testBit k = true → N' k x = c k
def TSm (kd : Nat → Int32) (fo : Nat) (T T' : Nat → Nat → Int32) : Prop := ∀ j w, fo.testBit j = true → kd j = 6 → w < 2 → T' j w = T j w
def NSm (th : Nat) (N N' : Nat → Nat → Int32) : Prop := ∀ k w, th.testBit k = true → w < 4 → N' k w = N k w
def LyA (kd : Nat → Int32) (fr to : Nat → Nat) (lb : Nat → Bool) (th fo : Nat) (s : Nat) (N T N' T' : Nat → Nat → Int32) : Prop :=
  if kd s = 0 then GrA kd fr to lb th fo T 0 (clo (lkf fo kd 2) fr to (to s)) (fr s) (N (fr s) 2) N N' ∧ TSm kd fo T T'
  else if kd s = 1 then GrA kd fr to lb th fo T 1 (clo (lkf fo kd 3) fr to (to s)) (fr s) (N (fr s) 3) N N' ∧ TSm kd fo T T'
  else if kd s = 6 then NSm th N N' ∧ (∀ w, w < 2 → T' s w = N (to s) w - N (fr s) w) ∧ ∀ j w, j ≠ s → fo.testBit j = true → kd j = 6 → w < 2 → T' j w = T j w
  else ∃ w0 b0, w0 = (if kd s = 2 ∨ kd s = 3 then 0 else 1) ∧ b0 = (if kd s = 2 ∨ kd s = 4 then N (fr s) (w0 + 2) else 0) - (N (to s) w0 - N (fr s) w0) ∧ ((clo (lkf fo kd w0) fr to (to s)).testBit (fr s) = true → b0 = 0) ∧ (∀ k w, th.testBit k = true → w < 4 → N' k w = N k w + (if w = w0 ∧ (clo (lkf fo kd w0) fr to (to s)).testBit k = true then b0 else 0)) ∧ TSm kd fo T T'
def Does (kd : Nat → Int32) (fr to : Nat → Nat) (lb : Nat → Bool) (d : Int32) (s : Nat) (q : Nat → Int32) (A A' : AB) : Prop :=
  if d = 0 then A'.1 = A.1 ||| 2 ^ s ∧ A'.2.1 = A.2.1 ∧ (∀ k w, A'.1.testBit k = true → w < 4 → A'.2.2.1 k w = if k = s then q w else A.2.2.1 k w) ∧ TSm kd A.2.1 A.2.2.2 A'.2.2.2
  else if d = 1 then A.1.testBit s = true ∧ A'.1 = A.1 ∧ A'.2.1 = A.2.1 ∧ TSm kd A.2.1 A.2.2.2 A'.2.2.2 ∧ (RG A.1 A'.2.2.1 0 ∧ RG A.1 A'.2.2.1 1) ∧ ∀ k w, A.1.testBit k = true → w < 4 → A'.2.2.1 k w = A.2.2.1 k w + (if w < 2 ∧ (clo (lkf A.2.1 kd w) fr to s).testBit k = true then q w - A.2.2.1 s w else 0)
  else if d = 2 then A.1.testBit s = true ∧ A'.1 = A.1 ∧ A'.2.1 = A.2.1 ∧ TSm kd A.2.1 A.2.2.2 A'.2.2.2 ∧ (RG A.1 A'.2.2.1 0 ∧ RG A.1 A'.2.2.1 1) ∧ ∃ N1, GrA kd fr to lb A.1 A.2.1 A.2.2.2 0 (clo (lkf A.2.1 kd 2) fr to s) s (q 2) A.2.2.1 N1 ∧ GrA kd fr to lb A.1 A.2.1 A.2.2.2 1 (clo (lkf A.2.1 kd 3) fr to s) s (q 3) N1 A'.2.2.1
  else if d = 3 then A.1.testBit (fr s) = true ∧ A.1.testBit (to s) = true ∧ A'.1 = A.1 ∧ A'.2.1 = A.2.1 ||| 2 ^ s ∧ (RG A.1 A'.2.2.1 0 ∧ RG A.1 A'.2.2.1 1) ∧ LyA kd fr to lb A.1 A.2.1 s A.2.2.1 A.2.2.2 A'.2.2.1 A'.2.2.2
  else A.2.1.testBit s = true ∧ A'.1 = A.1 ∧ A'.2.1 = clr A.2.1 s ∧ NSm A.1 A.2.2.1 A'.2.2.1 ∧ TSm kd A.2.1 A.2.2.2 A'.2.2.2
/-- what always holds of a board -/
def AI (kd : Nat → Int32) (fr to : Nat → Nat) (lb : Nat → Bool) (ns nr : Nat) (A : AB) : Prop :=
  (∀ k, A.1.testBit k = true → k < ns) ∧ fok A.2.1 nr ∧ (∀ j, A.2.1.testBit j = true → A.1.testBit (fr j) = true ∧ A.1.testBit (to j) = true) ∧ (∀ w, w < 4 → RG A.1 A.2.2.1 w) ∧ (∀ j w, w = 2 ∨ w = 3 → lkf A.2.1 kd w j = true → A.2.2.1 (fr j) w = A.2.2.1 (to j) w) ∧ (∀ k, A.1.testBit k = true → lb k = true → A.2.2.1 k 3 = 2)
/-- the rules that were made -/
def RW (nr ns : Nat) (kd : Nat → Int32) (fr to : Nat → Nat) : Prop := nr ≤ 12 ∧ ns ≤ 10 ∧ ∀ k, k < nr → fr k < ns ∧ to k < ns
section
variable {kd : Nat → Int32} {fr to : Nat → Nat} {lb : Nat → Bool} {ns nr : Nat} {A : AB}
theorem RW_ok {fo w : Nat} (hW : RW nr ns kd fr to) (hf : fok fo nr) : rOk (lkf fo kd w) fr to := by
  intro k hk
  have := hW.2.2 k (lkf_nr hf hk)
  have := hW.2.1
  omega
theorem RW_lt {fo w : Nat} (hW : RW nr ns kd fr to) (hf : fok fo nr) : rLt (lkf fo kd w) := by
  intro k hk
  have := lkf_nr hf hk
  have := hW.1
  omega
theorem AI_th (hW : RW nr ns kd fr to) (h : AI kd fr to lb ns nr A) : A.1 < 2 ^ 10 := by
  apply Nat.lt_pow_two_of_testBit
  intro i hi
  cases e : A.1.testBit i with
  | false => rfl
  | true => exact absurd (h.1 i e) (by have := hW.2.1; omega)
theorem lkf_fo {fo w j : Nat} (h : lkf fo kd w j = true) : fo.testBit j = true := by
  unfold lkf at h
  rw [Bool.and_eq_true] at h
  exact h.1
theorem clo_th (h : AI kd fr to lb ns nr A) {w s : Nat} (hs : A.1.testBit s = true) : sbt (clo (lkf A.2.1 kd w) fr to s) A.1 := by
  refine clo_min (fun j hj => ?_) hs
  obtain ⟨h1, h2⟩ := h.2.2.1 j (lkf_fo hj)
  rw [h1, h2]
/-- sizes are the same in a class -/
theorem clo_uni (hW : RW nr ns kd fr to) (h : AI kd fr to lb ns nr A) {w s : Nat} (hw : w = 2 ∨ w = 3) (hs : s < 10) {k : Nat} (hk : (clo (lkf A.2.1 kd w) fr to s).testBit k = true) : A.2.2.1 k w = A.2.2.1 s w := by
  have ho := RW_ok (w := w) hW h.2.1
  have hb : ∀ i, i < 10 → (mks (fun i => decide (A.2.2.1 i w = A.2.2.1 s w)) 10).testBit i = decide (A.2.2.1 i w = A.2.2.1 s w) := by
    intro i hi
    rw [mks_bit]; simp [hi]
  have hc : clsd (lkf A.2.1 kd w) fr to (mks (fun i => decide (A.2.2.1 i w = A.2.2.1 s w)) 10) := by
    intro j hj
    rw [hb _ (ho j hj).1, hb _ (ho j hj).2, h.2.2.2.2.1 j w hw hj]
  have := clo_min hc (s := s) (by rw [hb s hs]; simp) k hk
  rw [hb k (clo_bit ho hs hk), decide_eq_true_eq] at this
  exact this
theorem i32_by {a u v : Int32} (h : a = u) : a + (v - u) = v := by grind
theorem i32_by0 {u v : Int32} : v - u = 0 ↔ u = v := by grind
theorem i32_00 {u : Int32} : u + 0 = u := by grind
/-- the fixed shapes, as the class has them -/
theorem grF_eq {x g ld : Nat} {u v : Int32} {N : Nat → Nat → Int32} {fo : Nat} (hu : ∀ k, g.testBit k = true → N k (x + 2) = u) : grF kd fr to fo x g ld (v - u) = fixF (lkf fo kd x) fr to ld (fun k => g.testBit k && decide (N k (x + 2) ≠ v)) 10 := by
  unfold grF
  by_cases e : v - u = 0
  · rw [if_pos e, fixF_nil]
    intro k _
    cases h : g.testBit k with
    | false => rfl
    | true => simp [hu k h, i32_by0.mp e]
  · rw [if_neg e]
    apply fixF_cong
    intro k _
    cases h : g.testBit k with
    | false => rfl
    | true =>
      have : u ≠ v := fun q => e (i32_by0.mpr q)
      simp [hu k h, this]
/-- a change that the class makes, in the board's own words -/
theorem GP_A {S : HS} {b : Nat} {num tie : Nat → Int32} {x g ld : Nat} {u v : Int32} {r : HS × Int32} {N : Nat → Nat → Int32} (hW : RW nr ns kd fr to) (hA : AI kd fr to lb ns nr A) (hx : x < 2) (hg : sbt g A.1) (hN : ∀ k w, A.1.testBit k = true → w < 4 → num (4 * k + w) = N k w) (hT : ∀ j w, A.2.1.testBit j = true → kd j = 6 → w < 2 → tie (2 * j + w) = A.2.2.2 j w) (hu : ∀ k, g.testBit k = true → N k (x + 2) = u) (hv : rngB v (x + 2) = true) (hr : RG A.1 N x) (hP : GP S b A.1 A.2.1 num tie kd fr to lb g x ld (v - u) r) :
    ∃ num' ok, r = (wB S b (nI A.1) (nI A.2.1) num' tie, bI ok) ∧ (ok = true → GrA kd fr to lb A.1 A.2.1 A.2.2.2 x g ld v N (fun k w => num' (4 * k + w)) ∧ RG A.1 (fun k w => num' (4 * k + w)) x) ∧ (ok = false → ∀ N', GrA kd fr to lb A.1 A.2.1 A.2.2.2 x g ld v N N' → RG A.1 N' x → False) := by
  have ho := RW_ok (w := x) hW hA.2.1
  have hl := RW_lt (w := x) hW hA.2.1
  have hf10 : grF kd fr to A.2.1 x g ld (v - u) < 2 ^ 10 := by rw [grF_eq hu]; exact fixF_lt ho (by omega)
  have hDth : ∀ k, Dm (lkf A.2.1 kd x) fr to (grF kd fr to A.2.1 x g ld (v - u)) k → A.1.testBit k = true := by
    intro k hk
    rw [grF_eq hu, fixF_Dm ho hl (by omega)] at hk
    obtain ⟨c, c1, c2, c3⟩ := hk
    rw [Bool.and_eq_true] at c2
    exact clo_th hA (hg c c2.1) k c3
  have hsh : ∀ k, A.1.testBit k = true → shN g (x + 2) (v - u) num 10 (4 * k + (x + 2)) = if g.testBit k = true then v else N k (x + 2) := by
    intro k hk
    have hk10 := lt10_of (AI_th hW hA) hk
    unfold shN
    rw [hN k (x + 2) hk (by omega)]
    by_cases e : g.testBit k = true
    · rw [if_pos ⟨by omega, by omega, by rw [show (4 * k + (x + 2)) / 4 = k by omega]; exact e⟩, if_pos e]
      exact i32_by (hu k e)
    · rw [if_neg (fun q => e (by rw [← show (4 * k + (x + 2)) / 4 = k by omega]; exact q.2.2)), if_neg e]
  have hgp : ∀ j, lkf A.2.1 kd x j = true → Dm (lkf A.2.1 kd x) fr to (grF kd fr to A.2.1 x g ld (v - u)) (fr j) → gapC (shN g (x + 2) (v - u) num 10) tie kd fr j x = gpA (setc N g (x + 2) v) A.2.2.2 kd fr x j := by
    intro j hj hD
    have hth := hDth _ hD
    unfold gapC gpA
    by_cases e : kd j = 2 ∨ kd j = 4
    · rw [if_pos e, if_pos e, Nat.add_assoc, hsh _ hth]
      unfold setc
      by_cases e2 : g.testBit (fr j) = true
      · rw [if_pos e2, if_pos ⟨rfl, e2⟩]
      · rw [if_neg e2, if_neg (fun q => e2 q.2)]
    · rw [if_neg e, if_neg e]
      by_cases e6 : kd j = 6
      · rw [if_pos e6, if_pos e6, hT j x (lkf_fo hj) e6 hx]
      · rw [if_neg e6, if_neg e6]
  have hcol : ∀ k, A.1.testBit k = true → col num x k = N k x := fun k hk => hN k x hk (by omega)
  obtain ⟨num', ok, rfl, h1, h2⟩ := hP
  refine ⟨num', ok, rfl, fun q => ?_, fun q => ?_⟩
  · obtain ⟨a1, a2, a3, a4⟩ := h1 q
    obtain ⟨c, c1, c2, c3⟩ := TS_move (n' := fun k => N k x) ho hl hf10 a3 (fun k hk => hcol k (hDth k hk)) hgp
    have hcc : ∀ k, A.1.testBit k = true → num' (4 * k + x) = c k := by
      intro k hk
      by_cases hD : Dm (lkf A.2.1 kd x) fr to (grF kd fr to A.2.1 x g ld (v - u)) k
      · exact (c2 k hD).symm
      · rw [c3 k hD]
        have := a3.1 k hD
        rw [hcol k hk] at this
        exact this
    refine ⟨⟨fun k hk hlk => ?_, fun k hk => ?_, fun k w hk hw w1 w2 => ?_, c, ?_, hcc⟩, fun k hk => ?_⟩
    · have := a1 k hk
      unfold shG at this
      simp only [Bool.and_eq_true, Bool.not_eq_true', Bool.and_eq_false_iff, decide_eq_false_iff_not] at this
      obtain ⟨-, (h | h) | h⟩ := this
      · exact absurd h (by omega)
      · rw [hlk] at h; exact absurd h (by decide)
      · have : v - u = 0 := by
          apply Classical.byContradiction
          intro q2
          exact h q2
        rw [hu k hk]
        exact i32_by0.mp this
    · show num' (4 * k + (x + 2)) = _
      rw [a2 _ (by omega), hsh k hk]
    · show num' (4 * k + w) = _
      rw [a2 _ (by omega)]
      unfold shN
      rw [if_neg (by omega), hN k w hk hw]
    · rw [← grF_eq hu]
      exact c1
    · by_cases e : v - u = 0
      · have hD : ¬ Dm (lkf A.2.1 kd x) fr to (grF kd fr to A.2.1 x g ld (v - u)) k := by
          unfold grF
          rw [if_pos e]
          rintro ⟨f, f1, -⟩
          rw [Nat.zero_testBit] at f1
          exact absurd f1 (by decide)
        show rngB (num' (4 * k + x)) x = true
        have := a3.1 k hD
        rw [hcol k hk] at this
        rw [show num' (4 * k + x) = col num' x k from rfl, this]
        exact hr k hk
      · exact a4 e k hk
  · intro N' ⟨g1, g2, g3, c, g4, g5⟩ hR
    rw [← grF_eq hu] at g4
    rcases h2 q with ⟨k, k1, k2⟩ | ⟨c2, k2⟩ | ⟨c2, k2, k, k3, k4⟩
    · unfold shG at k2
      have hkth := hg k k1
      rw [hN k (x + 2) hkth (by omega), hu k k1, i32_by rfl, hv] at k2
      have hlb : lb k = true ∧ v - u ≠ 0 := by
        cases e : lb k with
        | false => rw [e] at k2; simp at k2
        | true =>
          refine ⟨rfl, fun q2 => ?_⟩
          rw [q2] at k2
          simp at k2
      exact hlb.2 (i32_by0.mpr (by rw [← hu k k1]; exact g1 k k1 hlb.1))
    · obtain ⟨c3, c4, -⟩ := TS_move (n' := fun k => N k x) ho hl hf10 k2 (fun k hk => hcol k (hDth k hk)) hgp
      exact TS_excl g4 c4
    · obtain ⟨c3, c4, c5, c6⟩ := TS_move (n' := fun k => N k x) ho hl hf10 k2 (fun k hk => hcol k (hDth k hk)) hgp
      have e1 := TS_uniq ho hl hf10 g4 c4 k
      have e2 : c3 k = c2 k := by
        by_cases hD : Dm (lkf A.2.1 kd x) fr to (grF kd fr to A.2.1 x g ld (v - u)) k
        · exact c5 k hD
        · rw [c6 k hD, k2.1 k hD, hcol k k3]
      have := hR k k3
      rw [g5 k k3, e1, e2, k4] at this
      exact absurd this (by decide)
end
