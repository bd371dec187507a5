/-! settling: what is told from shapes that stay -/
def clsd (lk : Nat → Bool) (fr to : Nat → Nat) (g : Nat) : Prop := ∀ j, lk j = true → (g.testBit (fr j) = true ↔ g.testBit (to j) = true)
def rLt (lk : Nat → Bool) : Prop := ∀ j, lk j = true → j < 12
theorem sbt_anti {g h : Nat} (h1 : sbt g h) (h2 : sbt h g) : g = h := by
  apply Nat.eq_of_testBit_eq
  intro i
  cases e : g.testBit i with
  | true => exact (h1 i e).symm
  | false =>
    cases e2 : h.testBit i with
    | false => rfl
    | true => rw [h2 i e2] at e; exact absurd e (by decide)
theorem rPass_mono (lk : Nat → Bool) (fr to : Nat → Nat) (g : Nat) : ∀ {m n : Nat}, m ≤ n → sbt (rPass lk fr to m g) (rPass lk fr to n g) := by
  intro m n h
  induction h with
  | refl => exact sbt.rf _
  | step _ ih => exact ih.tr (rStep_sub lk fr to _ _)
theorem fix_closed {lk : Nat → Bool} {fr to : Nat → Nat} {g : Nat} (hl : rLt lk) (h : rPass lk fr to 12 g = g) : clsd lk fr to g := by
  intro j hj
  have hj12 := hl j hj
  have e1 : rPass lk fr to j g = g := sbt_anti (by have := rPass_mono lk fr to g (Nat.le_of_lt hj12); rw [h] at this; exact this) (rPass_sub lk fr to j g)
  have e2 : rPass lk fr to (j + 1) g = g := sbt_anti (by have := rPass_mono lk fr to g (show j + 1 ≤ 12 by omega); rw [h] at this; exact this) (rPass_sub lk fr to (j + 1) g)
  have e3 : rStep lk fr to j g = g := by
    have : rPass lk fr to (j + 1) g = rStep lk fr to j (rPass lk fr to j g) := rfl
    rw [this, e1] at e2
    exact e2
  have e4 : g.testBit (fr j) = true ∨ g.testBit (to j) = true → g ||| (2 ^ fr j ||| 2 ^ to j) = g := by
    intro h4
    unfold rStep at e3
    rw [if_pos ⟨hj, h4⟩] at e3
    exact e3
  constructor
  · intro h5
    rw [← e4 (Or.inl h5)]
    simp [Nat.testBit_or, Nat.testBit_two_pow_self]
  · intro h5
    rw [← e4 (Or.inr h5)]
    simp [Nat.testBit_or, Nat.testBit_two_pow_self]
theorem clo_closed {lk : Nat → Bool} {fr to : Nat → Nat} (ho : rOk lk fr to) (hl : rLt lk) {s : Nat} (hs : s < 10) : clsd lk fr to (clo lk fr to s) := fix_closed hl (clo_fix ho hs)
theorem rStep_in {lk : Nat → Bool} {fr to : Nat → Nat} {g h : Nat} (hc : clsd lk fr to g) (k : Nat) (hs : sbt h g) : sbt (rStep lk fr to k h) g := by
  unfold rStep
  split
  · next q =>
    obtain ⟨q1, q2⟩ := q
    have h1 : g.testBit (fr k) = true := by
      rcases q2 with q2 | q2
      · exact hs _ q2
      · exact (hc k q1).mpr (hs _ q2)
    have h2 : g.testBit (to k) = true := (hc k q1).mp h1
    intro i hi
    rw [Nat.testBit_or, Nat.testBit_or, Nat.testBit_two_pow, Nat.testBit_two_pow] at hi
    simp only [Bool.or_eq_true, decide_eq_true_eq] at hi
    rcases hi with hi | hi | hi
    · exact hs i hi
    · rw [← hi]; exact h1
    · rw [← hi]; exact h2
  · exact hs
theorem rPass_in {lk : Nat → Bool} {fr to : Nat → Nat} {g : Nat} (hc : clsd lk fr to g) : ∀ (n : Nat) {h : Nat}, sbt h g → sbt (rPass lk fr to n h) g
  | 0, _, h => h
  | n + 1, _, h => rStep_in hc n (rPass_in hc n h)
theorem rIter_in {lk : Nat → Bool} {fr to : Nat → Nat} {g : Nat} (hc : clsd lk fr to g) (n : Nat) : ∀ (i : Nat) {h : Nat}, sbt h g → sbt (rIter lk fr to n i h) g
  | 0, _, h => h
  | i + 1, _, h => rPass_in hc n (rIter_in hc n i h)
theorem clo_min {lk : Nat → Bool} {fr to : Nat → Nat} {g s : Nat} (hc : clsd lk fr to g) (hs : g.testBit s = true) : sbt (clo lk fr to s) g := by
  apply rIter_in hc
  intro i hi
  rw [Nat.testBit_two_pow, decide_eq_true_eq] at hi
  rw [← hi]; exact hs
theorem clo_bit {lk : Nat → Bool} {fr to : Nat → Nat} (ho : rOk lk fr to) {s t : Nat} (hs : s < 10) (h : (clo lk fr to s).testBit t = true) : t < 10 := by
  rcases Nat.lt_or_ge t 10 with h1 | h1
  · exact h1
  · rw [bits_out (clo_lt ho hs) h1] at h; exact absurd h (by decide)
theorem clo_sym {lk : Nat → Bool} {fr to : Nat → Nat} (ho : rOk lk fr to) (hl : rLt lk) {s t : Nat} (hs : s < 10) (h : (clo lk fr to s).testBit t = true) : clo lk fr to t = clo lk fr to s := by
  have ht := clo_bit ho hs h
  have h1 : sbt (clo lk fr to t) (clo lk fr to s) := clo_min (clo_closed ho hl hs) h
  refine sbt_anti h1 ?_
  cases e : (clo lk fr to t).testBit s with
  | true => exact clo_min (clo_closed ho hl ht) e
  | false =>
    have hb : ∀ i, (clo lk fr to s ^^^ (clo lk fr to s &&& clo lk fr to t)).testBit i = ((clo lk fr to s).testBit i && !(clo lk fr to t).testBit i) := by
      intro i
      rw [Nat.testBit_xor, Nat.testBit_and]
      cases (clo lk fr to s).testBit i <;> cases (clo lk fr to t).testBit i <;> rfl
    have hc : clsd lk fr to (clo lk fr to s ^^^ (clo lk fr to s &&& clo lk fr to t)) := by
      intro j hj
      have a1 := clo_closed ho hl hs j hj
      have a2 := clo_closed ho hl ht j hj
      rw [hb, hb]
      cases q1 : (clo lk fr to s).testBit (fr j) <;> cases q2 : (clo lk fr to s).testBit (to j) <;> cases q3 : (clo lk fr to t).testBit (fr j) <;> cases q4 : (clo lk fr to t).testBit (to j) <;> simp_all
    have h3 := clo_min (s := s) hc (by rw [hb, clo_self, e]; rfl) t h
    rw [hb, clo_self] at h3
    simp at h3
/-- all that is reached from a set -/
def Dm (lk : Nat → Bool) (fr to : Nat → Nat) (fx k : Nat) : Prop := ∃ f, fx.testBit f = true ∧ (clo lk fr to f).testBit k = true
def LSo (lk : Nat → Bool) (fr to : Nat → Nat) (gp : Nat → Int32) (D : Nat → Prop) (m : Nat → Int32) : Prop := ∀ j, lk j = true → D (fr j) → m (to j) = m (fr j) + gp j
def TS (lk : Nat → Bool) (fr to : Nat → Nat) (gp : Nat → Int32) (fx : Nat) (n cur : Nat → Int32) (ok : Bool) : Prop := (∀ k, ¬ Dm lk fr to fx k → cur k = n k) ∧ (ok = true → (∀ k, fx.testBit k = true → cur k = n k) ∧ LSo lk fr to gp (Dm lk fr to fx) cur) ∧ (ok = false → ¬ ∃ m, (∀ k, fx.testBit k = true → m k = n k) ∧ LSo lk fr to gp (Dm lk fr to fx) m)
def TI (lk : Nat → Bool) (fr to : Nat → Nat) (gp : Nat → Int32) (fx : Nat) (n : Nat → Int32) (kn : Nat) (cur : Nat → Int32) : Prop := sbt fx kn ∧ kn < 2 ^ 10 ∧ (∀ k, kn.testBit k = true → Dm lk fr to fx k) ∧ (∀ k, kn.testBit k = false → cur k = n k) ∧ (∀ m, (∀ k, fx.testBit k = true → m k = n k) → LSo lk fr to gp (Dm lk fr to fx) m → ∀ k, kn.testBit k = true → cur k = m k) ∧ (∀ k, fx.testBit k = true → cur k = n k)
section
variable {lk : Nat → Bool} {fr to : Nat → Nat} {gp : Nat → Int32} {fx kn : Nat} {n cur : Nat → Int32}
theorem Dm_self {k : Nat} (h : fx.testBit k = true) : Dm lk fr to fx k := ⟨k, h, clo_self⟩
theorem lt10_of {g k : Nat} (h : g < 2 ^ 10) (hk : g.testBit k = true) : k < 10 := by
  rcases Nat.lt_or_ge k 10 with h1 | h1
  · exact h1
  · rw [bits_out h h1] at hk; exact absurd hk (by decide)
theorem Dm_link (ho : rOk lk fr to) (hl : rLt lk) (hf : fx < 2 ^ 10) {j : Nat} (hj : lk j = true) : Dm lk fr to fx (fr j) ↔ Dm lk fr to fx (to j) := by
  constructor
  · rintro ⟨f, h1, h2⟩
    exact ⟨f, h1, (clo_closed ho hl (lt10_of hf h1) j hj).mp h2⟩
  · rintro ⟨f, h1, h2⟩
    exact ⟨f, h1, (clo_closed ho hl (lt10_of hf h1) j hj).mpr h2⟩
theorem Dm_in {g : Nat} (hc : clsd lk fr to g) (hs : sbt fx g) {k : Nat} (h : Dm lk fr to fx k) : g.testBit k = true := by
  obtain ⟨f, h1, h2⟩ := h
  exact clo_min hc (hs f h1) k h2
theorem TI_init (hf : fx < 2 ^ 10) : TI lk fr to gp fx n fx n := ⟨sbt.rf _, hf, fun _ h => Dm_self h, fun _ _ => rfl, fun _ h _ k hk => (h k hk).symm, fun _ _ => rfl⟩
theorem TI_fwd (ho : rOk lk fr to) (hl : rLt lk) (hf : fx < 2 ^ 10) (h : TI lk fr to gp fx n kn cur) {j : Nat} (hj : lk j = true) (h1 : kn.testBit (fr j) = true) (h2 : kn.testBit (to j) = false) : TI lk fr to gp fx n (kn ||| 2 ^ to j) (upd cur (to j) (cur (fr j) + gp j)) := by
  obtain ⟨a1, a2, a3, a4, a5, a6⟩ := h
  refine ⟨fun i hi => ?_, Nat.or_lt_two_pow a2 (pow_lt10 (ho j hj).2), fun k hk => ?_, fun k hk => ?_, fun m m1 m2 k hk => ?_, fun k hk => ?_⟩
  · rw [fb_bit_set, a1 i hi]; rfl
  · rw [fb_bit_set, Bool.or_eq_true, decide_eq_true_eq] at hk
    rcases hk with hk | rfl
    · exact a3 k hk
    · exact (Dm_link ho hl hf hj).mp (a3 _ h1)
  · rw [fb_bit_set, Bool.or_eq_false_iff, decide_eq_false_iff_not] at hk
    unfold upd
    rw [if_neg hk.2]
    exact a4 k hk.1
  · rw [fb_bit_set, Bool.or_eq_true, decide_eq_true_eq] at hk
    unfold upd
    by_cases e : k = to j
    · rw [if_pos e, e, m2 j hj (a3 _ h1), a5 m m1 m2 _ h1]
    · rw [if_neg e]
      exact a5 m m1 m2 k (hk.resolve_right e)
  · unfold upd
    have e : k ≠ to j := fun e => by rw [← e, a1 k hk] at h2; exact absurd h2 (by decide)
    rw [if_neg e]
    exact a6 k hk
theorem i32_sub {a b c : Int32} (h : a = b + c) : b = a - c := by grind
theorem i32_sub' {a b c : Int32} : a - b = c ↔ a = b + c := by grind
theorem TI_bwd (ho : rOk lk fr to) (hl : rLt lk) (hf : fx < 2 ^ 10) (h : TI lk fr to gp fx n kn cur) {j : Nat} (hj : lk j = true) (h1 : kn.testBit (to j) = true) (h2 : kn.testBit (fr j) = false) : TI lk fr to gp fx n (kn ||| 2 ^ fr j) (upd cur (fr j) (cur (to j) - gp j)) := by
  obtain ⟨a1, a2, a3, a4, a5, a6⟩ := h
  refine ⟨fun i hi => ?_, Nat.or_lt_two_pow a2 (pow_lt10 (ho j hj).1), fun k hk => ?_, fun k hk => ?_, fun m m1 m2 k hk => ?_, fun k hk => ?_⟩
  · rw [fb_bit_set, a1 i hi]; rfl
  · rw [fb_bit_set, Bool.or_eq_true, decide_eq_true_eq] at hk
    rcases hk with hk | rfl
    · exact a3 k hk
    · exact (Dm_link ho hl hf hj).mpr (a3 _ h1)
  · rw [fb_bit_set, Bool.or_eq_false_iff, decide_eq_false_iff_not] at hk
    unfold upd
    rw [if_neg hk.2]
    exact a4 k hk.1
  · rw [fb_bit_set, Bool.or_eq_true, decide_eq_true_eq] at hk
    unfold upd
    by_cases e : k = fr j
    · rw [if_pos e, e, a5 m m1 m2 _ h1]
      exact (i32_sub (m2 j hj ((Dm_link ho hl hf hj).mpr (a3 _ h1)))).symm
    · rw [if_neg e]
      exact a5 m m1 m2 k (hk.resolve_right e)
  · unfold upd
    have e : k ≠ fr j := fun e => by rw [← e, a1 k hk] at h2; exact absurd h2 (by decide)
    rw [if_neg e]
    exact a6 k hk
theorem TI_bad (h : TI lk fr to gp fx n kn cur) {j : Nat} (hj : lk j = true) (h1 : kn.testBit (fr j) = true) (h2 : kn.testBit (to j) = true) (h3 : cur (to j) ≠ cur (fr j) + gp j) : TS lk fr to gp fx n cur false := by
  obtain ⟨a1, a2, a3, a4, a5, a6⟩ := h
  refine ⟨fun k hk => ?_, fun q => absurd q (by decide), fun _ => ?_⟩
  · apply a4
    cases e : kn.testBit k with
    | false => rfl
    | true => exact absurd (a3 k e) hk
  · rintro ⟨m, m1, m2⟩
    apply h3
    rw [a5 m m1 m2 _ h1, a5 m m1 m2 _ h2]
    exact m2 j hj (a3 _ h1)
theorem TI_good (h : TI lk fr to gp fx n kn cur) (hc : clsd lk fr to kn) (h3 : ∀ j, lk j = true → kn.testBit (fr j) = true → cur (to j) = cur (fr j) + gp j) : TS lk fr to gp fx n cur true := by
  obtain ⟨a1, a2, a3, a4, a5, a6⟩ := h
  refine ⟨fun k hk => ?_, fun _ => ⟨a6, fun j hj hD => h3 j hj (Dm_in hc a1 hD)⟩, fun q => absurd q (by decide)⟩
  apply a4
  cases e : kn.testBit k with
  | false => rfl
  | true => exact absurd (a3 k e) hk
def mks (p : Nat → Bool) : Nat → Nat
  | 0 => 0
  | n + 1 => mks p n ||| (if p n = true then 2 ^ n else 0)
theorem mks_bit (p : Nat → Bool) (i : Nat) : ∀ n, (mks p n).testBit i = (decide (i < n) && p i)
  | 0 => by simp [mks]
  | n + 1 => by
    show (mks p n ||| (if p n = true then 2 ^ n else 0)).testBit i = _
    rw [Nat.testBit_or, mks_bit p i n]
    by_cases e : i = n
    · subst e
      cases h : p i <;> simp [Nat.testBit_two_pow]
    · have : (if p n = true then 2 ^ n else 0).testBit i = false := by
        split
        · rw [Nat.testBit_two_pow, decide_eq_false_iff_not]; omega
        · exact Nat.zero_testBit i
      rw [this, Bool.or_false]
      congr 1
      exact decide_eq_decide.mpr (by omega)
theorem TS_uniq {c1 c2 : Nat → Int32} (ho : rOk lk fr to) (hl : rLt lk) (hf : fx < 2 ^ 10) (h1 : TS lk fr to gp fx n c1 true) (h2 : TS lk fr to gp fx n c2 true) (k : Nat) : c1 k = c2 k := by
  obtain ⟨a1, a2, -⟩ := h1
  obtain ⟨b1, b2, -⟩ := h2
  obtain ⟨a2, a3⟩ := a2 rfl
  obtain ⟨b2, b3⟩ := b2 rfl
  by_cases hD : Dm lk fr to fx k
  · obtain ⟨f, f1, f2⟩ := hD
    have hf10 := lt10_of hf f1
    have hc : clsd lk fr to (mks (fun i => (clo lk fr to f).testBit i && decide (c1 i = c2 i)) 10) := by
      intro j hj
      obtain ⟨o1, o2⟩ := ho j hj
      have q := clo_closed ho hl hf10 j hj
      rw [mks_bit, mks_bit]
      simp only [o1, o2, decide_true, Bool.true_and, Bool.and_eq_true, decide_eq_true_eq]
      constructor
      · rintro ⟨p1, p2⟩
        refine ⟨q.mp p1, ?_⟩
        rw [a3 j hj ⟨f, f1, p1⟩, b3 j hj ⟨f, f1, p1⟩, p2]
      · rintro ⟨p1, p2⟩
        have p3 := q.mpr p1
        refine ⟨p3, ?_⟩
        rw [i32_sub (a3 j hj ⟨f, f1, p3⟩), i32_sub (b3 j hj ⟨f, f1, p3⟩), p2]
    have := clo_min (s := f) hc (by rw [mks_bit]; simp [hf10, clo_self, a2 f f1, b2 f f1]) k f2
    rw [mks_bit] at this
    simp only [Bool.and_eq_true, decide_eq_true_eq] at this
    exact this.2.2
  · rw [a1 k hD, b1 k hD]
theorem TS_excl {c1 c2 : Nat → Int32} (h1 : TS lk fr to gp fx n c1 true) (h2 : TS lk fr to gp fx n c2 false) : False := h2.2.2 rfl ⟨c1, (h1.2.1 rfl).1, (h1.2.1 rfl).2⟩
theorem TS_0 : TS lk fr to gp 0 n n true := ⟨fun _ _ => rfl, fun _ => ⟨fun _ _ => rfl, fun j _ hD => by obtain ⟨f, h, -⟩ := hD; rw [Nat.zero_testBit] at h; exact absurd h (by decide)⟩, fun q => absurd q (by decide)⟩
theorem Dm_or {l k : Nat} : Dm lk fr to (fx ||| 2 ^ l) k ↔ Dm lk fr to fx k ∨ (clo lk fr to l).testBit k = true := by
  constructor
  · rintro ⟨f, f1, f2⟩
    rw [fb_bit_set, Bool.or_eq_true, decide_eq_true_eq] at f1
    rcases f1 with f1 | rfl
    · exact Or.inl ⟨f, f1, f2⟩
    · exact Or.inr f2
  · rintro (⟨f, f1, f2⟩ | h)
    · exact ⟨f, by rw [fb_bit_set, f1]; rfl, f2⟩
    · exact ⟨l, by rw [fb_bit_set]; simp, h⟩
theorem Dm_one {l k : Nat} : Dm lk fr to (2 ^ l) k ↔ (clo lk fr to l).testBit k = true := by
  constructor
  · rintro ⟨f, f1, f2⟩
    rw [Nat.testBit_two_pow, decide_eq_true_eq] at f1
    subst f1; exact f2
  · intro h
    exact ⟨l, Nat.testBit_two_pow_self, h⟩
theorem TS_join {c1 c2 : Nat → Int32} {o1 o2 : Bool} {l : Nat} (ho : rOk lk fr to) (hl : rLt lk) (hf : fx < 2 ^ 10) (hl10 : l < 10) (hd : ∀ k, Dm lk fr to fx k → (clo lk fr to l).testBit k = false) (h1 : TS lk fr to gp fx n c1 o1) (h2 : TS lk fr to gp (2 ^ l) c1 c2 o2) : TS lk fr to gp (fx ||| 2 ^ l) n c2 (o1 && o2) := by
  obtain ⟨a1, a2, a3⟩ := h1
  obtain ⟨b1, b2, b3⟩ := h2
  have hcl := clo_closed ho hl hl10
  have hnl : ∀ k, (clo lk fr to l).testBit k = true → ¬ Dm lk fr to fx k := fun k hk hD => by rw [hd k hD] at hk; exact absurd hk (by decide)
  have hn2 : ∀ k, Dm lk fr to fx k → c2 k = c1 k := fun k hk => b1 k (fun q => by rw [Dm_one, hd k hk] at q; exact absurd q (by decide))
  refine ⟨fun k hk => ?_, fun q => ?_, fun q => ?_⟩
  · rw [Dm_or] at hk
    rw [b1 k (fun q => hk (Or.inr (Dm_one.mp q))), a1 k (fun q => hk (Or.inl q))]
  · rw [Bool.and_eq_true] at q
    obtain ⟨a2, a4⟩ := a2 q.1
    obtain ⟨b2, b4⟩ := b2 q.2
    refine ⟨fun k hk => ?_, fun j hj hD => ?_⟩
    · rw [fb_bit_set, Bool.or_eq_true, decide_eq_true_eq] at hk
      rcases hk with hk | rfl
      · rw [hn2 k (Dm_self hk), a2 k hk]
      · rw [b2 k Nat.testBit_two_pow_self, a1 k (hnl k clo_self)]
    · rw [Dm_or] at hD
      rcases hD with hD | hD
      · rw [hn2 _ hD, hn2 _ ((Dm_link ho hl hf hj).mp hD)]
        exact a4 j hj hD
      · exact b4 j hj (Dm_one.mpr hD)
  · rintro ⟨m, m1, m2⟩
    have hx : o1 = false ∨ o2 = false := by
      cases o1 <;> cases o2 <;> simp_all
    have hm1 : (∀ k, fx.testBit k = true → m k = n k) ∧ LSo lk fr to gp (Dm lk fr to fx) m := ⟨fun k hk => m1 k (by rw [fb_bit_set, hk]; rfl), fun j hj hD => m2 j hj (Dm_or.mpr (Or.inl hD))⟩
    rcases hx with hx | hx
    · exact a3 hx ⟨m, hm1.1, hm1.2⟩
    · refine b3 hx ⟨m, fun k hk => ?_, fun j hj hD => m2 j hj (Dm_or.mpr (Or.inr (Dm_one.mp hD)))⟩
      rw [Nat.testBit_two_pow, decide_eq_true_eq] at hk
      subst hk
      rw [m1 l (by rw [fb_bit_set]; simp), a1 l (hnl l clo_self)]
end
