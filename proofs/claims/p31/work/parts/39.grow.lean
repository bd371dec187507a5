/-! a class of shapes gets a size -/
def rp (lk : Nat → Bool) (fr to : Nat → Nat) (ld c : Nat) : Nat := if (clo lk fr to c).testBit ld = true then ld else low (clo lk fr to c) 10 0
def fixF (lk : Nat → Bool) (fr to : Nat → Nat) (ld : Nat) (ch : Nat → Bool) : Nat → Nat
  | 0 => 0
  | n + 1 => if ch n = true then fixF lk fr to ld ch n ||| 2 ^ rp lk fr to ld n else fixF lk fr to ld ch n
theorem bit_ne {g i : Nat} (h : g.testBit i = true) : g ≠ 0 := fun q => by rw [q, Nat.zero_testBit] at h; exact absurd h (by decide)
section
variable {lk : Nat → Bool} {fr to : Nat → Nat} {ld : Nat} {ch : Nat → Bool}
theorem rp_in (ho : rOk lk fr to) {c : Nat} (hc : c < 10) : (clo lk fr to c).testBit (rp lk fr to ld c) = true := by
  unfold rp
  split
  · next h => exact h
  · exact low_in (clo_lt ho hc) (bit_ne clo_self)
theorem rp_lt (ho : rOk lk fr to) {c : Nat} (hc : c < 10) : rp lk fr to ld c < 10 := clo_bit ho hc (rp_in ho hc)
theorem fixF_lt (ho : rOk lk fr to) : ∀ {n : Nat}, n ≤ 10 → fixF lk fr to ld ch n < 2 ^ 10
  | 0, _ => by show 0 < 2 ^ 10; omega
  | n + 1, h => by
    show (if ch n = true then fixF lk fr to ld ch n ||| 2 ^ rp lk fr to ld n else fixF lk fr to ld ch n) < 2 ^ 10
    have := fixF_lt ho (n := n) (by omega)
    split
    · exact Nat.or_lt_two_pow this (pow_lt10 (rp_lt ho (by omega)))
    · exact this
theorem fixF_sub {m : Nat} : ∀ {n : Nat}, m ≤ n → sbt (fixF lk fr to ld ch m) (fixF lk fr to ld ch n) := by
  intro n h
  induction h with
  | refl => exact sbt.rf _
  | step _ ih =>
    refine ih.tr ?_
    intro i hi
    show (if ch _ = true then _ else _ : Nat).testBit i = true
    split
    · rw [fb_bit_set, hi]; rfl
    · exact hi
theorem fixF_in {c n : Nat} (h : c < n) (hc : ch c = true) : (fixF lk fr to ld ch n).testBit (rp lk fr to ld c) = true := by
  refine fixF_sub (m := c + 1) h _ ?_
  show (if ch c = true then _ else _ : Nat).testBit _ = true
  rw [if_pos hc, fb_bit_set]
  simp
theorem fixF_old {i c : Nat} (ho : rOk lk fr to) (hl : rLt lk) (hc10 : c < 10) (hci : c < i) (hc : ch c = true) (hi : (clo lk fr to c).testBit i = true) : fixF lk fr to ld ch (i + 1) = fixF lk fr to ld ch i := by
  show (if ch i = true then fixF lk fr to ld ch i ||| 2 ^ rp lk fr to ld i else fixF lk fr to ld ch i) = _
  split
  · apply or_in
    have e : rp lk fr to ld i = rp lk fr to ld c := by unfold rp; rw [clo_sym ho hl hc10 hi]
    rw [e]
    exact fixF_in hci hc
  · rfl
theorem fixF_cong {ch' : Nat → Bool} : ∀ {n : Nat}, (∀ k, k < n → ch k = ch' k) → fixF lk fr to ld ch n = fixF lk fr to ld ch' n
  | 0, _ => rfl
  | n + 1, h => by
    show (if ch n = true then fixF lk fr to ld ch n ||| 2 ^ rp lk fr to ld n else fixF lk fr to ld ch n) = (if ch' n = true then fixF lk fr to ld ch' n ||| 2 ^ rp lk fr to ld n else fixF lk fr to ld ch' n)
    rw [fixF_cong (n := n) (fun k hk => h k (by omega)), h n (by omega)]
theorem fixF_nil : ∀ {n : Nat}, (∀ k, k < n → ch k = false) → fixF lk fr to ld ch n = 0
  | 0, _ => rfl
  | n + 1, h => by
    show (if ch n = true then fixF lk fr to ld ch n ||| 2 ^ rp lk fr to ld n else fixF lk fr to ld ch n) = 0
    rw [h n (by omega), if_neg (by decide)]
    exact fixF_nil (fun k hk => h k (by omega))
/-- what is told from the fixed shapes is what is reached from those that were changed -/
theorem fixF_Dm (ho : rOk lk fr to) (hl : rLt lk) {k : Nat} : ∀ {n : Nat}, n ≤ 10 → (Dm lk fr to (fixF lk fr to ld ch n) k ↔ ∃ c, c < n ∧ ch c = true ∧ (clo lk fr to c).testBit k = true)
  | 0, _ => by
    constructor
    · rintro ⟨f, h, -⟩
      exact absurd h (by show ¬ (0 : Nat).testBit f = true; rw [Nat.zero_testBit]; decide)
    · rintro ⟨c, h, -⟩; omega
  | n + 1, h => by
    have ih := fixF_Dm ho hl (k := k) (n := n) (by omega)
    show Dm lk fr to (if ch n = true then fixF lk fr to ld ch n ||| 2 ^ rp lk fr to ld n else fixF lk fr to ld ch n) k ↔ _
    by_cases e : ch n = true
    · rw [if_pos e, Dm_or, ih, clo_sym ho hl (by omega) (rp_in ho (by omega))]
      constructor
      · rintro (⟨c, h1, h2⟩ | h2)
        · exact ⟨c, by omega, h2⟩
        · exact ⟨n, by omega, e, h2⟩
      · rintro ⟨c, h1, h2, h3⟩
        by_cases ec : c = n
        · subst ec; exact Or.inr h3
        · exact Or.inl ⟨c, by omega, h2, h3⟩
    · rw [if_neg e, ih]
      constructor
      · rintro ⟨c, h1, h2⟩; exact ⟨c, by omega, h2⟩
      · rintro ⟨c, h1, h2, h3⟩
        by_cases ec : c = n
        · subst ec; exact absurd h2 e
        · exact ⟨c, by omega, h2, h3⟩
end
theorem not7 {g p : Nat} : nI g &&& (nI p ^^^ (-1 : Int32)) = nI (g &&& (p ^^^ (2 ^ 32 - 1))) := by
  rw [show (-1 : Int32) = nI (2 ^ 32 - 1) from by decide, nx_xor, fa_and]
theorem not_bit {g p i : Nat} (hg : g < 2 ^ 31) : (g &&& (p ^^^ (2 ^ 32 - 1))).testBit i = (g.testBit i && !p.testBit i) := by
  rw [Nat.testBit_and, Nat.testBit_xor, Nat.testBit_two_pow_sub_one]
  by_cases hi : i < 31
  · have : i < 32 := by omega
    simp [this]
  · have : g.testBit i = false := Nat.testBit_lt_two_pow (Nat.lt_of_lt_of_le hg (Nat.pow_le_pow_right (by omega) (by omega)))
    rw [this]
    rfl
def grF (kd : Nat → Int32) (fr to : Nat → Nat) (fo x g ld : Nat) (by' : Int32) : Nat := if by' = 0 then 0 else fixF (lkf fo kd x) fr to ld (fun k => g.testBit k) 10
def GP (S : HS) (b : Nat) (th fo : Nat) (num tie : Nat → Int32) (kd : Nat → Int32) (fr to : Nat → Nat) (lb : Nat → Bool) (g x ld : Nat) (by' : Int32) (r : HS × Int32) : Prop := ∃ num' ok, r = (wB S b (nI th) (nI fo) num' tie, bI ok) ∧
  (ok = true → (∀ k, g.testBit k = true → shG (x + 2) by' lb num k = true) ∧ offc x (shN g (x + 2) by' num 10) num' ∧ TS (lkf fo kd x) fr to (fun j => gapC (shN g (x + 2) by' num 10) tie kd fr j x) (grF kd fr to fo x g ld by') (col num x) (col num' x) true ∧ (by' ≠ 0 → ∀ k, th.testBit k = true → rngB (num' (4 * k + x)) x = true)) ∧
  (ok = false → (∃ k, g.testBit k = true ∧ shG (x + 2) by' lb num k = false) ∨ (∃ c, TS (lkf fo kd x) fr to (fun j => gapC (shN g (x + 2) by' num 10) tie kd fr j x) (grF kd fr to fo x g ld by') (col num x) c false) ∨ (∃ c, TS (lkf fo kd x) fr to (fun j => gapC (shN g (x + 2) by' num 10) tie kd fr j x) (grF kd fr to fo x g ld by') (col num x) c true ∧ ∃ k, th.testBit k = true ∧ rngB (c k) x = false))
theorem nI_p2 {x : Nat} : nI x + (2 : Int32) = nI (x + 2) := by rw [show (2 : Int32) = nI 2 from rfl, nI_add]
section
variable {S : HS} {b nr : Nat} {kd : Nat → Int32} {fr to : Nat → Nat} {lb : Nat → Bool} {th fo : Nat}
theorem cl_grow (H : HC S b nr kd fr to lb th fo) {g x ld : Nat} (hgt : sbt g th) (hg : g < 2 ^ 10) (hg0 : g ≠ 0) (hx : x < 2) (hld : ld < 10) (by' : Int32) (num tie : Nat → Int32) :
    Ok (f_X0_growClass b (nI g) (nI x) by' (nI ld) (wB S b (nI th) (nI fo) num tie)) (GP S b th fo num tie kd fr to lb g x ld by') := by
  have H' := H
  obtain ⟨hb, hR, hf, ht, hL⟩ := H
  have ho : rOk (lkf fo kd x) fr to := lkf_ok hR hf
  have hl : rLt (lkf fo kd x) := lkf_lt hR hf
  unfold f_X0_growClass
  rw [nI_p2]
  refine Ok.bind (cl_shift H' hgt hg (by omega) by' num tie) ?_
  rintro r ⟨num1, ok1, rfl, hok, hbad⟩
  dsimp only
  rw [ifb, nz_0, nz_1]
  cases ok1 with
  | false =>
    rw [if_neg (by decide), if_pos rfl]
    exact ⟨_, rfl, num1, false, rfl, fun q => absurd q (by decide), fun _ => Or.inl (hbad rfl)⟩
  | true =>
    rw [if_pos rfl]
    obtain ⟨rfl, hall⟩ := hok rfl
    have hc0 : col (shN g (x + 2) by' num 10) x = col num x := by
      funext k
      show shN g (x + 2) by' num 10 (4 * k + x) = num (4 * k + x)
      unfold shN
      rw [if_neg (by omega)]
    by_cases e0 : by' = 0
    · rw [if_pos e0, if_pos rfl]
      refine ⟨_, rfl, _, true, rfl, fun _ => ⟨hall, fun _ _ => rfl, ?_, fun q => absurd e0 q⟩, fun q => absurd q (by decide)⟩
      unfold grF
      rw [if_pos e0, hc0]
      exact TS_0
    · rw [if_neg e0]
      unfold f_X0_growClass_b29
      refine ok_fx 10 (fun i v => ∃ left, v = (wB S b (nI th) (nI fo) (shN g (x + 2) by' num 10) tie, nI (fixF (lkf fo kd x) fr to ld (fun k => g.testBit k) i), nI left, nI i) ∧ left < 2 ^ 10 ∧ ∀ k, left.testBit k = true ↔ g.testBit k = true ∧ ∀ c, c < i → g.testBit c = true → (clo (lkf fo kd x) fr to c).testBit k = false) ?_ ?_ (FU_gt (by omega)) ⟨g, rfl, hg, fun k => ⟨fun h => ⟨h, fun c hc => absurd hc (by omega)⟩, fun h => h.1⟩⟩
      · rintro i v rec hi ⟨left, rfl, hlt, hlf⟩ hrec
        have hR' : RC (wB S b (nI th) (nI fo) (shN g (x + 2) by' num 10) tie) nr kd fr to := wB_RC hb hR
        have hcl := clo_lt ho hi
        have hfl := fixF_lt (ld := ld) (ch := fun k => g.testBit k) ho (n := i) (by omega)
        unfold F_X0_growClass_b29 f_X0_growClass_b98 f_X0_growClass_b86 f_X0_growClass_b98
        dsimp only
        rw [if_neg (le10n hi), hasI7 _ (by omega) (by omega), bsm, ifb, nI_1]
        cases e1 : left.testBit i with
        | false =>
          rw [if_neg (by decide)]
          refine hrec _ ⟨left, ?_, hlt, fun k => ?_⟩
          · have : fixF (lkf fo kd x) fr to ld (fun k => g.testBit k) (i + 1) = fixF (lkf fo kd x) fr to ld (fun k => g.testBit k) i := by
              cases e2 : g.testBit i with
              | false =>
                show (if g.testBit i = true then _ else _) = _
                rw [e2, if_neg (by decide)]
              | true =>
                by_cases e3 : ∃ c, c < i ∧ g.testBit c = true ∧ (clo (lkf fo kd x) fr to c).testBit i = true
                · obtain ⟨c, c1, c2, c3⟩ := e3
                  exact fixF_old ho hl (by omega) c1 c2 c3
                · have := (hlf i).mpr ⟨e2, fun c c1 c2 => by
                    cases e4 : (clo (lkf fo kd x) fr to c).testBit i with
                    | false => rfl
                    | true => exact absurd ⟨c, c1, c2, e4⟩ e3⟩
                  rw [e1] at this
                  exact absurd this (by decide)
            rw [this]
          · rw [hlf k]
            constructor
            · rintro ⟨h1, h2⟩
              refine ⟨h1, fun c c1 c2 => ?_⟩
              rcases Nat.lt_succ_iff_lt_or_eq.mp c1 with c1 | rfl
              · exact h2 c c1 c2
              · cases e4 : (clo (lkf fo kd x) fr to c).testBit k with
                | false => rfl
                | true =>
                  exfalso
                  have e5 : left.testBit c = true := (hlf c).mpr ⟨c2, fun d d1 d2 => by
                    cases e6 : (clo (lkf fo kd x) fr to d).testBit c with
                    | false => rfl
                    | true =>
                      have := clo_sym ho hl (by omega) e6
                      rw [this, h2 d d1 d2] at e4
                      exact absurd e4 (by decide)⟩
                  rw [e1] at e5
                  exact absurd e5 (by decide)
            · rintro ⟨h1, h2⟩
              exact ⟨h1, fun c c1 c2 => h2 c (by omega) c2⟩
        | true =>
          rw [if_pos rfl, group7 wB_fo hR' hf hi (by omega), bsm, hasI7 _ (by omega) (by omega), bsm, ifb, shl1 (by omega), not7, low_bit hcl (bit_ne clo_self), fa_or, fa_or]
          have hgi : g.testBit i = true := ((hlf i).mp e1).1
          have hfx : fixF (lkf fo kd x) fr to ld (fun k => g.testBit k) (i + 1) = fixF (lkf fo kd x) fr to ld (fun k => g.testBit k) i ||| 2 ^ rp (lkf fo kd x) fr to ld i := by
            show (if g.testBit i = true then _ else _) = _
            rw [if_pos hgi]
          have hfin : Ok (rec (wB S b (nI th) (nI fo) (shN g (x + 2) by' num 10) tie, nI (fixF (lkf fo kd x) fr to ld (fun k => g.testBit k) i ||| 2 ^ rp (lkf fo kd x) fr to ld i), nI (left &&& (clo (lkf fo kd x) fr to i ^^^ (2 ^ 32 - 1))), nI (i + 1))) (GP S b th fo num tie kd fr to lb g x ld by') := by
            refine hrec _ ⟨_, by rw [hfx], Nat.lt_of_le_of_lt Nat.and_le_left hlt, fun k => ?_⟩
            rw [not_bit (by omega), Bool.and_eq_true, hlf k, Bool.not_eq_true']
            constructor
            · rintro ⟨⟨h1, h2⟩, h3⟩
              refine ⟨h1, fun c c1 c2 => ?_⟩
              rcases Nat.lt_succ_iff_lt_or_eq.mp c1 with c1 | rfl
              · exact h2 c c1 c2
              · exact h3
            · rintro ⟨h1, h2⟩
              exact ⟨⟨h1, fun c c1 c2 => h2 c (by omega) c2⟩, h2 i (by omega) hgi⟩
          unfold rp at hfin
          by_cases e2 : (clo (lkf fo kd x) fr to i).testBit ld = true
          · rw [if_pos e2]
            rw [if_pos e2] at hfin
            exact hfin
          · rw [if_neg e2]
            rw [if_neg e2] at hfin
            exact hfin
      · rintro v rec ⟨left, rfl, hlt, hlf⟩
        have hF10 := fixF_lt (ld := ld) (ch := fun k => g.testBit k) ho (n := 10) (by omega)
        have hF0 : fixF (lkf fo kd x) fr to ld (fun k => g.testBit k) 10 ≠ 0 := bit_ne (fixF_in (c := low g 10 0) (lt10_of hg (low_in hg hg0)) (low_in hg hg0))
        have hfx : grF kd fr to fo x g ld by' = fixF (lkf fo kd x) fr to ld (fun k => g.testBit k) 10 := by unfold grF; rw [if_neg e0]
        have hend : ∀ r : HS × Int32, TP S b th fo (shN g (x + 2) by' num 10) tie kd fr to (fixF (lkf fo kd x) fr to ld (fun k => g.testBit k) 10) x r → Ok (f_X0_growClass_b128 b (nI g) (nI x) by' (nI ld) r.1 r.2) (GP S b th fo num tie kd fr to lb g x ld by') := by
          rintro r ⟨num', ok, rfl, h1, h2⟩
          rw [hc0] at h2
          unfold f_X0_growClass_b128 f_X0_growClass_b147 f_X0_growClass_b148
          dsimp only
          rw [ifb, nz_0, nz_1]
          cases ok with
          | false =>
            rw [if_neg (by decide), if_pos rfl]
            exact ⟨_, rfl, num', false, rfl, fun q => absurd q (by decide), fun _ => Or.inr (Or.inl ⟨_, by rw [hfx]; exact h2⟩)⟩
          | true =>
            rw [if_pos rfl]
            refine Ok.bind (cl_rng H' (by omega) num' tie) ?_
            rintro r ⟨ok2, rfl, k1, k2⟩
            rw [ifb]
            cases ok2 with
            | false =>
              rw [if_neg (by decide), if_pos rfl]
              exact ⟨_, rfl, num', false, rfl, fun q => absurd q (by decide), fun _ => Or.inr (Or.inr ⟨_, by rw [hfx]; exact h2, k2 rfl⟩)⟩
            | true =>
              rw [if_pos rfl, if_pos rfl]
              exact ⟨_, rfl, num', true, rfl, fun _ => ⟨hall, h1, by rw [hfx]; exact h2, fun _ => k1 rfl⟩, fun q => absurd q (by decide)⟩
        unfold F_X0_growClass_b29
        dsimp only
        rw [if_pos (by decide)]
        by_cases e2 : (wB S b (nI th) (nI fo) (shN g (x + 2) by' num 10) tie).1 b 2 = 0
        · rw [if_pos e2]
          exact Ok.bind (cl_walk H' hx hF10 _ tie) hend
        · rw [if_neg e2]
          exact Ok.bind (cl_rounds H' hx hF10 hF0 _ tie) hend
end
