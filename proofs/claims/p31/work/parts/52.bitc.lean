/-! how many bits a set has, as the JDK counts them -/
def vb : List Nat → Nat
  | [] => 0
  | b :: l => 256 * vb l + b
def mkm (m : Nat) : Nat → Nat
  | 0 => 0
  | n + 1 => 256 * mkm m n + m
theorem and_split {k a m : Nat} (r M : Nat) (ha : a < 2 ^ k) (hm : m < 2 ^ k) : (2 ^ k * r + a) &&& (2 ^ k * M + m) = 2 ^ k * (r &&& M) + (a &&& m) := by
  apply Nat.eq_of_testBit_eq
  intro i
  have h3 : a &&& m < 2 ^ k := Nat.lt_of_le_of_lt Nat.and_le_left ha
  rw [Nat.testBit_and, Nat.testBit_two_pow_mul_add _ ha, Nat.testBit_two_pow_mul_add _ hm, Nat.testBit_two_pow_mul_add _ h3]
  by_cases h : i < k
  · rw [if_pos h, if_pos h, if_pos h, Nat.testBit_and]
  · rw [if_neg h, if_neg h, if_neg h, Nat.testBit_and]
theorem vb_and {m : Nat} (hm : m < 256) : ∀ l : List Nat, (∀ b ∈ l, b < 256) → vb l &&& mkm m l.length = vb (l.map fun b => b &&& m)
  | [], _ => by show 0 &&& 0 = 0; rfl
  | b :: l, h => by
    show (2 ^ 8 * vb l + b) &&& (2 ^ 8 * mkm m l.length + m) = 256 * vb (l.map fun b => b &&& m) + (b &&& m)
    rw [and_split _ _ (h b (List.mem_cons_self)) hm, vb_and hm l (fun c hc => h c (List.mem_cons_of_mem _ hc))]
theorem low_and {u t m j : Nat} (hu : u < 2 ^ j) (hm : m < 2 ^ j) : (2 ^ j * t + u) &&& m = u &&& m := by
  have := and_split (k := j) t 0 hu hm
  rw [Nat.mul_zero, Nat.zero_add, Nat.and_zero, Nat.mul_zero, Nat.zero_add] at this
  exact this
theorem vb_sh1 {m : Nat} (hm : m < 2 ^ 7) : ∀ l : List Nat, (∀ b ∈ l, b < 256) → (vb l / 2) &&& mkm m l.length = vb (l.map fun b => (b / 2) &&& m)
  | [], _ => by show 0 / 2 &&& 0 = 0; rfl
  | b :: l, h => by
    have hb := h b (List.mem_cons_self)
    have e : (256 * vb l + b) / 2 = 2 ^ 8 * (vb l / 2) + (2 ^ 7 * (vb l % 2) + b / 2) := by omega
    show ((256 * vb l + b) / 2) &&& (2 ^ 8 * mkm m l.length + m) = 256 * vb (l.map fun b => (b / 2) &&& m) + ((b / 2) &&& m)
    rw [e, and_split _ _ (by omega) (by omega), vb_sh1 hm l (fun c hc => h c (List.mem_cons_of_mem _ hc)), low_and (by omega) hm]
theorem vb_sh2 {m : Nat} (hm : m < 2 ^ 6) : ∀ l : List Nat, (∀ b ∈ l, b < 256) → (vb l / 4) &&& mkm m l.length = vb (l.map fun b => (b / 4) &&& m)
  | [], _ => by show 0 / 4 &&& 0 = 0; rfl
  | b :: l, h => by
    have hb := h b (List.mem_cons_self)
    have e : (256 * vb l + b) / 4 = 2 ^ 8 * (vb l / 4) + (2 ^ 6 * (vb l % 4) + b / 4) := by omega
    show ((256 * vb l + b) / 4) &&& (2 ^ 8 * mkm m l.length + m) = 256 * vb (l.map fun b => (b / 4) &&& m) + ((b / 4) &&& m)
    rw [e, and_split _ _ (by omega) (by omega), vb_sh2 hm l (fun c hc => h c (List.mem_cons_of_mem _ hc)), low_and (by omega) hm]
theorem vb_sub {f : Nat → Nat} : ∀ l : List Nat, (∀ b ∈ l, f b ≤ b) → vb (l.map f) ≤ vb l ∧ vb l - vb (l.map f) = vb (l.map fun b => b - f b)
  | [], _ => ⟨Nat.le_refl _, rfl⟩
  | b :: l, h => by
    have hb := h b (List.mem_cons_self)
    obtain ⟨h1, h2⟩ := vb_sub l (fun c hc => h c (List.mem_cons_of_mem _ hc))
    have e1 : vb ((b :: l).map f) = 256 * vb (l.map f) + f b := rfl
    have e2 : vb (b :: l) = 256 * vb l + b := rfl
    have e3 : vb ((b :: l).map fun b => b - f b) = 256 * vb (l.map fun b => b - f b) + (b - f b) := rfl
    rw [e1, e2, e3, ← h2]
    omega
theorem vb_add {f g : Nat → Nat} : ∀ l : List Nat, vb (l.map f) + vb (l.map g) = vb (l.map fun b => f b + g b)
  | [] => rfl
  | b :: l => by
    have ih := vb_add (f := f) (g := g) l
    have e1 : vb ((b :: l).map f) = 256 * vb (l.map f) + f b := rfl
    have e2 : vb ((b :: l).map g) = 256 * vb (l.map g) + g b := rfl
    have e3 : vb ((b :: l).map fun b => f b + g b) = 256 * vb (l.map fun b => f b + g b) + (f b + g b) := rfl
    rw [e1, e2, e3, ← ih]
    omega
theorem vb_sh4 : ∀ l : List Nat, (∀ b ∈ l, b ≤ 68 ∧ b % 16 ≤ 4) → (vb l + vb l / 16) &&& mkm 15 l.length = vb (l.map fun b => (b + b / 16) % 16)
  | [], _ => rfl
  | b :: l, h => by
    have hb := h b (List.mem_cons_self)
    have hV : vb l % 16 ≤ 4 := by
      match l, h with
      | [], _ => show 0 % 16 ≤ 4; decide
      | c :: l, h =>
        have := (h c (List.mem_cons_of_mem _ (List.mem_cons_self))).2
        have e : vb (c :: l) = 256 * vb l + c := rfl
        omega
    have e : (256 * vb l + b) + (256 * vb l + b) / 16 = 2 ^ 8 * (vb l + vb l / 16) + (2 ^ 4 * ((b + b / 16) / 16 + vb l % 16) + (b + b / 16) % 16) := by omega
    show ((256 * vb l + b) + (256 * vb l + b) / 16) &&& (2 ^ 8 * mkm 15 l.length + 15) = 256 * vb (l.map fun b => (b + b / 16) % 16) + (b + b / 16) % 16
    rw [e, and_split _ _ (by omega) (by omega), vb_sh4 l (fun c hc => h c (List.mem_cons_of_mem _ hc)), low_and (by omega) (by omega)]
    congr 1
    have : ∀ x, x < 16 → x &&& 15 = x := by decide
    exact this _ (by omega)
def bts : Nat → Nat → List Nat
  | 0, _ => []
  | n + 1, x => x % 256 :: bts n (x / 256)
theorem bts_len : ∀ n x, (bts n x).length = n
  | 0, _ => rfl
  | n + 1, x => by show (bts n (x / 256)).length + 1 = n + 1; rw [bts_len n]
theorem bts_lt : ∀ n x, ∀ b ∈ bts n x, b < 256
  | 0, _, b, h => by cases h
  | n + 1, x, b, h => by
    rcases List.mem_cons.mp h with rfl | h
    · exact Nat.mod_lt _ (by decide)
    · exact bts_lt n _ b h
theorem bts_vb : ∀ n x, x < 256 ^ n → vb (bts n x) = x
  | 0, x, h => by
    have : x = 0 := by omega
    rw [this]; rfl
  | n + 1, x, h => by
    have e : vb (bts (n + 1) x) = 256 * vb (bts n (x / 256)) + x % 256 := rfl
    rw [e, bts_vb n (x / 256) (by rw [Nat.pow_succ] at h; omega)]
    omega
def b1f (b : Nat) : Nat := b - ((b / 2) &&& 85)
def b2f (b : Nat) : Nat := (b &&& 51) + ((b / 4) &&& 51)
def b3f (b : Nat) : Nat := (b + b / 16) % 16
theorem bf_all : ∀ b, b < 256 → ((b / 2) &&& 85) ≤ b ∧ b1f b < 256 ∧ (b2f (b1f b) ≤ 68 ∧ b2f (b1f b) % 16 ≤ 4) ∧ b3f (b2f (b1f b)) = fb_ct (fun i => b.testBit i) 8 ∧ b3f (b2f (b1f b)) ≤ 8 := by decide +kernel
theorem lushrN {n : Nat} (k : Nat) (hn : n < 2 ^ 64) (hk : k < 64) : lushr (lN n) (nI k) = lN (n / 2 ^ k) := wb_shr hn hk
theorem ct_bytes (x : Nat) : fb_ct (fun i => x.testBit i) 64 = ((bts 8 x).map fun b => fb_ct (fun i => b.testBit i) 8).sum := by
  have key : ∀ n x, fb_ct (fun i => x.testBit i) (8 * n) = ((bts n x).map fun b => fb_ct (fun i => b.testBit i) 8).sum := by
    intro n
    induction n with
    | zero => intro x; rfl
    | succ n ih =>
      intro x
      rw [show 8 * (n + 1) = 8 + 8 * n by omega, fb_ct_split]
      have e : ((bts (n + 1) x).map fun b => fb_ct (fun i => b.testBit i) 8).sum = fb_ct (fun i => (x % 256).testBit i) 8 + ((bts n (x / 256)).map fun b => fb_ct (fun i => b.testBit i) 8).sum := by
        show List.sum (fb_ct (fun i => (x % 256).testBit i) 8 :: ((bts n (x / 256)).map fun b => fb_ct (fun i => b.testBit i) 8)) = _
        rw [List.sum_cons]
      rw [e, ← ih (x / 256)]
      congr 1
      · apply fb_ct_cong
        intro k hk
        show x.testBit k = (x % 2 ^ 8).testBit k
        rw [Nat.testBit_mod_two_pow]
        simp [hk]
      · apply fb_ct_cong
        intro k hk
        show x.testBit (8 + k) = (x / 2 ^ 8).testBit k
        rw [Nat.testBit_div_two_pow, Nat.add_comm]
  exact key 8 x
theorem vb_div (c : Nat) (l : List Nat) (h : c < 256) : vb (c :: l) / 256 = vb l := by
  have e : vb (c :: l) = 256 * vb l + c := rfl
  omega
theorem sum8 {c0 c1 c2 c3 c4 c5 c6 c7 : Nat} (h : c0 ≤ 8 ∧ c1 ≤ 8 ∧ c2 ≤ 8 ∧ c3 ≤ 8 ∧ c4 ≤ 8 ∧ c5 ≤ 8 ∧ c6 ≤ 8 ∧ c7 ≤ 8) (y y1 y2 y3 : Nat) (e0 : y = vb [c0, c1, c2, c3, c4, c5, c6, c7]) (e1 : y1 = y + y / 2 ^ 8) (e2 : y2 = y1 + y1 / 2 ^ 16) (e3 : y3 = y2 + y2 / 2 ^ 32) : y3 % 2 ^ 7 = c0 + c1 + c2 + c3 + c4 + c5 + c6 + c7 ∧ y3 < 2 ^ 63 ∧ y2 < 2 ^ 63 ∧ y1 < 2 ^ 63 ∧ y < 2 ^ 63 := by
  obtain ⟨h0, h1, h2, h3, h4, h5, h6, h7⟩ := h
  have a1 : y1 = vb [c0 + c1, c1 + c2, c2 + c3, c3 + c4, c4 + c5, c5 + c6, c6 + c7, c7] := by
    rw [e1, e0, show (2 : Nat) ^ 8 = 256 from rfl, vb_div _ _ (by omega)]
    simp only [vb]
    omega
  have a2 : y2 = vb [c0 + c1 + (c2 + c3), c1 + c2 + (c3 + c4), c2 + c3 + (c4 + c5), c3 + c4 + (c5 + c6), c4 + c5 + (c6 + c7), c5 + c6 + c7, c6 + c7, c7] := by
    rw [e2, a1, show (2 : Nat) ^ 16 = 256 * 256 from rfl, ← Nat.div_div_eq_div_mul, vb_div _ _ (by omega), vb_div _ _ (by omega)]
    simp only [vb]
    omega
  have a3 : y3 = 256 * vb [c1 + c2 + (c3 + c4) + (c5 + c6 + c7), c2 + c3 + (c4 + c5) + (c6 + c7), c3 + c4 + (c5 + c6) + c7, c4 + c5 + (c6 + c7), c5 + c6 + c7, c6 + c7, c7] + (c0 + c1 + c2 + c3 + c4 + c5 + c6 + c7) := by
    rw [e3, a2, show (2 : Nat) ^ 32 = 256 * 256 * 256 * 256 from rfl, ← Nat.div_div_eq_div_mul, ← Nat.div_div_eq_div_mul, ← Nat.div_div_eq_div_mul, vb_div _ _ (by omega), vb_div _ _ (by omega), vb_div _ _ (by omega), vb_div _ _ (by omega)]
    simp only [vb]
    omega
  refine ⟨by rw [a3]; omega, ?_, ?_, ?_, ?_⟩
  · rw [a3]; simp only [vb]; omega
  · rw [a2]; simp only [vb]; omega
  · rw [a1]; simp only [vb]; omega
  · rw [e0]; simp only [vb]; omega
theorem bitcL (S : HS) {x : Nat} (hx : x < 2 ^ 62) : f_J13_bitCount_95d88 (lN x) S = some (nI (fb_ct (fun i => x.testBit i) 64)) := by
  have hb := bts_lt 8 x
  have hv := bts_vb 8 x (by omega)
  have hl := bts_len 8 x
  have s1 : (x / 2 ^ 1) &&& 6148914691236517205 = vb ((bts 8 x).map fun b => (b / 2) &&& 85) := by
    have := vb_sh1 (m := 85) (by decide) (bts 8 x) hb
    rw [hv, hl] at this
    exact this
  obtain ⟨q1, q2⟩ := vb_sub (f := fun b => (b / 2) &&& 85) (bts 8 x) (fun b h => (bf_all b (hb b h)).1)
  rw [hv] at q1 q2
  have hb1 : ∀ b ∈ (bts 8 x).map b1f, b < 256 := by
    intro b h
    obtain ⟨c, c1, rfl⟩ := List.mem_map.mp h
    exact (bf_all c (hb c c1)).2.1
  have q2' : x - vb ((bts 8 x).map fun b => (b / 2) &&& 85) = vb ((bts 8 x).map b1f) := q2
  have hl1 : ((bts 8 x).map b1f).length = 8 := by rw [List.length_map, hl]
  have s2 : vb ((bts 8 x).map b1f) &&& 3689348814741910323 = vb (((bts 8 x).map b1f).map fun b => b &&& 51) := by
    have := vb_and (m := 51) (by decide) ((bts 8 x).map b1f) hb1
    rw [hl1] at this
    exact this
  have s3 : (vb ((bts 8 x).map b1f) / 2 ^ 2) &&& 3689348814741910323 = vb (((bts 8 x).map b1f).map fun b => (b / 4) &&& 51) := by
    have := vb_sh2 (m := 51) (by decide) ((bts 8 x).map b1f) hb1
    rw [hl1] at this
    exact this
  have s4 : vb (((bts 8 x).map b1f).map fun b => b &&& 51) + vb (((bts 8 x).map b1f).map fun b => (b / 4) &&& 51) = vb (((bts 8 x).map b1f).map b2f) := vb_add _
  have hb2 : ∀ b ∈ ((bts 8 x).map b1f).map b2f, b ≤ 68 ∧ b % 16 ≤ 4 := by
    intro b h
    obtain ⟨c, c1, rfl⟩ := List.mem_map.mp h
    obtain ⟨d, d1, rfl⟩ := List.mem_map.mp c1
    exact (bf_all d (hb d d1)).2.2.1
  have hl2 : (((bts 8 x).map b1f).map b2f).length = 8 := by rw [List.length_map, hl1]
  have s5 : (vb (((bts 8 x).map b1f).map b2f) + vb (((bts 8 x).map b1f).map b2f) / 2 ^ 4) &&& 1085102592571150095 = vb ((((bts 8 x).map b1f).map b2f).map b3f) := by
    have := vb_sh4 (((bts 8 x).map b1f).map b2f) hb2
    rw [hl2] at this
    exact this
  have hlist : ∃ c0 c1 c2 c3 c4 c5 c6 c7, bts 8 x = [c0, c1, c2, c3, c4, c5, c6, c7] := ⟨_, _, _, _, _, _, _, _, rfl⟩
  obtain ⟨c0, c1, c2, c3, c4, c5, c6, c7, hc⟩ := hlist
  have hmem : ∀ c ∈ bts 8 x, b3f (b2f (b1f c)) ≤ 8 ∧ b3f (b2f (b1f c)) = fb_ct (fun i => c.testBit i) 8 := fun c h => ⟨(bf_all c (hb c h)).2.2.2.2, (bf_all c (hb c h)).2.2.2.1⟩
  have hct := ct_bytes x
  rw [hc] at hmem hct
  have m0 := hmem c0 (by simp)
  have m1 := hmem c1 (by simp)
  have m2 := hmem c2 (by simp)
  have m3 := hmem c3 (by simp)
  have m4 := hmem c4 (by simp)
  have m5 := hmem c5 (by simp)
  have m6 := hmem c6 (by simp)
  have m7 := hmem c7 (by simp)
  have hy : vb ((((bts 8 x).map b1f).map b2f).map b3f) = vb [b3f (b2f (b1f c0)), b3f (b2f (b1f c1)), b3f (b2f (b1f c2)), b3f (b2f (b1f c3)), b3f (b2f (b1f c4)), b3f (b2f (b1f c5)), b3f (b2f (b1f c6)), b3f (b2f (b1f c7))] := by rw [hc]; rfl
  obtain ⟨z1, z2, z3, z4, z5⟩ := sum8 (c0 := b3f (b2f (b1f c0))) (c1 := b3f (b2f (b1f c1))) (c2 := b3f (b2f (b1f c2))) (c3 := b3f (b2f (b1f c3))) (c4 := b3f (b2f (b1f c4))) (c5 := b3f (b2f (b1f c5))) (c6 := b3f (b2f (b1f c6))) (c7 := b3f (b2f (b1f c7))) ⟨m0.1, m1.1, m2.1, m3.1, m4.1, m5.1, m6.1, m7.1⟩ _ _ _ _ hy rfl rfl rfl
  have hvlt : ∀ l : List Nat, l.length = 8 → (∀ b ∈ l, b < 256) → vb l < 2 ^ 64 := by
    have key : ∀ l : List Nat, (∀ b ∈ l, b < 256) → vb l < 256 ^ l.length := by
      intro l
      induction l with
      | nil => intro _; show 0 < 1; decide
      | cons b l ih =>
        intro h
        have h1 := ih (fun c hc => h c (List.mem_cons_of_mem _ hc))
        have h2 := h b (List.mem_cons_self)
        have e : vb (b :: l) = 256 * vb l + b := rfl
        rw [e, List.length_cons, Nat.pow_succ]
        omega
    intro l h1 h2
    have := key l h2
    rw [h1] at this
    exact this
  have b1lt := hvlt _ hl1 hb1
  have b2lt := hvlt _ hl2 (fun b h => by have := hb2 b h; omega)
  unfold f_J13_bitCount_95d88
  have e1 : lushr (lN x) (1 : Int32) &&& (6148914691236517205 : Int64) = lN (vb ((bts 8 x).map fun b => (b / 2) &&& 85)) := by
    rw [show (1 : Int32) = nI 1 from rfl, lushrN 1 (by omega) (by omega), show (6148914691236517205 : Int64) = lN 6148914691236517205 from rfl, fb_andL, s1]
  rw [e1, lN_sub q1, q2', show (2 : Int32) = nI 2 from rfl, lushrN 2 b1lt (by omega), show (3689348814741910323 : Int64) = lN 3689348814741910323 from rfl, fb_andL, fb_andL, s2, s3, lN_add, s4, show (4 : Int32) = nI 4 from rfl, lushrN 4 b2lt (by omega), lN_add, show (1085102592571150095 : Int64) = lN 1085102592571150095 from rfl, fb_andL, s5, show (8 : Int32) = nI 8 from rfl, lushrN 8 (by omega) (by omega), lN_add, show (16 : Int32) = nI 16 from rfl, lushrN 16 (by omega) (by omega), lN_add, show (32 : Int32) = nI 32 from rfl, lushrN 32 (by omega) (by omega), lN_add, lN_i, show (127 : Int32) = nI (2 ^ 7 - 1) from rfl, fa_mask, z1, hct]
  congr 2
  simp only [List.map_cons, List.map_nil, List.sum_cons, List.sum_nil]
  rw [m0.2, m1.2, m2.2, m3.2, m4.2, m5.2, m6.2, m7.2]
  omega
