/-! the text of an export -/
def dgt (m : Nat) : List Nat := (if 100 ≤ m then [48 + m / 100 % 10] else []) ++ ((if 10 ≤ m then [48 + m / 10 % 10] else []) ++ [48 + m % 10])
def nS (n : Int32) : List Nat := (if 0 ≤ n then [] else [45]) ++ dgt (iabs n).toNatClampNeg
def lS (l : Nat) : List Nat := if l = 26 then [55357, 56528] else [97 + l]
def ltS (f : Nat → Nat) : Nat → List Nat
  | 0 => []
  | n + 1 => ltS f n ++ lS (f n)
def nmS (N : Nat → Int32) : Nat → List Nat
  | 0 => []
  | w + 1 => nmS N w ++ ([if w = 0 then 58 else 44] ++ nS (N w))
/-- a shape: how many letters, whether it is turned round, its letters -/
def shS (N : Nat → Nat → Int32) (len : Nat → Nat) (trn : Nat → Bool) (txt : Nat → Nat → Nat) (s : Nat) : List Nat := [if 0 < len s then 116 else 98] ++ (nS (nI s) ++ (nmS (N s) 4 ++ ((if 0 < len s then [44] else []) ++ (ltS (fun i => txt s (if trn s = true then len s - 1 - i else i)) (len s) ++ [59]))))
def alS (th : Nat) (N : Nat → Nat → Int32) (len : Nat → Nat) (trn : Nat → Bool) (txt : Nat → Nat → Nat) : Nat → List Nat
  | 0 => []
  | i + 1 => alS th N len trn txt i ++ (if th.testBit i = true then shS N len trn txt i else [])
def ruS (fo : Nat) : Nat → List Nat
  | 0 => []
  | i + 1 => ruS fo i ++ (if fo.testBit i = true then [114] ++ (nS (nI i) ++ [59]) else [])
def TX (A : AB) (len : Nat → Nat) (trn : Nat → Bool) (txt : Nat → Nat → Nat) : List Nat := alS A.1 A.2.2.1 len trn txt 10 ++ ruS A.2.1 12
theorem toInt_nI {m : Nat} (h : m < 2 ^ 31) : (nI m).toInt = m := by
  show (BitVec.ofNat 32 m).toInt = m
  rw [BitVec.toInt_ofNat']
  simp only [Int.bmod]
  omega
theorem absN {n : Int32} (h : rngB n 0 = true) : ∃ m, m < 1000 ∧ iabs n = nI m := by
  unfold rngB at h
  rw [if_neg (by omega)] at h
  simp only [Bool.and_eq_true, Bool.not_eq_true', decide_eq_false_iff_not] at h
  obtain ⟨h1, h2⟩ := h
  rw [Int32.lt_iff_toInt_lt] at h1 h2
  have e1 : (-999 : Int32).toInt = -999 := by decide
  have e2 : (999 : Int32).toInt = 999 := by decide
  have e0 : (0 : Int32).toInt = 0 := by decide
  rw [e1] at h1
  rw [e2] at h2
  unfold iabs
  by_cases h0 : 0 ≤ n
  · rw [if_pos h0]
    rw [Int32.le_iff_toInt_le, e0] at h0
    refine nI_ofp (n := 1000) (by decide) ?_ ?_
    · rw [Int32.lt_iff_toInt_lt, e0]; omega
    · rw [Int32.lt_iff_toInt_lt, toInt_nI (by omega)]; omega
  · rw [if_neg h0]
    rw [Int32.le_iff_toInt_le, e0] at h0
    have e3 : (0 - n).toInt = - n.toInt := by
      rw [Int32.toInt_sub, e0]
      simp only [Int.bmod]
      omega
    refine nI_ofp (n := 1000) (by decide) ?_ ?_
    · rw [Int32.lt_iff_toInt_lt, e0, e3]; omega
    · rw [Int32.lt_iff_toInt_lt, toInt_nI (by omega), e3]; omega
theorem rng20 {n : Int32} {w : Nat} (hw : w < 4) (h : rngB n w = true) : rngB n 0 = true := by
  unfold rngB at h ⊢
  rw [if_neg (by omega)]
  by_cases e : 2 ≤ w
  · rw [if_pos e] at h
    simp only [Bool.and_eq_true, Bool.not_eq_true', decide_eq_false_iff_not] at h ⊢
    obtain ⟨h1, h2⟩ := h
    rw [Int32.lt_iff_toInt_lt] at h1 h2
    have e1 : (-999 : Int32).toInt = -999 := by decide
    have e2 : (999 : Int32).toInt = 999 := by decide
    have e3 : (1 : Int32).toInt = 1 := by decide
    have e4 : (99 : Int32).toInt = 99 := by decide
    rw [e3] at h1
    rw [e4] at h2
    refine ⟨?_, ?_⟩
    · rw [Int32.lt_iff_toInt_lt, e1]; omega
    · rw [Int32.lt_iff_toInt_lt, e2]; omega
  · rw [if_neg e] at h
    exact h
theorem rngI {m : Nat} (h : m < 100) : rngB (nI m) 0 = true := by
  have : ∀ m, m < 100 → rngB (nI m) 0 = true := by decide +kernel
  exact this m h
theorem vnc {c : Nat} (h : c < 65536) : vp_nar .char (nI c) = nI c := by
  have h2 : ch (nI c) = true := by
    unfold ch
    rw [Bool.and_eq_true, decide_eq_true_eq, decide_eq_true_eq]
    exact ⟨by rw [show (0 : Int32) = nI 0 from rfl, nI_leI (by omega) (by omega)]; omega, by rw [show (65535 : Int32) = nI 65535 from rfl, nI_leI (by omega) (by omega)]; omega⟩
  unfold vp_nar
  rw [ch_ok h2]
theorem ch_nI {c : Nat} (h : c < 65536) : ch (nI c) = true := by
  unfold ch
  rw [Bool.and_eq_true, decide_eq_true_eq, decide_eq_true_eq]
  exact ⟨by rw [show (0 : Int32) = nI 0 from rfl, nI_leI (by omega) (by omega)]; omega, by rw [show (65535 : Int32) = nI 65535 from rfl, nI_leI (by omega) (by omega)]; omega⟩
theorem i2cN {c : Nat} (h : c < 65536) : i2c (nI c) = nI c := by
  unfold i2c
  rw [pk_char]
  show nI ((BitVec.ofNat 32 c).toNat % 65536) = nI c
  rw [BitVec.toNat_ofNat, Nat.mod_eq_of_lt (show c < 2 ^ 32 by omega), Nat.mod_eq_of_lt h]
theorem getD_snoc (L : List Nat) (c : Nat) {i : Nat} (h : i ≤ L.length) : (L ++ [c]).getD i 0 = if i = L.length then c else L.getD i 0 := by
  by_cases e : i = L.length
  · rw [if_pos e, e]
    simp
  · rw [if_neg e]
    simp [List.getD, List.getElem?_append_left (show i < L.length by omega)]
/-! the class's writer -/
def wT (S : HS) (f : Nat → Int32) (n : Int32) : HS := sI (sA S 35 f) 34 1 n
def WC (S0 S : HS) (L : List Nat) : Prop := ∃ f, S = wT S0 f (nI L.length) ∧ (∀ i, i < L.length → f i = nI (L.getD i 0)) ∧ ((∀ i, ch (S0.1 35 i) = true) → ∀ i, ch (f i) = true)
theorem wT_o {S : HS} {f : Nat → Int32} {n : Int32} {h : Nat} (h1 : h ≠ 34) (h2 : h ≠ 35) : (wT S f n).1 h = S.1 h := by simp [wT, sI, sA, h1, h2]
theorem wT_2 {S : HS} {f : Nat → Int32} {n : Int32} : (wT S f n).2 = S.2 := rfl
theorem wT_35 {S : HS} {f : Nat → Int32} {n v : Int32} {k : Nat} : sI (wT S f n) 35 k v = wT S (upd f k v) n := by
  unfold wT sI sA
  refine Prod.ext ?_ rfl
  funext h
  dsimp only
  by_cases e : h = 35
  · subst e; rfl
  · simp [e]
theorem wT_34 {S : HS} {f : Nat → Int32} {n v : Int32} : sI (wT S f n) 34 1 v = wT S f v := by
  unfold wT sI sA
  refine Prod.ext ?_ rfl
  funext h
  dsimp only
  by_cases e : h = 34
  · subst e
    simp only [if_true]
    funext k
    unfold upd
    by_cases e2 : k = 1
    · simp [e2]
    · simp [e2]
  · simp [e]
section
variable {S0 S : HS} {L : List Nat}
theorem write7 (h : WC S0 S L) {c : Nat} (hc : c < 65536) (hl : L.length < 328) : Ok (f_X1_write (nI c) S) (fun S' => WC S0 S' (L ++ [c])) := by
  obtain ⟨f, rfl, hf, hch⟩ := h
  unfold f_X1_write f_X1_write_b39
  have e34 : (wT S0 f (nI L.length)).1 34 1 = nI L.length := rfl
  rw [e34, if_neg (nI_pos (by omega)), if_neg (by rw [show (328 : Int32) = nI 328 from rfl, nI_leI (by omega) (by omega)]; omega), if_pos (ib_nI hl (by omega)), nI_cl (by omega), vnc hc, wT_35]
  have e34' : (wT S0 (upd f L.length (nI c)) (nI L.length)).1 34 1 = nI L.length := rfl
  rw [e34', nI_1, wT_34]
  refine ⟨_, rfl, upd f L.length (nI c), by rw [List.length_append, List.length_cons, List.length_nil], fun i hi => ?_, fun q i => (by
    by_cases e : i = L.length
    · rw [e, upd_at]; exact ch_nI hc
    · rw [upd_ne e]; exact hch q i)⟩
  rw [List.length_append, List.length_cons, List.length_nil] at hi
  rw [getD_snoc L c (by omega)]
  by_cases e : i = L.length
  · rw [if_pos e, e, upd_at]
  · rw [if_neg e, upd_ne e]
    exact hf i (by omega)
theorem WC_eq {L' : List Nat} (h : WC S0 S L) (e : L = L') : WC S0 S L' := e ▸ h
theorem remN {a : Nat} (ha : a < 2 ^ 31) : nI a - nI a / (10 : Int32) * (10 : Int32) = nI (a % 10) := pk_rem (d := 10) ha (by decide) (by decide)
theorem number7 (h : WC S0 S L) {n : Int32} (hn : rngB n 0 = true) (hl : (L ++ nS n).length ≤ 328) : Ok (f_X1_writeNumber n S) (fun S' => WC S0 S' (L ++ nS n)) := by
  obtain ⟨m, hm, ha⟩ := absN hn
  have hcl : (iabs n).toNatClampNeg = m := by rw [ha, nI_cl (by omega)]
  have h1 : ∀ {S L}, WC S0 S L → (L ++ [48 + m % 10]).length ≤ 328 → Ok (f_X1_writeNumber_b57 n S (nI m)) (fun S' => WC S0 S' (L ++ [48 + m % 10])) := by
    intro S L h hl
    rw [List.length_append, List.length_cons, List.length_nil] at hl
    unfold f_X1_writeNumber_b57
    rw [if_neg (by decide), remN (by omega), show (48 : Int32) = nI 48 from rfl, nI_add, i2cN (by omega)]
    exact Ok.bind (write7 h (by omega) (by omega)) (fun S' h' => Ok.some h')
  have h2 : ∀ {S L}, WC S0 S L → (L ++ ((if 10 ≤ m then [48 + m / 10 % 10] else []) ++ [48 + m % 10])).length ≤ 328 → Ok (f_X1_writeNumber_b36 n S (nI m)) (fun S' => WC S0 S' (L ++ ((if 10 ≤ m then [48 + m / 10 % 10] else []) ++ [48 + m % 10]))) := by
    intro S L h hl
    unfold f_X1_writeNumber_b36
    by_cases e : 10 ≤ m
    · rw [if_pos e] at hl ⊢
      simp only [List.length_append, List.length_cons, List.length_nil] at hl
      rw [if_neg (by rw [show (10 : Int32) = nI 10 from rfl, nI_ltI (by omega) (by omega)]; omega), if_neg (by decide), if_neg (by decide), show nI m / (10 : Int32) = nI (m / 10) from pk_div (d := 10) (by omega) (by decide) (by decide), remN (by omega), show (48 : Int32) = nI 48 from rfl, nI_add, i2cN (by omega)]
      refine Ok.bind (write7 h (by omega) (by omega)) (fun S' h' => ?_)
      refine Ok.mono (h1 h' (by simp only [List.length_append, List.length_cons, List.length_nil]; omega)) (fun S2 h2 => ?_)
      exact WC_eq h2 (by simp)
    · rw [if_neg e] at hl ⊢
      rw [if_pos (by rw [show (10 : Int32) = nI 10 from rfl, nI_ltI (by omega) (by omega)]; omega)]
      exact h1 h hl
  have h3 : ∀ {S L}, WC S0 S L → (L ++ dgt m).length ≤ 328 → Ok (f_X1_writeNumber_b10 n S) (fun S' => WC S0 S' (L ++ dgt m)) := by
    intro S L h hl
    unfold f_X1_writeNumber_b10
    rw [ha]
    unfold dgt at hl ⊢
    by_cases e : 100 ≤ m
    · rw [if_pos e] at hl ⊢
      simp only [List.length_append, List.length_cons, List.length_nil] at hl
      rw [if_neg (by rw [show (100 : Int32) = nI 100 from rfl, nI_ltI (by omega) (by omega)]; omega), if_neg (by decide), if_neg (by decide), show nI m / (100 : Int32) = nI (m / 100) from pk_div (d := 100) (by omega) (by decide) (by decide), remN (by omega), show (48 : Int32) = nI 48 from rfl, nI_add, i2cN (by omega)]
      refine Ok.bind (write7 h (by omega) (by omega)) (fun S' h' => ?_)
      refine Ok.mono (h2 h' (by simp only [List.length_append, List.length_cons, List.length_nil]; omega)) (fun S2 h2 => ?_)
      exact WC_eq h2 (by simp)
    · rw [if_neg e] at hl ⊢
      rw [if_pos (by rw [show (100 : Int32) = nI 100 from rfl, nI_ltI (by omega) (by omega)]; omega)]
      exact h2 h hl
  unfold nS at hl ⊢
  unfold f_X1_writeNumber
  rw [hcl] at hl ⊢
  by_cases e : 0 ≤ n
  · rw [if_pos e] at hl ⊢
    rw [if_pos e]
    exact h3 h hl
  · rw [if_neg e] at hl ⊢
    rw [if_neg e, show (45 : Int32) = nI 45 from rfl]
    simp only [List.length_append, List.length_cons, List.length_nil] at hl
    refine Ok.bind (write7 h (by omega) (by omega)) (fun S' h' => ?_)
    refine Ok.mono (h3 h' (by simp only [List.length_append, List.length_cons, List.length_nil]; omega)) (fun S2 h2 => ?_)
    exact WC_eq h2 (by simp)
theorem letter7 (h : WC S0 S L) {l : Nat} (hl26 : l ≤ 26) (hl : (L ++ lS l).length ≤ 328) : Ok (f_X1_writeLetter (nI l) S) (fun S' => WC S0 S' (L ++ lS l)) := by
  unfold f_X1_writeLetter f_X1_writeLetter_b30
  unfold lS at hl ⊢
  by_cases e : l = 26
  · rw [if_pos e] at hl ⊢
    simp only [List.length_append, List.length_cons, List.length_nil] at hl
    rw [if_pos (by rw [e]; rfl), show (55357 : Int32) = nI 55357 from rfl, show (56528 : Int32) = nI 56528 from rfl]
    refine Ok.bind (write7 h (by omega) (by omega)) (fun S' h' => ?_)
    refine Ok.bind (write7 h' (by omega) (by simp only [List.length_append, List.length_cons, List.length_nil]; omega)) (fun S' h' => ?_)
    exact Ok.some (WC_eq h' (by simp))
  · rw [if_neg e] at hl ⊢
    simp only [List.length_append, List.length_cons, List.length_nil] at hl
    rw [if_neg (show ¬ nI l = (26 : Int32) from fun q => e ((nI_eq (b := 26) (by omega) (by omega)).mp q)), show (97 : Int32) = nI 97 from rfl, nI_add, i2cN (by omega)]
    exact Ok.bind (write7 h (by omega) (by omega)) (fun S' h' => Ok.some h')
end
