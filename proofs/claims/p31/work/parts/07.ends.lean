/-! ends of methods, switches, what handles hold -/
def ch (x : Int32) : Bool := decide (0 ≤ x) && decide (x ≤ 65535)
theorem ch_ok {x : Int32} (h : ch x = true) : narrow .char (.int x) = .int x := by
  unfold ch at h
  rw [Bool.and_eq_true, decide_eq_true_eq, decide_eq_true_eq] at h
  obtain ⟨j, hj, rfl⟩ := nI_of2 (M := 65535) (n := 65535) (by decide) (fun q => by
    have h1 := h.1
    rw [Int32.le_iff_toInt_le] at h1
    rw [Int32.lt_iff_toInt_lt] at q
    omega) h.2
  exact (pk_charN (by omega)).1
section
variable {l : Launch} {cc : ByteArray} {own : String} {nL : Nat} {R : Room} {G : GT} {pc : Nat} {S : HS} {lv : List (Nat × AV)} {st : List AV}
theorem s_rvC {out : HS} (hR : Rt G cc none none out) (hd : decode cc pc = .ok (.return_, 1)) : some S = some out → G 0 0 S lv pc [] := fun h => by cases h; exact hR.1 _ _ rfl rfl hd
theorem s_rvP {out : Unit} (hR : Rt G cc none none S) (hd : decode cc pc = .ok (.return_, 1)) : some () = some out → G 0 0 S lv pc [] := fun _ => hR.1 _ _ rfl rfl hd
theorem s_riC {out : HS × Int32} {x : Int32} (hR : Rt G cc (some .int) (some (vI out.2)) out.1) (hd : decode cc pc = .ok (.ireturn, 1)) : some (S, x) = some out → G 0 0 S lv pc [vI x] := fun h => by cases h; exact hR.2.1 _ _ _ _ rfl rfl rfl hd
theorem s_riP {out x : Int32} (hR : Rt G cc (some .int) (some (vI out)) S) (hd : decode cc pc = .ok (.ireturn, 1)) : some x = some out → G 0 0 S lv pc [vI x] := fun h => by cases h; exact hR.2.1 _ _ _ _ rfl rfl rfl hd
theorem s_rlP {out x : Int64} (hR : Rt G cc (some .long) (some (vL out)) S) (hd : decode cc pc = .ok (.lreturn, 1)) : some x = some out → G 0 0 S lv pc [vL x] := fun h => by cases h; exact hR.2.2 _ _ _ rfl rfl hd
theorem s_rlC {out : HS × Int64} {x : Int64} (hR : Rt G cc (some .long) (some (vL out.2)) out.1) (hd : decode cc pc = .ok (.lreturn, 1)) : some (S, x) = some out → G 0 0 S lv pc [vL x] := fun h => by cases h; exact hR.2.2 _ _ _ rfl rfl hd
theorem s_rzC {out : HS × Int32} {x : Int32} (hR : Rt G cc (some .boolean) (some (vI out.2)) out.1) (hd : decode cc pc = .ok (.ireturn, 1)) : (if nz x = true then some (S, x) else none) = some out → G 0 0 S lv pc [vI x] := fun h => by
  by_cases hn : nz x = true
  · rw [if_pos hn] at h; cases h; exact hR.2.1 _ _ _ _ rfl (nz_ok hn).1 rfl hd
  · rw [if_neg hn] at h; cases h
theorem s_rzP {out x : Int32} (hR : Rt G cc (some .boolean) (some (vI out)) S) (hd : decode cc pc = .ok (.ireturn, 1)) : (if nz x = true then some x else none) = some out → G 0 0 S lv pc [vI x] := fun h => by
  by_cases hn : nz x = true
  · rw [if_pos hn] at h; cases h; exact hR.2.1 _ _ _ _ rfl (nz_ok hn).1 rfl hd
  · rw [if_neg hn] at h; cases h
theorem s_rcC {out : HS × Int32} {x : Int32} (hR : Rt G cc (some .char) (some (vI out.2)) out.1) (hd : decode cc pc = .ok (.ireturn, 1)) : (if ch x = true then some (S, x) else none) = some out → G 0 0 S lv pc [vI x] := fun h => by
  by_cases hn : ch x = true
  · rw [if_pos hn] at h; cases h; exact hR.2.1 _ _ _ _ rfl (ch_ok hn) rfl hd
  · rw [if_neg hn] at h; cases h
theorem s_rcP {out x : Int32} (hR : Rt G cc (some .char) (some (vI out)) S) (hd : decode cc pc = .ok (.ireturn, 1)) : (if ch x = true then some x else none) = some out → G 0 0 S lv pc [vI x] := fun h => by
  by_cases hn : ch x = true
  · rw [if_pos hn] at h; cases h; exact hR.2.1 _ _ _ _ rfl (ch_ok hn) rfl hd
  · rw [if_neg hn] at h; cases h
theorem sw_ne {x v : Int32} {z : Int} (h : ¬ x = v) (hz : v.toInt = z) : x.toInt ≠ z := fun e => h (Int32.toInt_inj.mp (e.trans hz.symm))
theorem s_tsw1 {k n : Nat} (hG : OK l cc own nL R G) {α : Type} {A B : Option α} {out : α} {x v : Int32} {dflt lo hi off : Int} {offs : Array Int} {len tgt : Nat} (hd : decode cc pc = .ok (.tableswitch dflt lo hi offs, len)) (h1 : ¬ v.toInt < lo) (h2 : ¬ hi < v.toInt) (ho : offs[(v.toInt - lo).toNat]? = some off) (ht : (pc : Int) + off = (tgt : Int)) (kt : A = some out → G k n S lv tgt st) (kf : ¬ x = v → B = some out → G k n S lv pc (vI x :: st)) : (if x = v then A else B) = some out → G k n S lv pc (vI x :: st) := by
  intro hE
  by_cases hv : x = v
  · rw [if_pos hv] at hE
    subst hv
    obtain ⟨p, e, s, m, args, below, meth, c, dC, dI, cA, ad, Q, hx, hb, hml, hown, hts, hnw, hK, hj, hzw, rfl⟩ := hG
    intro H locs ls hP hS hl
    exact lv_tableIn hx hb hd h1 h2 ho ht (kt hE H locs ls hP hS hl)
  · rw [if_neg hv] at hE
    exact kf hv hE
theorem s_tswD {k n : Nat} (hG : OK l cc own nL R G) {E : Prop} {x : Int32} {dflt lo hi : Int} {offs : Array Int} {len tgt : Nat} (hd : decode cc pc = .ok (.tableswitch dflt lo hi offs, len)) (h : x.toInt < lo ∨ hi < x.toInt) (ht : (pc : Int) + dflt = (tgt : Int)) (kk : E → G k n S lv tgt st) : E → G k n S lv pc (vI x :: st) := by
  intro hE
  obtain ⟨p, e, s, m, args, below, meth, c, dC, dI, cA, ad, Q, hx, hb, hml, hown, hts, hnw, hK, hj, hzw, rfl⟩ := hG
  intro H locs ls hP hS hl
  exact lv_tableOut hx hb hd h ht (kk hE H locs ls hP hS hl)
end
theorem oc_lt {b ci : Nat} (h : oc b = some ci) : b < 41 := by
  obtain ⟨ks, h1⟩ := oc_at h
  rcases List.getElem?_eq_some_iff.mp h1 with ⟨z, -⟩
  exact z
theorem fk0_0 (b : Nat) (h : oc b = some 0) : fk b 0 = some (0, (3, 2)) := (by decide +kernel : ∀ b, b < 41 → oc b = some 0 → fk b 0 = some (0, (3, 2))) b (oc_lt h) h
theorem fk0_1 (b : Nat) (h : oc b = some 0) : fk b 1 = some (0, (3, 5)) := (by decide +kernel : ∀ b, b < 41 → oc b = some 0 → fk b 1 = some (0, (3, 5))) b (oc_lt h) h
theorem fk0_2 (b : Nat) (h : oc b = some 0) : fk b 2 = some (0, (0, 0)) := (by decide +kernel : ∀ b, b < 41 → oc b = some 0 → fk b 2 = some (0, (0, 0))) b (oc_lt h) h
theorem fk0_3 (b : Nat) (h : oc b = some 0) : fk b 3 = some (0, (3, b + 1)) := (by decide +kernel : ∀ b, b < 41 → oc b = some 0 → fk b 3 = some (0, (3, b + 1))) b (oc_lt h) h
theorem fk0_4 (b : Nat) (h : oc b = some 0) : fk b 4 = some (0, (3, b + 2)) := (by decide +kernel : ∀ b, b < 41 → oc b = some 0 → fk b 4 = some (0, (3, b + 2))) b (oc_lt h) h
theorem fk0_5 (b : Nat) (h : oc b = some 0) : fk b 5 = some (0, (0, 0)) := (by decide +kernel : ∀ b, b < 41 → oc b = some 0 → fk b 5 = some (0, (0, 0))) b (oc_lt h) h
theorem fk0_6 (b : Nat) (h : oc b = some 0) : fk b 6 = some (0, (0, 0)) := (by decide +kernel : ∀ b, b < 41 → oc b = some 0 → fk b 6 = some (0, (0, 0))) b (oc_lt h) h
theorem ak0_3 (b : Nat) (h : oc b = some 0) : ak (b + 1) = some (0, 40) := (by decide +kernel : ∀ b, b < 41 → oc b = some 0 → ak (b + 1) = some (0, 40)) b (oc_lt h) h
theorem ak0_4 (b : Nat) (h : oc b = some 0) : ak (b + 2) = some (0, 24) := (by decide +kernel : ∀ b, b < 41 → oc b = some 0 → ak (b + 2) = some (0, 24)) b (oc_lt h) h
theorem fk3_0 (b : Nat) (h : oc b = some 3) : fk b 0 = some (3, (3, 9)) := (by decide +kernel : ∀ b, b < 41 → oc b = some 3 → fk b 0 = some (3, (3, 9))) b (oc_lt h) h
theorem fk3_1 (b : Nat) (h : oc b = some 3) : fk b 1 = some (3, (2, 0)) := (by decide +kernel : ∀ b, b < 41 → oc b = some 3 → fk b 1 = some (3, (2, 0))) b (oc_lt h) h
theorem fk3_2 (b : Nat) (h : oc b = some 3) : fk b 2 = some (3, (2, 0)) := (by decide +kernel : ∀ b, b < 41 → oc b = some 3 → fk b 2 = some (3, (2, 0))) b (oc_lt h) h
theorem fk3_3 (b : Nat) (h : oc b = some 3) : fk b 3 = some (3, (1, 0)) := (by decide +kernel : ∀ b, b < 41 → oc b = some 3 → fk b 3 = some (3, (1, 0))) b (oc_lt h) h
def iabs (x : Int32) : Int32 := if 0 ≤ x then x else 0 - x
theorem s_abs {l : Launch} {cc : ByteArray} {own : String} {nL : Nat} {R : Room} {G : GT} {E : Prop} {k n pc : Nat} {S : HS} {lv : List (Nat × AV)} {st : List AV} (hG : OK l cc own nL R G) {idx : Nat} {x : Int32} (hd : decode cc pc = .ok (.invokestatic idx, 3)) (h1 : Cond.methodLink own idx Lib.Math.abs.name ∈ TB) (h2 : Cond.static Lib.Math.abs.name ∈ TB) (h3 : Cond.initialized "java/lang/Math" ∈ TB) (h4 : Cond.code Lib.Math.abs.name Lib.Math.abs.code 1 (some .int) ∈ TB) (hR : 1 ≤ R.frames ∧ 21 ≤ R.locals) (hst : cats st ≤ 8) (hkn : k ≤ R.cells ∧ n ≤ R.slots) (kk : E → G k n S lv (pc + 3) (vI (iabs x) :: st)) : E → G k n S lv pc (vI x :: st) := by
  intro hE
  obtain ⟨p, e, s, m, args, below, meth, c, dC, dI, cA, ad, Q, hx, hb, hml, hown, hts, hnw, hK, hj, hzw, rfl⟩ := hG
  intro H locs ls hP hS hl
  have hcat : ((st.map (gV ad)).map fun v => v.category).sum ≤ 8 := by rw [cats_V]; exact hst
  exact va_mabs hx hb (by rw [hml]; exact hl.1.symm) hown (hts _ h1) (hts _ h2) (hts _ h3) (hts _ h4) hR.1 (by omega) hkn.1 hkn.2 hd (kk hE H locs ls hP hS hl)
theorem ak_len {a t N : Nat} (h : ak a = some (t, N)) : ak a = some (t, alen a) := by
  have h2 : alen a = N := by unfold alen; rw [h]
  rw [h2]; exact h
