/-! the law's own rows: its script, its calls of methods with a table, its room -/
def OKL (l : Launch) (cc : ByteArray) (own : String) (nL : Nat) (R : Room) (G : GT) (xs : Nat → Int32) (L : Nat) : Prop :=
  ∃ (p : Program) (e : Env) (s : State) (m : MethodId) (args : Array Value) (below : List Frame) (meth : Method) (c : Code) (dC : Nat → ClassId) (dI : Nat → Nat → Nat) (cA : Nat → ClassId) (ad : Nat → Nat) (Q : State → Prop),
    p.tables.exec = Jvm.exec ∧ c.code = cc ∧ c.maxLocals = nL ∧ s.vm.findClass own = some m.cls ∧ (∀ w ∈ TB, w.before args s = true) ∧ NwA s ∧ va_K (dC, dI) vwCl (tyl cA) s ∧ Inj ad ∧ ZW ad s.heap.size s ∧ va_X (ad 41) L xs s s.heap ∧ ad 41 < s.heap.size ∧ ¬ fA ad s.heap.size (ad 41) ∧ G = Go p l e R s m args below meth c dC dI cA ad nL Q
section
variable {l : Launch} {cc : ByteArray} {own : String} {nL : Nat} {R : Room} {G : GT} {E : Prop} {k n pc : Nat} {S : HS} {lv : List (Nat × AV)} {st : List AV} {xs : Nat → Int32} {L : Nat}
theorem OKL.ok (h : OKL l cc own nL R G xs L) : OK l cc own nL R G := by
  obtain ⟨p, e, s, m, args, below, meth, c, dC, dI, cA, ad, Q, hx, hb, hml, hown, hts, hnw, hK, hj, hzw, -, -, -, hG⟩ := h
  exact ⟨p, e, s, m, args, below, meth, c, dC, dI, cA, ad, Q, hx, hb, hml, hown, hts, hnw, hK, hj, hzw, hG⟩
theorem s_sld (hG : OKL l cc own nL R G xs L) {α : Type} {A : Option α} {out : α} {i : Int32} (hd : decode cc pc = .ok (.iaload, 1)) (kk : A = some out → G k n S lv (pc + 1) (vI (xs i.toNatClampNeg) :: st)) : (if ib i L = true then A else none) = some out → G k n S lv pc (vI i :: vR 41 :: st) := by
  intro hE
  by_cases hy : ib i L = true
  · rw [if_pos hy] at hE
    obtain ⟨p, e, s, m, args, below, meth, c, dC, dI, cA, ad, Q, hx, hb, hml, hown, hts, hnw, hK, hj, hzw, hX, hbl, hbA, rfl⟩ := hG
    intro H locs ls hP hS hl
    exact va_sld hx hb hX hbl hbA hS (ib_in hy) hd (kk hE H locs ls hP hS hl)
  · rw [if_neg hy] at hE; cases hE
theorem s_slen (hG : OKL l cc own nL R G xs L) (hd : decode cc pc = .ok (.arraylength, 1)) (kk : E → G k n S lv (pc + 1) (vI (Int32.ofNat L) :: st)) : E → G k n S lv pc (vR 41 :: st) := by
  intro hE
  obtain ⟨p, e, s, m, args, below, meth, c, dC, dI, cA, ad, Q, hx, hb, hml, hown, hts, hnw, hK, hj, hzw, hX, hbl, hbA, rfl⟩ := hG
  intro H locs ls hP hS hl
  exact va_slen hx hb hX hbl hbA hS hd (kk hE H locs ls hP hS hl)
theorem s_wid (hG : OK l cc own nL R G) (k' n' : Nat) (h1 : k ≤ k') (h2 : n ≤ n') (kk : E → G k' n' S lv pc st) : E → G k n S lv pc st := by
  intro hE
  obtain ⟨p, e, s, m, args, below, meth, c, dC, dI, cA, ad, Q, hx, hb, hml, hown, hts, hnw, hK, hj, hzw, rfl⟩ := hG
  intro H locs ls hP hS hl
  exact W.widen h1 h2 (kk hE H locs ls hP hS hl)
theorem s_lw (hG : OK l cc own nL R G) {α : Type} {out : α} {F : Option (HS × Int32)} {K : HS × Int32 → Option α} {y : MethodName} {bytes : ByteArray} {nLy idx np : Nat} {ret : Option FieldType} {hh : List (Nat × Nat × Nat × Nat)} {rm : Room} {as stk : List AV} (hd : decode cc pc = .ok (.invokestatic idx, 3)) (hm : MS own idx y np) (hlk : Cond.methodLink own idx y ∈ TB) (hcode : Cond.codeWith y bytes nLy ret hh ∈ TB) (hnp : as.length = np) (hrm : rm.cells = 1 ∧ rm.slots = 6) (hR : rm.frames + 1 ≤ R.frames ∧ 8 + (nLy + 11) + rm.locals ≤ R.locals) (hst : cats st ≤ 8) (hkn : k + 1 ≤ R.cells ∧ n + 6 ≤ R.slots) (hstk : stk = as.reverse ++ st) (hC : ∀ o, F = some o → CtW l y bytes nLy ret hh rm as S (some (vI o.2)) o.1) (kk : ∀ o, K o = some out → G (k + 1) (n + 6) o.1 lv (pc + 3) (vI o.2 :: st)) : F.bind K = some out → G k n S lv pc stk := by
  intro hE
  obtain ⟨o, h1, h2⟩ := bind_some hE
  have hC2 := hC o h1
  have hkk := kk o h2
  obtain ⟨p, e, s, m, args, below, meth, c, dC, dI, cA, ad, Q, hx, hb, hml, hown, hts, hnw, hK, hj, hzw, rfl⟩ := hG
  intro H locs ls hP hS hl
  obtain ⟨⟨hy1, hy2, hy3⟩, hstat, hini, -⟩ := hm
  have hM := hC2 dC dI cA ad H.size hj
  have hcat : ((st.map (gV ad)).map fun v => v.category).sum ≤ 8 := by rw [cats_V]; exact hst
  have hpre : PreS s H (va_Pc (as.map (gV ad)) (wPre dC dI cA ad H.size S)) (as.map (gV ad)) := ⟨wPre.blind, fun U hU hW => ⟨rfl, by rw [hU], ⟨by rw [hU]; exact hP, va_K.moved hW.alike hK⟩, hnw.warm hW, hzw.to hW.alike hU hS.nil⟩⟩
  have hstk2 : stk.map (gV ad) = (as.map (gV ad)).reverse ++ st.map (gV ad) := by rw [hstk, List.map_append, List.map_reverse]
  have hlen : (as.map (gV ad)).length = np := by rw [List.length_map]; exact hnp
  have hgd : GoodIn TB (va_wsS own idx y (Cond.codeWith y bytes nLy ret hh :: TB)) := by
    intro w hw
    rcases List.mem_append.mp hw with hw | hw
    · rcases List.mem_cons.mp hw with rfl | hw
      · exact TB_in hlk
      · rcases List.mem_cons.mp hw with rfl | hw
        · exact TB_in hstat
        · rcases List.mem_cons.mp hw with rfl | hw
          · exact TB_in hini
          · cases hw
    · exact TB_ws hcode w hw
  have hr := vx_runSX (l := l) (below := below) (meth := meth) (locs := locs) (cells := k) (slots := n) (R := R) (e := e) (Ts := TB) (nL := nL) (rest := st.map (gV ad)) (g := F0 m pc ls (stk.map (gV ad))) ⟨hx, hb, hml, hown, hts⟩ hM (vx_cwSW np hts hgd rfl hrm.1 hrm.2 ⟨hy1, hy2, hy3⟩ hR) hpre rfl hlen hl.1 hstk2 (lv_room hcat) hd hkn
  intro Tt hT X
  rcases hr Tt hT X with ⟨v, st₀, t, T', L9, h0, X', hL, e1, e3, ⟨⟨hv, hwA⟩, hF⟩, st9⟩ | ⟨q, st₀, t, T', L9, E9, ce, h0, X', hL, e1, e3, hxc, -⟩
  · cases hv
    obtain ⟨k1, k2, k3⟩ := vx_keep (A0 := fA ad s.heap.size) (A1 := fA ad H.size) h0 e1 hS (fun q _ => fA_le hS.1 q) (fun q => fA_le hS.1 q) hL hF
    obtain ⟨t2, a1, b1⟩ := hkk T'.heap (locs ++ L9) ls (by rw [e1]; exact hwA.1) k3 hl T' rfl X'
    exact ⟨t2, st9 t2 a1, b1⟩
  · exact hxc.elim
end
