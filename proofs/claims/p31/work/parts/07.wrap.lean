/-! methods with a table of their own (the law's, round a call that may throw): they return, one new cell at most -/
def OKT (l : Launch) (cc : ByteArray) (own : String) (nL : Nat) (R : Room) (G : GT) (tab : List ExceptionTableEntry) (Gx : Nat → HS → List (Nat × AV) → Nat → List AV → Prop) : Prop :=
  ∃ (p : Program) (e : Env) (s : State) (m : MethodId) (args : Array Value) (below : List Frame) (meth : Method) (c : Code) (dC : Nat → ClassId) (dI : Nat → Nat → Nat) (cA : Nat → ClassId) (ad : Nat → Nat) (Q : State → Prop),
    p.tables.exec = Jvm.exec ∧ c.code = cc ∧ c.maxLocals = nL ∧ s.vm.findClass own = some m.cls ∧ (∀ w ∈ TB, w.before args s = true) ∧ NwA s ∧ va_K (dC, dI) vwCl (tyl cA) s ∧ Inj ad ∧ ZW ad s.heap.size s ∧ c.exceptionTable.toList = tab ∧ G = Go p l e R s m args below meth c dC dI cA ad nL Q ∧
    Gx = fun ex S lv pc st => ∀ (H : Heap) (locs : List Loc) (ls : Array Slot) (q : Addr) (ce : Cell), va_P (dC, dI) vwCl (wld cA ad S) H → va_S (fA ad s.heap.size) s.heap H locs → lv_has ls nL (gL ad lv) → H[q]? = some ce → ce.vm = .none → s.vm.findClass (exC ex) = some ce.cls → vx_W p l e R s m args below meth c H locs 1 6 Q (F0 m pc ls (st.map (gV ad))) q
theorem OKT.ok {l : Launch} {cc : ByteArray} {own : String} {nL : Nat} {R : Room} {G : GT} {tab : List ExceptionTableEntry} {Gx : Nat → HS → List (Nat × AV) → Nat → List AV → Prop} (h : OKT l cc own nL R G tab Gx) : OK l cc own nL R G := by
  obtain ⟨p, e, s, m, args, below, meth, c, dC, dI, cA, ad, Q, hx, hb, hml, hown, hts, hnw, hK, hj, hzw, ht, hG, -⟩ := h
  exact ⟨p, e, s, m, args, below, meth, c, dC, dI, cA, ad, Q, hx, hb, hml, hown, hts, hnw, hK, hj, hzw, hG⟩
def CtW (l : Launch) (y : MethodName) (cc : ByteArray) (n : Nat) (ret : Option FieldType) (hh : List (Nat × Nat × Nat × Nat)) (rm : Room) (as : List AV) (S : HS) (r : Option AV) (S' : HS) : Prop :=
  ∀ dC dI cA ad sz, Inj ad → vx_Met l y (.codeWith y cc n ret hh :: TB) rm (va_Pc (as.map (gV ad)) (wPre dC dI cA ad sz S)) (wQ dC dI cA ad sz r S') (fun _ _ _ => False) 1 6 (fA ad sz)
def RtW (G : GT) (cc : ByteArray) (out : HS × Int32) : Prop := ∀ S lv pc k n x, k ≤ 1 → n ≤ 6 → out = (S, x) → decode cc pc = .ok (.ireturn, 1) → G k n S lv pc [vI x]
/-- the handler of exception e's class for pc -/
def CTb (own : String) (tab : List ExceptionTableEntry) (pc e hpc : Nat) : Prop :=
  ∃ (pre : List ExceptionTableEntry) (x : ExceptionTableEntry) (suf : List ExceptionTableEntry) (nm : String), tab = pre ++ x :: suf ∧ (∀ z ∈ pre, covers z pc = false ∨ (z.catchType ≠ 0 ∧ ∃ nm2, Cond.classLink own z.catchType nm2 ∈ TB ∧ (exC e, nm2) ∈ NCS)) ∧ covers x pc = true ∧ x.catchType ≠ 0 ∧ Cond.classLink own x.catchType nm ∈ TB ∧ Cond.castable (exC e) nm ∈ NF ∧ x.handlerPc = hpc
theorem CtW.intro {l : Launch} {y : MethodName} {cc : ByteArray} {nL : Nat} {hh : List (Nat × Nat × Nat × Nat)} {rm : Room} {as : List AV} {S : HS} {out : HS × Int32} {own : String} {lv : List (Nat × AV)} (hy : plainName y.cls = true) (ho : y.cls = own) (hrm : rm.cells = 1 ∧ rm.slots = 6) (hlv : lvA 0 as = lv) (hn : cats as ≤ nL)
    (body : ∀ G Gx, OKT l cc own nL rm G (tableOf hh) Gx → RtW G cc out → G 0 0 S lv 0 []) : CtW l y cc nL (some .int) hh rm as S (some (vI out.2)) out.1 := by
  intro dC dI cA ad sz hj
  refine vx_ofWH (cc := cc) (maxL := nL) (ret := some .int) (hh := hh) hy rfl ?_
  intro p e s m args below meth c s₁ B hml hv
  obtain ⟨rfl, hsz, ⟨hP, hK⟩, hnw, hzw⟩ := hv
  have hx := B.exec
  have hb := B.bytes
  have hr := B.returns
  have hts0 := atoms_spec (ws := .codeWith y cc nL (some .int) hh :: TB) B.pre
  have htab := vx_table (x := y) B (hts0 _ List.mem_cons_self)
  have hown : s.vm.findClass own = some m.cls := by rw [← ho]; exact findClass_of_methodNamed B.named
  have hlocks := B.notSynchronized
  subst hsz
  have hl := lv_entry (as.map (gV ad)) (n := nL) (by rw [lvA_len]; exact hn)
  rw [lg_entry_eq]
  generalize (lg_sl (as.map (gV ad)) ++ List.replicate (nL - (lg_sl (as.map (gV ad))).length) Slot.unset).toArray = ls at hl ⊢
  rw [lvA_eq, hlv] at hl
  have hG : OKT l cc own nL rm (Go p l e rm s m (as.map (gV ad)).toArray below meth c dC dI cA ad nL (vx_MQ below (wQ dC dI cA ad s.heap.size (some (vI out.2)) out.1) (fun _ _ _ => False) (as.map (gV ad)).toArray s 1 6 (fA ad s.heap.size))) (tableOf hh) _ :=
    ⟨p, e, s, m, _, below, meth, c, dC, dI, cA, ad, _, hx, hb, hml, hown, fun w hw => hts0 w (List.mem_cons_of_mem _ hw), hnw, hK, hj, hzw, htab, rfl, rfl⟩
  refine body _ _ hG ?_ s.heap [] ls hP va_S.rf hl
  intro S2 lv pc k n x h1 h2 h3 hd H locs ls hP hS hl
  subst h3
  exact W.widen h1 h2 (vx_ret (W.iret (v := x) hx hb hr (fun t ht hW => ⟨⟨rfl, by rw [ht]; exact hP, va_K.moved hW.alike hK⟩, hS.F ht⟩) hS.2.2 hd))
section
variable {l : Launch} {cc : ByteArray} {own : String} {nL : Nat} {R : Room} {G : GT} {E : Prop} {k n pc : Nat} {S : HS} {lv : List (Nat × AV)} {st : List AV} {tab : List ExceptionTableEntry} {Gx : Nat → HS → List (Nat × AV) → Nat → List AV → Prop}
theorem s_wri {out : HS × Int32} {x : Int32} (hR : RtW G cc out) (h1 : k ≤ 1) (h2 : n ≤ 6) (hd : decode cc pc = .ok (.ireturn, 1)) : some (S, x) = some out → G k n S lv pc [vI x] := fun h => hR _ _ _ _ _ _ h1 h2 (Option.some.inj h).symm hd
/-- the law's call of a method that may throw, in a method with a table -/
theorem s_wx (hG : OKT l cc own nL R G tab Gx) {α : Type} {out : α} {F : Option XO} {K HX : XO → Option α} {y : MethodName} {bytes : ByteArray} {nLy idx np ci b : Nat} {ret : Option FieldType} {rm rmT : Room} {as stk : List AV} (hret : ret ≠ none) (hd : decode cc pc = .ok (.invokevirtual idx, 3)) (hm : MV own idx ci y np) (hlk : Cond.methodLink own idx y ∈ TB) (hrec : oc b = some ci) (hcode : Cond.code y bytes nLy ret ∈ TB) (hnp : as.length = np) (hrm : rm.cells = 0 ∧ rm.slots = 0) (hrmT : rmT.cells = 1 ∧ rmT.slots = 6 ∧ rmT.frames = rm.frames ∧ rmT.locals = rm.locals) (hR : rm.frames + 1 ≤ R.frames ∧ 8 + (nLy + 11) + rm.locals ≤ R.locals) (hRc : R.cells = 1 ∧ R.slots = 6) (hst : cats st ≤ 8) (hstk : stk = as.reverse ++ vR b :: st) (hC : ∀ o, F = some o → CtX l y bytes nLy ret rm rmT (vR b :: as) S o) (kk : ∀ o, K o = some out → G 0 0 o.1 lv (pc + 3) (vI o.2.2 :: st)) (kx : ∀ o : XO, HX o = some out → Gx o.2.1 o.1 lv pc st) : F.bind (fun o => if o.2.1 = 0 then K o else HX o) = some out → G 0 0 S lv pc stk := by
  intro hE
  obtain ⟨o, h1, h2⟩ := bind_some hE
  by_cases he : o.2.1 = 0
  · rw [if_pos he] at h2
    have hc := (hC o h1).1 he
    rw [if_neg hret] at hc
    exact s_cv hG.ok hd hm hrec hcode hnp hrm hR hst ⟨Nat.zero_le _, Nat.zero_le _⟩ hstk hc (kk o h2)
  · rw [if_neg he] at h2
    have hC2 := (hC o h1).2 he
    have hX := kx o h2
    obtain ⟨p, e, s, m, args, below, meth, c, dC, dI, cA, ad, Q, hx, hb, hml, hown, hts, hnw, hK, hj, hzw, ht, rfl, rfl⟩ := hG
    intro H locs ls hP hS hl
    obtain ⟨⟨hy1, hy2, hy3⟩, hinst, hini, -, C, T, N, hc, hcls, hsel⟩ := hm
    obtain ⟨ks, hsh⟩ := oc_at hrec
    have hM := hC2 dC dI cA ad H.size hj
    have hcat : ((st.map (gV ad)).map fun v => v.category).sum ≤ 8 := by rw [cats_V]; exact hst
    have hpre : PreV s H C (ad b) (va_Pc ((vR b :: as).map (gV ad)) (wPre dC dI cA ad H.size S)) (as.map (gV ad)) := ⟨wPre.blind, va_recv (q0 := b) hK hP hc (wld_at hsh), fun U hU hW => ⟨rfl, by rw [hU], ⟨by rw [hU]; exact hP, va_K.moved hW.alike hK⟩, hnw.warm hW, hzw.to hW.alike hU hS.nil⟩⟩
    have hstk2 : stk.map (gV ad) = (as.map (gV ad)).reverse ++ Value.ref (ad b) :: st.map (gV ad) := by rw [hstk, List.map_append, List.map_reverse]; rfl
    have hlen : (as.map (gV ad)).length = np := by rw [List.length_map]; exact hnp
    have hr := vx_runV (l := l) (below := below) (meth := meth) (locs := locs) (cells := 0) (slots := 0) (R := R) (e := e) (Ts := TB) (nL := nL) (C := C) (rest := st.map (gV ad)) (g := F0 m pc ls (stk.map (gV ad))) ⟨hx, hb, hml, hown, hts⟩ hM ⟨callB_of np hts (TB_ws hcode) rfl hrmT.1 hrmT.2.1 (hts _ hini) (hts _ hlk) ⟨hy1, hy2, hy3⟩ (by rw [hrmT.2.2.1, hrmT.2.2.2]; exact hR), hts _ hinst, hts _ hsel⟩ hpre rfl hlen hl.1 hstk2 (lv_room hcat) hd ⟨by omega, by omega⟩
    intro Tt hT X
    rcases hr Tt hT X with ⟨v, st₀, t, T', L, h0, X', hL, e1, e3, hq, st9⟩ | ⟨q, st₀, t, T', L, E9, ce, h0, X', hL, e1, e3, hxc, hce, hcv, hcl, st9⟩
    · exact hq.elim
    · obtain ⟨rfl, hwA, hF⟩ := hxc
      obtain ⟨k1, k2, k3⟩ := vx_keep (A0 := fA ad s.heap.size) (A1 := fA ad H.size) h0 e1 hS (fun q _ => fA_le hS.1 q) (fun q => fA_le hS.1 q) hL hF
      obtain ⟨t2, a1, b1⟩ := hX T'.heap (locs ++ L) ls q ce (by rw [e1]; exact hwA.1) k3 hl (by rw [e1]; exact hce) hcv hcl T' rfl X'
      exact ⟨t2, st9.trans a1, b1⟩
theorem s_cx1 {α : Type} {A B : Option α} {out : α} {e e0 : Nat} (h1 : A = some out → Gx e0 S lv pc st) (h2 : B = some out → Gx e S lv pc st) : (if e = e0 then A else B) = some out → Gx e S lv pc st := by
  intro hE
  by_cases h : e = e0
  · rw [if_pos h] at hE; rw [h]; exact h1 hE
  · rw [if_neg h] at hE; exact h2 hE
theorem s_cx0 {α : Type} {out : α} {e : Nat} : (none : Option α) = some out → Gx e S lv pc st := fun h => by cases h
/-- caught: the handler begins by storing the exception in local i, which is not read any more -/
theorem s_catch (hG : OKT l cc own nL R G tab Gx) {e hpc i : Nat} {lv' : List (Nat × AV)} (hc : CTb own tab pc e hpc) (hd : (∃ q : Fin 4, q.val = i ∧ decode cc hpc = .ok (.astore_n q, 1)) ∨ decode cc hpc = .ok (.astore i, 2)) (hn : i < nL) (hlv : lv.filter (fun q => !(q.1 == i) && !(q.1 + 1 == i && cat2 q.2)) = lv') (kk1 : decode cc hpc = .ok (.astore i, 2) → E → G 1 6 S lv' (hpc + 2) []) (kk2 : (∃ q : Fin 4, q.val = i ∧ decode cc hpc = .ok (.astore_n q, 1)) → E → G 1 6 S lv' (hpc + 1) []) : E → Gx e S lv pc st := by
  intro hE
  obtain ⟨p, e9, s, m, args, below, meth, c, dC, dI, cA, ad, Q, hx, hb, hml, hown, hts, hnw, hK, hj, hzw, ht, rfl, rfl⟩ := hG
  obtain ⟨pre, x, suf, nm, hsp, hpass, hcov, h0, hlk, hcast, rfl⟩ := hc
  intro H locs ls q ce hP hS hl hce hcv hcl
  have hsub : ∀ ls' : Array Slot, lv_has ls' nL ((i, Value.ref q) :: (gL ad lv).filter (fun q => !(q.1 == i) && !(q.1 + 1 == i && q.2.category == 2))) → lv_has ls' nL (gL ad lv') := by
    intro ls' hl'
    refine ⟨hl'.1, hl'.2.1, fun z hz => hl'.2.2 z (List.mem_cons_of_mem _ ?_)⟩
    subst hlv
    unfold gL at hz ⊢
    rw [List.filter_map]
    have h9 : ((fun q : Nat × Value => !(q.1 == i) && !(q.1 + 1 == i && q.2.category == 2)) ∘ fun q : Nat × AV => (q.1, gV ad q.2)) = fun q => !(q.1 == i) && !(q.1 + 1 == i && cat2 q.2) := by
      funext z9
      simp only [Function.comp, gV_cat]
    rw [h9]
    exact hz
  refine vx_catch (name := nm) hown pre x suf (ht.trans hsp) (fun z hz => ?_) hcov h0 (hts _ hlk) (va_Nw.use rfl (hnw.1 _ hcast)) hce hcv hcl ?_
  · rcases hpass z hz with h | ⟨h1, nm2, h2, h3⟩
    · exact Or.inl h
    · exact Or.inr ⟨h1, nm2, hts _ h2, hnw.2.2 _ h3⟩
  · rcases hd with ⟨q4, h4, hd⟩ | hd
    · exact lv_astore_n hx hb hd h4 hl hn rfl (fun ls' hl' => kk2 ⟨q4, h4, hd⟩ hE H locs ls' hP hS (hsub ls' hl'))
    · exact lv_astore hx hb hd hl hn rfl (fun ls' hl' => kk1 hd hE H locs ls' hP hS (hsub ls' hl'))
theorem s_catchN (hG : OKT l cc own nL R G tab Gx) {e hpc : Nat} {q : Fin 4} {lv' : List (Nat × AV)} (hc : CTb own tab pc e hpc) (hd : decode cc hpc = .ok (.astore_n q, 1)) (hn : q.val < nL) (hlv : lv.filter (fun z => !(z.1 == q.val) && !(z.1 + 1 == q.val && cat2 z.2)) = lv') (kk : E → G 1 6 S lv' (hpc + 1) []) : E → Gx e S lv pc st :=
  s_catch hG hc (Or.inl ⟨q, rfl, hd⟩) hn hlv (fun h => by rw [hd] at h; cases h) (fun _ => kk)
theorem s_catchA (hG : OKT l cc own nL R G tab Gx) {e hpc i : Nat} {lv' : List (Nat × AV)} (hc : CTb own tab pc e hpc) (hd : decode cc hpc = .ok (.astore i, 2)) (hn : i < nL) (hlv : lv.filter (fun z => !(z.1 == i) && !(z.1 + 1 == i && cat2 z.2)) = lv') (kk : E → G 1 6 S lv' (hpc + 2) []) : E → Gx e S lv pc st :=
  s_catch hG hc (Or.inr hd) hn hlv (fun _ => kk) (fun ⟨q, _, h⟩ => by rw [hd] at h; cases h)
end
