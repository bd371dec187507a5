/-! methods that throw: out = (the state, (0 or which exception, the answer)) -/
abbrev XO : Type := HS × (Nat × Int32)
def exC (e : Nat) : String := if e = 1 then "java/lang/IndexOutOfBoundsException" else if e = 2 then "java/lang/IllegalArgumentException" else if e = 3 then "java/lang/IllegalStateException" else "java/util/NoSuchElementException"
def exI (e : Nat) : Nat := if e = 4 then 13 else 7
def exB (e : Nat) : UInt8 := if e = 4 then 13 else 7
def EA (own : String) (ic e : Nat) : List Cond := (ex_at own ic (exI e) (exB e) (exC e) "java/lang/RuntimeException" ["java/lang/Exception"]).filter vx_no
def XCw (dC : Nat → ClassId) (dI : Nat → Nat → Nat) (cA : Nat → ClassId) (ad : Nat → Nat) (sz : Nat) (e : Nat) (S : HS) : String → State → State → Prop := fun E st t => E = exC e ∧ wAt dC dI cA ad S t ∧ va_F (fA ad sz) st t
def CtT (l : Launch) (y : MethodName) (cc : ByteArray) (n : Nat) (ret : Option FieldType) (rm : Room) (as : List AV) (S : HS) (e : Nat) (S' : HS) : Prop :=
  ∀ dC dI cA ad sz, Inj ad → vx_Met l y (.code y cc n ret :: TB) rm (va_Pc (as.map (gV ad)) (wPre dC dI cA ad sz S)) (fun _ _ _ _ => False) (XCw dC dI cA ad sz e S') 1 6 (fA ad sz)
/-- the ends of a method that may throw -/
def RtX (G : GT) (cc : ByteArray) (ret : Option FieldType) (out : XO) : Prop :=
  (∀ S lv pc, ret = none → out = (S, (0, 0)) → decode cc pc = .ok (.return_, 1) → G 0 0 S lv pc []) ∧
  (∀ S lv pc ty x, ret = some ty → narrow ty (.int x) = .int x → out = (S, (0, x)) → decode cc pc = .ok (.ireturn, 1) → G 0 0 S lv pc [vI x])
/-- 'throw new E(text)' at pc, its class's number e -/
def ThW (own : String) (cc : ByteArray) (pc e : Nat) : Prop :=
  ∃ (ik is ic : Nat) (text : String), decode cc pc = .ok (.new ik, 3) ∧ decode cc (pc + 3) = .ok (.dup, 1) ∧
    ((decode cc (pc + 4) = .ok (.ldc is, 2) ∧ decode cc (pc + 6) = .ok (.invokespecial ic, 3) ∧ decode cc (pc + 9) = .ok (.athrow, 1)) ∨ (decode cc (pc + 4) = .ok (.ldc_w is, 3) ∧ decode cc (pc + 7) = .ok (.invokespecial ic, 3) ∧ decode cc (pc + 10) = .ok (.athrow, 1))) ∧
    Cond.classLink own ik (exC e) ∈ TB ∧ Cond.initialized (exC e) ∈ TB ∧ (own, is, text) ∈ STR ∧ (∀ w ∈ (EA own ic e).filter goodWord, w ∈ TB) ∧ (∀ w ∈ (EA own ic e).filter (fun w => !goodWord w), w ∈ NF) ∧ (EA own ic e).all vx_ot = true ∧ Bundle.fit (exC e) = true ∧ decode (ex_six (exB e)) 0 = .ok (.aload_n 0, 1) ∧ decode (ex_six (exB e)) 1 = .ok (.aload_n 1, 1) ∧ decode (ex_six (exB e)) 2 = .ok (.invokespecial (exI e), 3) ∧ decode (ex_six (exB e)) 5 = .ok (.return_, 1)
def ThX (own : String) (R : Room) (G : GT) (cc : ByteArray) (out : XO) : Prop :=
  ∀ S lv pc st e, e ≠ 0 → ThW own cc pc e → 5 < R.frames → 90 ≤ R.locals → cats st ≤ 8 → out = (S, (e, 0)) → G 0 0 S lv pc st
/-- a call of a method that throws -/
def XcV (l : Launch) (own : String) (R : Room) (G : GT) (cc : ByteArray) (out : XO) : Prop :=
  ∀ {y : MethodName} {bytes : ByteArray} {nLy idx ci np b pc : Nat} {ret : Option FieldType} {rm : Room} {as st : List AV} {S S' : HS} {lv : List (Nat × AV)} {stk : List AV} {e : Nat}, e ≠ 0 → decode cc pc = .ok (.invokevirtual idx, 3) → MV own idx ci y np → Cond.methodLink own idx y ∈ TB → oc b = some ci → Cond.code y bytes nLy ret ∈ TB → as.length = np → rm.cells = 1 ∧ rm.slots = 6 → (rm.frames + 1 ≤ R.frames ∧ 8 + (nLy + 11) + rm.locals ≤ R.locals) → cats st ≤ 8 → stk = as.reverse ++ vR b :: st → CtT l y bytes nLy ret rm (vR b :: as) S e S' → out = (S', (e, 0)) → G 0 0 S lv pc stk
def CtX (l : Launch) (y : MethodName) (cc : ByteArray) (n : Nat) (ret : Option FieldType) (rm rmT : Room) (as : List AV) (S : HS) (out : XO) : Prop :=
  (out.2.1 = 0 → Ct l y cc n ret rm as S (if ret = none then none else some (vI out.2.2)) out.1) ∧ (out.2.1 ≠ 0 → CtT l y cc n ret rmT as S out.2.1 out.1)
theorem nf_tab : NF.all (fun w => w.onTables) = true := by decide +kernel
theorem atS_of {L : List Cond} {args : Array Value} {s : State} (hg : ∀ w ∈ L.filter goodWord, w ∈ TB) (hb : ∀ w ∈ L.filter (fun w => !goodWord w), w ∈ NF) (hts : ∀ w ∈ TB, w.before args s = true) (hnw : NwA s) : ∀ w ∈ L, w.before args s = true :=
  vx_hat (B := NF) (fun w hw => hts w (hg w hw)) hb (fun w hw => va_Nw.use (List.all_eq_true.mp nf_tab w hw) (hnw.1 w hw))
theorem va_P.grown {D : va_G} {cl : List vw_C} {ws : va_W} {H H1 : Heap} (h : va_P D cl ws H) (hq : ∀ q : Nat, q < H.size → H1[q]? = H[q]?) : va_P D cl ws H1 := fun k q hk => (h k q hk).kept (hq _ (h k q hk).lt)
theorem CtX.intro {l : Launch} {y : MethodName} {cc : ByteArray} {nL : Nat} {ret : Option FieldType} {rm rmT : Room} {as : List AV} {S : HS} {out : XO} {own : String} {lv : List (Nat × AV)} (hl9 : l.stackTraces = false) (hy : plainName y.cls = true) (ho : y.cls = own) (hrm : rm.cells = 0 ∧ rm.slots = 0) (hrmT : rmT.cells = 1 ∧ rmT.slots = 6 ∧ rmT.frames = rm.frames ∧ rmT.locals = rm.locals) (hlv : lvA 0 as = lv) (hn : cats as ≤ nL)
    (body : ∀ R G, R.frames = rm.frames ∧ R.locals = rm.locals → OK l cc own nL R G → RtX G cc ret out → ThX own R G cc out → XcV l own R G cc out → G 0 0 S lv 0 []) : CtX l y cc nL ret rm rmT as S out := by
  refine ⟨fun he => ?_, fun he => ?_⟩
  · refine Ct.intro hy ho hrm hlv hn (fun G hG hR => body rm G ⟨rfl, rfl⟩ hG ⟨?_, ?_⟩ ?_ ?_)
    · intro S2 lv pc h1 h2 hd
      subst h2
      exact hR.1 lv pc h1 (by rw [if_pos h1]) hd
    · intro S2 lv pc ty x h1 hn2 h2 hd
      subst h2
      exact hR.2.1 lv pc ty x h1 hn2 (by rw [if_neg (by rw [h1]; exact fun h => by cases h)]) hd
    · intro S2 lv pc st e h1 _ _ _ _ h2
      subst h2
      exact absurd he h1
    · intro _ _ _ _ _ _ _ _ _ _ _ _ _ _ _ _ _ h1 _ _ _ _ _ _ _ _ _ _ _ h2
      subst h2
      exact absurd he h1
  · intro dC dI cA ad sz hj
    refine vx_ofW (cc := cc) (maxL := nL) (ret := ret) hy rfl ?_
    intro p e s m args below meth c s₁ B hml htab hv
    obtain ⟨rfl, hsz, ⟨hP, hK⟩, hnw, hzw⟩ := hv
    have hx := B.exec
    have hb := B.bytes
    have hts0 := atoms_spec (ws := .code y cc nL ret :: TB) B.pre
    have hts : ∀ w ∈ TB, w.before (as.map (gV ad)).toArray s = true := fun w hw => hts0 w (List.mem_cons_of_mem _ hw)
    have hown : s.vm.findClass own = some m.cls := by rw [← ho]; exact findClass_of_methodNamed B.named
    have hlocks := B.notSynchronized
    subst hsz
    have hl := lv_entry (as.map (gV ad)) (n := nL) (by rw [lvA_len]; exact hn)
    rw [lg_entry_eq]
    generalize (lg_sl (as.map (gV ad)) ++ List.replicate (nL - (lg_sl (as.map (gV ad))).length) Slot.unset).toArray = ls at hl ⊢
    rw [lvA_eq, hlv] at hl
    have hG : OK l cc own nL rmT (Go p l e rmT s m (as.map (gV ad)).toArray below meth c dC dI cA ad nL (vx_MQ below (fun _ _ _ _ => False) (XCw dC dI cA ad s.heap.size out.2.1 out.1) (as.map (gV ad)).toArray s 1 6 (fA ad s.heap.size))) :=
      ⟨p, e, s, m, _, below, meth, c, dC, dI, cA, ad, _, hx, hb, hml, hown, hts, hnw, hK, hj, hzw, rfl⟩
    refine body rmT _ ⟨hrmT.2.2.1, hrmT.2.2.2⟩ hG ⟨?_, ?_⟩ ?_ ?_ s.heap [] ls hP va_S.rf hl
    · intro S2 lv pc _ h2
      subst h2
      exact absurd rfl he
    · intro S2 lv pc ty x _ _ h2
      subst h2
      exact absurd rfl he
    · intro S2 lv pc st e2 h1 hT hRf hRl hcat h2 H locs ls hP hS hl
      obtain ⟨ik, is, ic, text, d0, d3, dd, hk, hini, hstr, hg, hb2, hot, hfit, s0, s1, s2, s5⟩ := hT
      obtain ⟨sa, hsa⟩ := hnw.2.1 _ hstr
      have hcat2 : ((st.map (gV ad)).map fun v => v.category).sum ≤ 8 := by rw [cats_V]; exact hcat
      have hat := atS_of hg hb2 hts hnw
      subst h2
      have hx2 : ∀ t : State, s.vm.Alike t.vm → H.size ≤ t.heap.size → (∀ q : Nat, q < H.size → t.heap[q]? = H[q]?) → XCw dC dI cA ad s.heap.size e2 S2 (exC e2) s t := fun t ht hz hq =>
        ⟨rfl, ⟨hP.grown hq, va_K.moved ht hK⟩, Nat.le_trans hS.1 hz, fun q h1 h2 => by rw [hq q (Nat.lt_of_lt_of_le h1 hS.1)]; exact hS.2.1 q h1 h2⟩
      have hot2 : ∀ w ∈ Cond.classLink own ik (exC e2) :: Cond.initialized (exC e2) :: EA own ic e2, vx_ot w = true := by
        intro w hw
        rcases List.mem_cons.mp hw with rfl | hw
        · rfl
        · rcases List.mem_cons.mp hw with rfl | hw
          · rfl
          · exact List.all_eq_true.mp hot w hw
      have hcl : rmT.cells = 1 ∧ rmT.slots = 6 := ⟨hrmT.1, hrmT.2.1⟩
      rcases dd with ⟨d4, d6, d9⟩ | ⟨d4, d6, d9⟩
      · exact ex_throwS (Y0 := "java/lang/RuntimeException") (r0 := ["java/lang/Exception"]) (ic := ic) (is := is) (sa := sa) (A := fA ad s.heap.size) hx hb hl9 hown hfit (by decide +kernel) (by decide +kernel) s0 s1 s2 s5 (hts _ hk) (hts _ hini) hsa hat hot2 hzw.1 hzw.2 hS (by rw [hml]; exact hl.1) d0 d3 d4 d6 d9 (fun x h => (htab x h).elim) hRf (by show _ + (13 * (1 + 2) + 43) ≤ _; omega) (by omega) (by omega) hlocks hx2 hS.2.2 (by omega) (by omega)
      · exact ex_throwSW (Y0 := "java/lang/RuntimeException") (r0 := ["java/lang/Exception"]) (ic := ic) (is := is) (sa := sa) (A := fA ad s.heap.size) hx hb hl9 hown hfit (by decide +kernel) (by decide +kernel) s0 s1 s2 s5 (hts _ hk) (hts _ hini) hsa hat hot2 hzw.1 hzw.2 hS (by rw [hml]; exact hl.1) d0 d3 d4 d6 d9 (fun x h => (htab x h).elim) hRf (by show _ + (13 * (1 + 2) + 43) ≤ _; omega) (by omega) (by omega) hlocks hx2 hS.2.2 (by omega) (by omega)
    · intro y2 bytes nLy idx ci np b pc ret2 rm2 as2 st S2 S3 lv stk e2 h1 hd hm hlk2 hrec hcode hnp hrm2 hR hst hstk hC h2 H locs ls hP hS hl
      subst h2
      obtain ⟨⟨hy1, hy2, hy3⟩, hinst, hini, hlk, C, T, N, hc, hcls, hsel⟩ := hm
      obtain ⟨ks, hsh⟩ := oc_at hrec
      have hM := hC dC dI cA ad H.size hj
      have hcat : ((st.map (gV ad)).map fun v => v.category).sum ≤ 8 := by rw [cats_V]; exact hst
      have hpre : PreV s H C (ad b) (va_Pc ((vR b :: as2).map (gV ad)) (wPre dC dI cA ad H.size S2)) (as2.map (gV ad)) := ⟨wPre.blind, va_recv (q0 := b) hK hP hc (wld_at hsh), fun U hU hW => ⟨rfl, by rw [hU], ⟨by rw [hU]; exact hP, va_K.moved hW.alike hK⟩, hnw.warm hW, hzw.to hW.alike hU hS.nil⟩⟩
      have hstk2 : stk.map (gV ad) = (as2.map (gV ad)).reverse ++ Value.ref (ad b) :: st.map (gV ad) := by rw [hstk, List.map_append, List.map_reverse]; rfl
      have hlen : (as2.map (gV ad)).length = np := by rw [List.length_map]; exact hnp
      have hr := vx_runV (l := l) (below := below) (meth := meth) (locs := locs) (cells := 0) (slots := 0) (R := rmT) (e := e) (Ts := TB) (nL := nL) (C := C) (rest := st.map (gV ad)) (g := F0 m pc ls (stk.map (gV ad))) ⟨hx, hb, hml, hown, hts⟩ hM ⟨callB_of np hts (TB_ws hcode) rfl hrm2.1 hrm2.2 (hts _ hini) (hts _ hlk2) ⟨hy1, hy2, hy3⟩ hR, hts _ hinst, hts _ hsel⟩ hpre rfl hlen hl.1 hstk2 (lv_room hcat) hd ⟨by omega, by omega⟩
      intro Tt hT X
      rcases hr Tt hT X with ⟨v, st₀, t, T', L, h0, X', hL, e1, e3, hq, st9⟩ | ⟨q, st₀, t, T', L, E9, ce, h0, X', hL, e1, e3, hxc, hce, hcv, hcl, st9⟩
      · exact hq.elim
      · obtain ⟨hE9, hwA, hF⟩ := hxc
        obtain ⟨k1, k2, k3⟩ := vx_keep (A0 := fA ad s.heap.size) (A1 := fA ad H.size) h0 e1 hS (fun q _ => fA_le hS.1 q) (fun q => fA_le hS.1 q) hL hF
        have hW9 := vx_out (p := p) (l := l) (e := e) (R := rmT) (below := below) (c := c) (args := (as.map (gV ad)).toArray) (cells := 0 + 1) (slots := 0 + 6) (mc := 1) (ms := 6) (free := fA ad s.heap.size) (Qc := fun _ _ _ _ => False) (XC := XCw dC dI cA ad s.heap.size e2 S3) (pc := pc) (ls := ls) (rest := st.map (gV ad)) (m := m) (H := T'.heap) (q := q) (E := E9) (ce := ce) (fun x h => (htab x h).elim) hlocks (by rw [e1]; exact hce) hcv hcl (fun t9 ht hA9 => ⟨hE9, ⟨by rw [ht, e1]; exact hwA.1, va_K.moved hA9 hK⟩, by rw [ht]; exact k3.1, fun q h1 h2 => by rw [ht]; exact k3.2.1 q h1 h2⟩) k3.2.2 (by omega) (by omega)
        obtain ⟨t2, a1, b1⟩ := hW9 T' rfl X'
        exact ⟨t2, st9.trans a1, b1⟩
theorem s_xI {l : Launch} {cc : ByteArray} {own : String} {nL : Nat} {R : Room} {G : GT} {pc : Nat} {S : HS} {lv : List (Nat × AV)} {st : List AV} (hG : OK l cc own nL R G) {out : XO} (hX : XcV l own R G cc out) {F : Option XO} {K : XO → Option XO} {y : MethodName} {bytes : ByteArray} {nLy idx np ci b : Nat} {ret : Option FieldType} {rm rmT : Room} {as stk : List AV} (hret : ret ≠ none) (hd : decode cc pc = .ok (.invokevirtual idx, 3)) (hm : MV own idx ci y np) (hlk : Cond.methodLink own idx y ∈ TB) (hrec : oc b = some ci) (hcode : Cond.code y bytes nLy ret ∈ TB) (hnp : as.length = np) (hrm : rm.cells = 0 ∧ rm.slots = 0) (hrmT : rmT.cells = 1 ∧ rmT.slots = 6 ∧ rmT.frames = rm.frames ∧ rmT.locals = rm.locals) (hR : rm.frames + 1 ≤ R.frames ∧ 8 + (nLy + 11) + rm.locals ≤ R.locals) (hst : cats st ≤ 8) (hstk : stk = as.reverse ++ vR b :: st) (hC : ∀ o, F = some o → CtX l y bytes nLy ret rm rmT (vR b :: as) S o) (kk : ∀ o, K o = some out → G 0 0 o.1 lv (pc + 3) (vI o.2.2 :: st)) : F.bind (fun o => if o.2.1 = 0 then K o else some (o.1, (o.2.1, 0))) = some out → G 0 0 S lv pc stk := by
  intro hE
  obtain ⟨o, h1, h2⟩ := bind_some hE
  by_cases he : o.2.1 = 0
  · rw [if_pos he] at h2
    have hc := (hC o h1).1 he
    rw [if_neg hret] at hc
    exact s_cv hG hd hm hrec hcode hnp hrm hR hst ⟨Nat.zero_le _, Nat.zero_le _⟩ hstk hc (kk o h2)
  · rw [if_neg he] at h2
    cases h2
    exact hX he hd hm hlk hrec hcode hnp ⟨hrmT.1, hrmT.2.1⟩ (by rw [hrmT.2.2.1, hrmT.2.2.2]; exact hR) hst hstk ((hC o h1).2 he) rfl
theorem s_xV {l : Launch} {cc : ByteArray} {own : String} {nL : Nat} {R : Room} {G : GT} {pc : Nat} {S : HS} {lv : List (Nat × AV)} {st : List AV} (hG : OK l cc own nL R G) {out : XO} (hX : XcV l own R G cc out) {F : Option XO} {K : XO → Option XO} {y : MethodName} {bytes : ByteArray} {nLy idx np ci b : Nat} {ret : Option FieldType} {rm rmT : Room} {as stk : List AV} (hret : ret = none) (hd : decode cc pc = .ok (.invokevirtual idx, 3)) (hm : MV own idx ci y np) (hlk : Cond.methodLink own idx y ∈ TB) (hrec : oc b = some ci) (hcode : Cond.code y bytes nLy ret ∈ TB) (hnp : as.length = np) (hrm : rm.cells = 0 ∧ rm.slots = 0) (hrmT : rmT.cells = 1 ∧ rmT.slots = 6 ∧ rmT.frames = rm.frames ∧ rmT.locals = rm.locals) (hR : rm.frames + 1 ≤ R.frames ∧ 8 + (nLy + 11) + rm.locals ≤ R.locals) (hst : cats st ≤ 8) (hstk : stk = as.reverse ++ vR b :: st) (hC : ∀ o, F = some o → CtX l y bytes nLy ret rm rmT (vR b :: as) S o) (kk : ∀ o, K o = some out → G 0 0 o.1 lv (pc + 3) (st)) : F.bind (fun o => if o.2.1 = 0 then K o else some (o.1, (o.2.1, 0))) = some out → G 0 0 S lv pc stk := by
  intro hE
  obtain ⟨o, h1, h2⟩ := bind_some hE
  by_cases he : o.2.1 = 0
  · rw [if_pos he] at h2
    have hc := (hC o h1).1 he
    rw [if_pos hret] at hc
    exact s_cv hG hd hm hrec hcode hnp hrm hR hst ⟨Nat.zero_le _, Nat.zero_le _⟩ hstk hc (kk o h2)
  · rw [if_neg he] at h2
    cases h2
    exact hX he hd hm hlk hrec hcode hnp ⟨hrmT.1, hrmT.2.1⟩ (by rw [hrmT.2.2.1, hrmT.2.2.2]; exact hR) hst hstk ((hC o h1).2 he) rfl
theorem s_thr {cc : ByteArray} {own : String} {R : Room} {G : GT} {pc : Nat} {S : HS} {lv : List (Nat × AV)} {st : List AV} {out : XO} (hT : ThX own R G cc out) {e : Nat} (he : e ≠ 0) (hw : ThW own cc pc e) (hR : 5 < R.frames ∧ 90 ≤ R.locals) (hst : cats st ≤ 8) : some (S, (e, (0 : Int32))) = some out → G 0 0 S lv pc st := fun h => hT _ _ _ _ _ he hw hR.1 hR.2 hst (Option.some.inj h).symm
theorem s_xrv {cc : ByteArray} {G : GT} {pc : Nat} {S : HS} {lv : List (Nat × AV)} {out : XO} (hR : RtX G cc none out) (hd : decode cc pc = .ok (.return_, 1)) : some (S, ((0 : Nat), (0 : Int32))) = some out → G 0 0 S lv pc [] := fun h => hR.1 _ _ _ rfl (Option.some.inj h).symm hd
theorem s_xri {cc : ByteArray} {G : GT} {pc : Nat} {S : HS} {lv : List (Nat × AV)} {x : Int32} {out : XO} (hR : RtX G cc (some .int) out) (hd : decode cc pc = .ok (.ireturn, 1)) : some (S, ((0 : Nat), x)) = some out → G 0 0 S lv pc [vI x] := fun h => hR.2 _ _ _ _ _ rfl rfl (Option.some.inj h).symm hd
theorem s_xrz {cc : ByteArray} {G : GT} {pc : Nat} {S : HS} {lv : List (Nat × AV)} {x : Int32} {out : XO} (hR : RtX G cc (some .boolean) out) (hd : decode cc pc = .ok (.ireturn, 1)) : (if nz x = true then some (S, ((0 : Nat), x)) else none) = some out → G 0 0 S lv pc [vI x] := fun h => by
  by_cases hn : nz x = true
  · rw [if_pos hn] at h; exact hR.2 _ _ _ _ _ rfl (nz_ok hn).1 (Option.some.inj h).symm hd
  · rw [if_neg hn] at h; cases h
theorem s_xrc {cc : ByteArray} {G : GT} {pc : Nat} {S : HS} {lv : List (Nat × AV)} {x : Int32} {out : XO} (hR : RtX G cc (some .char) out) (hd : decode cc pc = .ok (.ireturn, 1)) : (if ch x = true then some (S, ((0 : Nat), x)) else none) = some out → G 0 0 S lv pc [vI x] := fun h => by
  by_cases hn : ch x = true
  · rw [if_pos hn] at h; exact hR.2 _ _ _ _ _ rfl (ch_ok hn) (Option.some.inj h).symm hd
  · rw [if_neg hn] at h; cases h
