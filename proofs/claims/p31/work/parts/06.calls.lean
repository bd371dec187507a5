/-! calls, returns, contracts out of a walk -/
theorem va_S.nil {A : Nat → Prop} {H0 H : Heap} {locs : List Loc} (h : va_S A H0 H locs) : va_S A H0 H [] := ⟨h.1, h.2.1, fun _ q => absurd q List.not_mem_nil⟩
def cats (st : List AV) : Nat := (st.map fun v => if cat2 v then 2 else 1).sum
theorem cats_V (ad : Nat → Nat) (st : List AV) : ((st.map (gV ad)).map fun v => v.category).sum = cats st := by
  unfold cats
  rw [List.map_map]
  congr 1
  apply List.map_congr_left
  intro v _
  rcases v with z | z | r
  · rfl
  · rfl
  · cases r <;> rfl
def yOK (y : MethodName) (np : Nat) : Prop := y.cls ≠ "java/lang/invoke/MethodHandle" ∧ y.cls ≠ "java/lang/invoke/VarHandle" ∧ (parseMethodDescriptor y.desc).map (fun d => d.parameters.length) = some np
def ML (own : String) (idx : Nat) (y : MethodName) : Prop := Cond.methodLink own idx y ∈ TB ∨ ∃ host, Cond.methodLinkNest own idx y host ∈ NF
def MS (own : String) (idx : Nat) (y : MethodName) (np : Nat) : Prop := yOK y np ∧ Cond.static y ∈ TB ∧ Cond.initialized y.cls ∈ TB ∧ ML own idx y
def MV (own : String) (idx ci : Nat) (y : MethodName) (np : Nat) : Prop := yOK y np ∧ Cond.instanceMethod y ∈ TB ∧ Cond.initialized y.cls ∈ TB ∧ ML own idx y ∧ ∃ C T N, vwCl[ci]? = some (C, T, N) ∧ y.cls = C ∧ Cond.selects C y y ∈ TB
theorem TB_in {w : Cond} (h : w ∈ TB) : w ∈ TB ∧ ((w.onTables && w.keeps) = true ∨ ∃ ty, w = .arrayClass ty) := ⟨h, good_of_word (List.all_eq_true.mp TB_good w h)⟩
theorem TB_ws {c : Cond} (h : c ∈ TB) : GoodIn TB (c :: TB) := fun w hw => by
  rcases List.mem_cons.mp hw with rfl | hw
  · exact TB_in h
  · exact TB_in hw
section
variable {p : Program} {l : Launch} {e : Env} {R : Room} {s : State} {m : MethodId} {args : Array Value} {below : List Frame} {meth : Method} {c : Code} {H : Heap} {locs : List Loc} {cells slots : Nat} {Q : State → Prop} {dC : Nat → ClassId} {dI : Nat → Nat → Nat} {cA : Nat → ClassId} {ad : Nat → Nat}
theorem callw {pc : Nat} {ls : Array Slot} {st0 rest : List Value} {a : Array Value} {r : Option AV} {S' : HS} (hr : va_Run p l e R s m args below meth c H locs cells slots 0 0 (F0 m pc ls st0) rest (wQ dC dI cA ad H.size r S' a) (fA ad H.size)) (hS : va_S (fA ad s.heap.size) s.heap H locs)
    (kk : ∀ (H1 : Heap) (locs1 : List Loc), va_P (dC, dI) vwCl (wld cA ad S') H1 → va_S (fA ad s.heap.size) s.heap H1 locs1 → W p l e R s m args below meth c H1 locs1 cells slots Q (F0 m (pc + 3) ls ((r.map (gV ad)).toList ++ rest))) : W p l e R s m args below meth c H locs cells slots Q (F0 m pc ls st0) := by
  intro T hT X
  obtain ⟨v, st₀, t, T', L, h0, X', hL, e1, e2, ⟨⟨hv, hwA⟩, hz, hk⟩, st⟩ := hr T hT X
  cases hv
  rw [h0] at hz hk
  have hA : ∀ q, fA ad H.size q → fA ad s.heap.size q := fA_le hS.1
  obtain ⟨t2, a1, b1⟩ := kk T'.heap (locs ++ L) (by rw [e1]; exact hwA.1)
    ⟨Nat.le_trans hS.1 (by rw [e1]; exact hz), fun q h1 h2 => by rw [e1, hk q (Nat.lt_of_lt_of_le h1 hS.1) (fun z => h2 (hA q z))]; exact hS.2.1 q h1 h2, fun q hq => by
      rcases List.mem_append.mp hq with h | h
      · exact hS.2.2 q h
      · exact hA _ (hL q h)⟩ T' rfl X'
  exact ⟨t2, st t2 a1, b1⟩
end
section
variable {l : Launch} {cc : ByteArray} {own : String} {nL : Nat} {R : Room} {G : GT} {E : Prop} {k n pc : Nat} {S : HS} {lv : List (Nat × AV)} {st : List AV}
theorem s_cs (hG : OK l cc own nL R G) {y : MethodName} {bytes : ByteArray} {nLy idx np : Nat} {ret : Option FieldType} {rm : Room} {as stk : List AV} {r : Option AV} {S' : HS} (hd : decode cc pc = .ok (.invokestatic idx, 3)) (hm : MS own idx y np) (hcode : Cond.code y bytes nLy ret ∈ TB) (hnp : as.length = np) (hrm : rm.cells = 0 ∧ rm.slots = 0) (hR : rm.frames + 1 ≤ R.frames ∧ 8 + (nLy + 11) + rm.locals ≤ R.locals) (hst : cats st ≤ 8) (hkn : k ≤ R.cells ∧ n ≤ R.slots) (hstk : stk = as.reverse ++ st) (hC : Ct l y bytes nLy ret rm as S r S') (kk : G k n S' lv (pc + 3) (r.toList ++ st)) : G k n S lv pc stk := by
  obtain ⟨p, e, s, m, args, below, meth, c, dC, dI, cA, ad, Q, hx, hb, hml, hown, hts, hnw, hK, hj, hzw, rfl⟩ := hG
  intro H locs ls hP hS hl
  obtain ⟨⟨hy1, hy2, hy3⟩, hstat, hini, hlk⟩ := hm
  have hM := hC dC dI cA ad H.size hj
  have hcat : ((st.map (gV ad)).map fun v => v.category).sum ≤ 8 := by rw [cats_V]; exact hst
  have hpre : PreS s H (va_Pc (as.map (gV ad)) (wPre dC dI cA ad H.size S)) (as.map (gV ad)) := ⟨wPre.blind, fun U hU hW => ⟨rfl, by rw [hU], ⟨by rw [hU]; exact hP, va_K.moved hW.alike hK⟩, hnw.warm hW, hzw.to hW.alike hU (hS.nil)⟩⟩
  have hstk2 : stk.map (gV ad) = (as.map (gV ad)).reverse ++ st.map (gV ad) := by rw [hstk, List.map_append, List.map_reverse]
  have hlen : (as.map (gV ad)).length = np := by rw [List.length_map]; exact hnp
  refine callw (dC := dC) (dI := dI) (cA := cA) (r := r) (S' := S') (rest := st.map (gV ad)) (a := (as.map (gV ad)).toArray) ?_ hS (fun H1 locs1 hP1 hS1 => ?_)
  · rcases hlk with hlk | ⟨host, hlk⟩
    · exact va_runS (Ts := TB) (nL := nL) ⟨hx, hb, hml, hown, hts⟩ hM ⟨callB_of np hts (TB_ws hcode) rfl hrm.1 hrm.2 (hts _ hini) (hts _ hlk) ⟨hy1, hy2, hy3⟩ hR, hts _ hstat⟩ hpre rfl hlen hl.1 hstk2 (lv_room hcat) hd ⟨hkn.1, hkn.2⟩
    · exact va_runSN (Ts := TB) (nL := nL) (host := host) ⟨hx, hb, hml, hown, hts⟩ hM ⟨va_cnB np hts (TB_ws hcode) rfl hrm.1 hrm.2 (hnw.1 _ hlk) (hts _ hini) ⟨hy1, hy2, hy3⟩ hR, hts _ hstat, trivial⟩ hpre rfl hlen hl.1 hstk2 (lv_room hcat) hd ⟨hkn.1, hkn.2⟩
  · have h := kk H1 locs1 ls hP1 hS1 hl
    rw [List.map_append] at h
    cases r <;> exact h
theorem s_cv (hG : OK l cc own nL R G) {y : MethodName} {bytes : ByteArray} {nLy idx ci np b : Nat} {ret : Option FieldType} {rm : Room} {as stk : List AV} {r : Option AV} {S' : HS} (hd : decode cc pc = .ok (.invokevirtual idx, 3)) (hm : MV own idx ci y np) (hrec : oc b = some ci) (hcode : Cond.code y bytes nLy ret ∈ TB) (hnp : as.length = np) (hrm : rm.cells = 0 ∧ rm.slots = 0) (hR : rm.frames + 1 ≤ R.frames ∧ 8 + (nLy + 11) + rm.locals ≤ R.locals) (hst : cats st ≤ 8) (hkn : k ≤ R.cells ∧ n ≤ R.slots) (hstk : stk = as.reverse ++ vR b :: st) (hC : Ct l y bytes nLy ret rm (vR b :: as) S r S') (kk : G k n S' lv (pc + 3) (r.toList ++ st)) : G k n S lv pc stk := by
  obtain ⟨p, e, s, m, args, below, meth, c, dC, dI, cA, ad, Q, hx, hb, hml, hown, hts, hnw, hK, hj, hzw, rfl⟩ := hG
  intro H locs ls hP hS hl
  obtain ⟨⟨hy1, hy2, hy3⟩, hinst, hini, hlk, C, T, N, hc, hcls, hsel⟩ := hm
  obtain ⟨ks, hsh⟩ := oc_at hrec
  have hM := hC dC dI cA ad H.size hj
  have hcat : ((st.map (gV ad)).map fun v => v.category).sum ≤ 8 := by rw [cats_V]; exact hst
  have hpre : PreV s H C (ad b) (va_Pc ((vR b :: as).map (gV ad)) (wPre dC dI cA ad H.size S)) (as.map (gV ad)) := ⟨wPre.blind, va_recv (q0 := b) hK hP hc (wld_at hsh), fun U hU hW => ⟨rfl, by rw [hU], ⟨by rw [hU]; exact hP, va_K.moved hW.alike hK⟩, hnw.warm hW, hzw.to hW.alike hU (hS.nil)⟩⟩
  have hstk2 : stk.map (gV ad) = (as.map (gV ad)).reverse ++ Value.ref (ad b) :: st.map (gV ad) := by rw [hstk, List.map_append, List.map_reverse]; rfl
  have hlen : (as.map (gV ad)).length = np := by rw [List.length_map]; exact hnp
  refine callw (dC := dC) (dI := dI) (cA := cA) (r := r) (S' := S') (rest := st.map (gV ad)) (a := (Value.ref (ad b) :: as.map (gV ad)).toArray) ?_ hS (fun H1 locs1 hP1 hS1 => ?_)
  · rcases hlk with hlk | ⟨host, hlk⟩
    · exact va_runV (Ts := TB) (nL := nL) (C := C) ⟨hx, hb, hml, hown, hts⟩ hM ⟨callB_of np hts (TB_ws hcode) rfl hrm.1 hrm.2 (hts _ hini) (hts _ hlk) ⟨hy1, hy2, hy3⟩ hR, hts _ hinst, hts _ hsel⟩ hpre rfl hlen hl.1 hstk2 (lv_room hcat) hd ⟨hkn.1, hkn.2⟩
    · exact va_runVN (Ts := TB) (nL := nL) (C := C) (host := host) ⟨hx, hb, hml, hown, hts⟩ hM ⟨va_cnB np hts (TB_ws hcode) rfl hrm.1 hrm.2 (hnw.1 _ hlk) (hts _ hini) ⟨hy1, hy2, hy3⟩ hR, hts _ hinst, hts _ hsel⟩ hpre rfl hlen hl.1 hstk2 (lv_room hcat) hd ⟨hkn.1, hkn.2⟩
  · have h := kk H1 locs1 ls hP1 hS1 hl
    rw [List.map_append] at h
    cases r <;> exact h
theorem bind_some {α β : Type} {F : Option α} {K : α → Option β} {out : β} (h : F.bind K = some out) : ∃ o, F = some o ∧ K o = some out := by
  cases F with
  | none => cases h
  | some o => exact ⟨o, rfl, h⟩
/-- the ends of a method that doesn't throw -/
def Rt (G : GT) (cc : ByteArray) (ret : Option FieldType) (r : Option AV) (S' : HS) : Prop :=
  (∀ lv pc, ret = none → r = none → decode cc pc = .ok (.return_, 1) → G 0 0 S' lv pc []) ∧
  (∀ lv pc ty x, ret = some ty → narrow ty (.int x) = .int x → r = some (vI x) → decode cc pc = .ok (.ireturn, 1) → G 0 0 S' lv pc [vI x]) ∧
  (∀ lv pc x, ret = some .long → r = some (vL x) → decode cc pc = .ok (.lreturn, 1) → G 0 0 S' lv pc [vL x])
def lvA : Nat → List AV → List (Nat × AV)
  | _, [] => []
  | i, v :: vs => (i, v) :: lvA (if cat2 v then i + 2 else i + 1) vs
theorem lvA_eq (ad : Nat → Nat) : ∀ (as : List AV) (i : Nat), lv_args i (as.map (gV ad)) = gL ad (lvA i as)
  | [], _ => rfl
  | v :: vs, i => by
    have h : (if (gV ad v).category = 2 then i + 2 else i + 1) = (if cat2 v = true then i + 2 else i + 1) := by
      have h2 := gV_cat ad v
      cases hc : cat2 v <;> rw [hc] at h2 <;> simp at h2 <;> simp [h2]
    show (i, gV ad v) :: lv_args (if (gV ad v).category = 2 then i + 2 else i + 1) (vs.map (gV ad)) = _
    rw [h, lvA_eq ad vs]
    rfl
theorem lvA_len (ad : Nat → Nat) : ∀ (as : List AV), (lg_sl (as.map (gV ad))).length = cats as
  | [] => rfl
  | v :: vs => by
    have h2 := gV_cat ad v
    have ih := lvA_len ad vs
    unfold lg_sl cats at *
    rw [List.map_cons, List.flatMap_cons, List.length_append, ih, List.map_cons, List.sum_cons]
    congr 1
    cases hc : cat2 v <;> rw [hc] at h2 <;> simp at h2 <;> simp [h2]
theorem Ct.intro {y : MethodName} {cc : ByteArray} {nL : Nat} {ret : Option FieldType} {rm : Room} {as : List AV} {S : HS} {r : Option AV} {S' : HS} {own : String} {lv : List (Nat × AV)} (hy : plainName y.cls = true) (ho : y.cls = own) (hrm : rm.cells = 0 ∧ rm.slots = 0) (hlv : lvA 0 as = lv) (hn : cats as ≤ nL)
    (body : ∀ G, OK l cc own nL rm G → Rt G cc ret r S' → G 0 0 S lv 0 []) : Ct l y cc nL ret rm as S r S' := by
  intro dC dI cA ad sz hj
  refine Met.ofW (cc := cc) (maxL := nL) (ret := ret) hy rfl ?_
  intro p e s m args below meth c s₁ B hml hv
  obtain ⟨rfl, hsz, ⟨hP, hK⟩, hnw, hzw⟩ := hv
  have hx := B.exec
  have hb := B.bytes
  have hr := B.returns
  have hts0 := atoms_spec (ws := .code y cc nL ret :: TB) B.pre
  have hown : s.vm.findClass own = some m.cls := by rw [← ho]; exact findClass_of_methodNamed B.named
  have hlocks := B.notSynchronized
  subst hsz
  have hl := lv_entry (as.map (gV ad)) (n := nL) (by rw [lvA_len]; exact hn)
  rw [lg_entry_eq]
  generalize (lg_sl (as.map (gV ad)) ++ List.replicate (nL - (lg_sl (as.map (gV ad))).length) Slot.unset).toArray = ls at hl ⊢
  rw [lvA_eq, hlv] at hl
  have hG : OK l cc own nL rm (Go p l e rm s m (as.map (gV ad)).toArray below meth c dC dI cA ad nL (MQ below (wQ dC dI cA ad s.heap.size r S') (as.map (gV ad)).toArray s 0 0 (fA ad s.heap.size))) :=
    ⟨p, e, s, m, _, below, meth, c, dC, dI, cA, ad, _, hx, hb, hml, hown, fun w hw => hts0 w (List.mem_cons_of_mem _ hw), hnw, hK, hj, hzw, rfl⟩
  refine body _ hG ⟨?_, ?_, ?_⟩ s.heap [] ls hP va_S.rf hl
  · intro lv pc h1 h2 hd H locs ls hP hS hl
    rw [h1] at hr
    exact W.vret hx hb hr (fun t ht hW => ⟨⟨by rw [h2]; rfl, by rw [ht]; exact hP, va_K.moved hW.alike hK⟩, hS.F ht⟩) hS.2.2 hd
  · intro lv pc ty x h1 hnr h2 hd H locs ls hP hS hl
    rw [h1] at hr
    exact W.zret (v := x) hx hb hr hnr (fun t ht hW => ⟨⟨by rw [h2]; rfl, by rw [ht]; exact hP, va_K.moved hW.alike hK⟩, hS.F ht⟩) hS.2.2 hd
  · intro lv pc x h1 h2 hd H locs ls hP hS hl
    rw [h1] at hr
    exact W.lret (v := x) hx hb hr (fun t ht hW => ⟨⟨by rw [h2]; rfl, by rw [ht]; exact hP, va_K.moved hW.alike hK⟩, hS.F ht⟩) hS.2.2 hd
end
/-- a loop's function: the body, so often -/
def fx {V α : Type} (F : (V → Option α) → V → Option α) : Nat → V → Option α
  | 0, _ => none
  | n + 1, v => F (fx F n) v
def FU : Nat := 1000
theorem s_csP {l : Launch} {cc : ByteArray} {own : String} {nL : Nat} {R : Room} {G : GT} {k n pc : Nat} {S : HS} {lv : List (Nat × AV)} {st : List AV} (hG : OK l cc own nL R G) {α : Type} {out : α} {F : Option (Int32)} {K : Int32 → Option α} {y : MethodName} {bytes : ByteArray} {nLy idx np : Nat} {ret : Option FieldType} {rm : Room} {as stk : List AV} (hd : decode cc pc = .ok (.invokestatic idx, 3)) (hm : MS own idx y np) (hcode : Cond.code y bytes nLy ret ∈ TB) (hnp : as.length = np) (hrm : rm.cells = 0 ∧ rm.slots = 0) (hR : rm.frames + 1 ≤ R.frames ∧ 8 + (nLy + 11) + rm.locals ≤ R.locals) (hst : cats st ≤ 8) (hkn : k ≤ R.cells ∧ n ≤ R.slots) (hstk : stk = as.reverse ++ st) (hC : ∀ o, F = some o → Ct l y bytes nLy ret rm (as) S (some (vI o)) (S)) (kk : ∀ o, K o = some out → G k n (S) lv (pc + 3) (vI o :: st)) : F.bind K = some out → G k n S lv pc stk := by
  intro hE
  obtain ⟨o, h1, h2⟩ := bind_some hE
  exact s_cs hG hd hm hcode hnp hrm hR hst hkn hstk (hC o h1) (kk o h2)
theorem s_csQ {l : Launch} {cc : ByteArray} {own : String} {nL : Nat} {R : Room} {G : GT} {k n pc : Nat} {S : HS} {lv : List (Nat × AV)} {st : List AV} (hG : OK l cc own nL R G) {α : Type} {out : α} {F : Option (Int64)} {K : Int64 → Option α} {y : MethodName} {bytes : ByteArray} {nLy idx np : Nat} {ret : Option FieldType} {rm : Room} {as stk : List AV} (hd : decode cc pc = .ok (.invokestatic idx, 3)) (hm : MS own idx y np) (hcode : Cond.code y bytes nLy ret ∈ TB) (hnp : as.length = np) (hrm : rm.cells = 0 ∧ rm.slots = 0) (hR : rm.frames + 1 ≤ R.frames ∧ 8 + (nLy + 11) + rm.locals ≤ R.locals) (hst : cats st ≤ 8) (hkn : k ≤ R.cells ∧ n ≤ R.slots) (hstk : stk = as.reverse ++ st) (hC : ∀ o, F = some o → Ct l y bytes nLy ret rm (as) S (some (vL o)) (S)) (kk : ∀ o, K o = some out → G k n (S) lv (pc + 3) (vL o :: st)) : F.bind K = some out → G k n S lv pc stk := by
  intro hE
  obtain ⟨o, h1, h2⟩ := bind_some hE
  exact s_cs hG hd hm hcode hnp hrm hR hst hkn hstk (hC o h1) (kk o h2)
theorem s_csI {l : Launch} {cc : ByteArray} {own : String} {nL : Nat} {R : Room} {G : GT} {k n pc : Nat} {S : HS} {lv : List (Nat × AV)} {st : List AV} (hG : OK l cc own nL R G) {α : Type} {out : α} {F : Option (HS × Int32)} {K : (HS × Int32) → Option α} {y : MethodName} {bytes : ByteArray} {nLy idx np : Nat} {ret : Option FieldType} {rm : Room} {as stk : List AV} (hd : decode cc pc = .ok (.invokestatic idx, 3)) (hm : MS own idx y np) (hcode : Cond.code y bytes nLy ret ∈ TB) (hnp : as.length = np) (hrm : rm.cells = 0 ∧ rm.slots = 0) (hR : rm.frames + 1 ≤ R.frames ∧ 8 + (nLy + 11) + rm.locals ≤ R.locals) (hst : cats st ≤ 8) (hkn : k ≤ R.cells ∧ n ≤ R.slots) (hstk : stk = as.reverse ++ st) (hC : ∀ o, F = some o → Ct l y bytes nLy ret rm (as) S (some (vI o.2)) (o.1)) (kk : ∀ o, K o = some out → G k n (o.1) lv (pc + 3) (vI o.2 :: st)) : F.bind K = some out → G k n S lv pc stk := by
  intro hE
  obtain ⟨o, h1, h2⟩ := bind_some hE
  exact s_cs hG hd hm hcode hnp hrm hR hst hkn hstk (hC o h1) (kk o h2)
theorem s_csV {l : Launch} {cc : ByteArray} {own : String} {nL : Nat} {R : Room} {G : GT} {k n pc : Nat} {S : HS} {lv : List (Nat × AV)} {st : List AV} (hG : OK l cc own nL R G) {α : Type} {out : α} {F : Option (HS)} {K : HS → Option α} {y : MethodName} {bytes : ByteArray} {nLy idx np : Nat} {ret : Option FieldType} {rm : Room} {as stk : List AV} (hd : decode cc pc = .ok (.invokestatic idx, 3)) (hm : MS own idx y np) (hcode : Cond.code y bytes nLy ret ∈ TB) (hnp : as.length = np) (hrm : rm.cells = 0 ∧ rm.slots = 0) (hR : rm.frames + 1 ≤ R.frames ∧ 8 + (nLy + 11) + rm.locals ≤ R.locals) (hst : cats st ≤ 8) (hkn : k ≤ R.cells ∧ n ≤ R.slots) (hstk : stk = as.reverse ++ st) (hC : ∀ o, F = some o → Ct l y bytes nLy ret rm (as) S (none) (o)) (kk : ∀ o, K o = some out → G k n (o) lv (pc + 3) (st)) : F.bind K = some out → G k n S lv pc stk := by
  intro hE
  obtain ⟨o, h1, h2⟩ := bind_some hE
  exact s_cs hG hd hm hcode hnp hrm hR hst hkn hstk (hC o h1) (kk o h2)
theorem s_cvP {l : Launch} {cc : ByteArray} {own : String} {nL : Nat} {R : Room} {G : GT} {k n pc : Nat} {S : HS} {lv : List (Nat × AV)} {st : List AV} (hG : OK l cc own nL R G) {α : Type} {out : α} {F : Option (Int32)} {K : Int32 → Option α} {y : MethodName} {bytes : ByteArray} {nLy idx np : Nat} {ci b : Nat} {ret : Option FieldType} {rm : Room} {as stk : List AV} (hd : decode cc pc = .ok (.invokevirtual idx, 3)) (hm : MV own idx ci y np) (hrec : oc b = some ci) (hcode : Cond.code y bytes nLy ret ∈ TB) (hnp : as.length = np) (hrm : rm.cells = 0 ∧ rm.slots = 0) (hR : rm.frames + 1 ≤ R.frames ∧ 8 + (nLy + 11) + rm.locals ≤ R.locals) (hst : cats st ≤ 8) (hkn : k ≤ R.cells ∧ n ≤ R.slots) (hstk : stk = as.reverse ++ vR b :: st) (hC : ∀ o, F = some o → Ct l y bytes nLy ret rm (vR b :: as) S (some (vI o)) (S)) (kk : ∀ o, K o = some out → G k n (S) lv (pc + 3) (vI o :: st)) : F.bind K = some out → G k n S lv pc stk := by
  intro hE
  obtain ⟨o, h1, h2⟩ := bind_some hE
  exact s_cv hG hd hm hrec hcode hnp hrm hR hst hkn hstk (hC o h1) (kk o h2)
theorem s_cvQ {l : Launch} {cc : ByteArray} {own : String} {nL : Nat} {R : Room} {G : GT} {k n pc : Nat} {S : HS} {lv : List (Nat × AV)} {st : List AV} (hG : OK l cc own nL R G) {α : Type} {out : α} {F : Option (Int64)} {K : Int64 → Option α} {y : MethodName} {bytes : ByteArray} {nLy idx np : Nat} {ci b : Nat} {ret : Option FieldType} {rm : Room} {as stk : List AV} (hd : decode cc pc = .ok (.invokevirtual idx, 3)) (hm : MV own idx ci y np) (hrec : oc b = some ci) (hcode : Cond.code y bytes nLy ret ∈ TB) (hnp : as.length = np) (hrm : rm.cells = 0 ∧ rm.slots = 0) (hR : rm.frames + 1 ≤ R.frames ∧ 8 + (nLy + 11) + rm.locals ≤ R.locals) (hst : cats st ≤ 8) (hkn : k ≤ R.cells ∧ n ≤ R.slots) (hstk : stk = as.reverse ++ vR b :: st) (hC : ∀ o, F = some o → Ct l y bytes nLy ret rm (vR b :: as) S (some (vL o)) (S)) (kk : ∀ o, K o = some out → G k n (S) lv (pc + 3) (vL o :: st)) : F.bind K = some out → G k n S lv pc stk := by
  intro hE
  obtain ⟨o, h1, h2⟩ := bind_some hE
  exact s_cv hG hd hm hrec hcode hnp hrm hR hst hkn hstk (hC o h1) (kk o h2)
theorem s_cvI {l : Launch} {cc : ByteArray} {own : String} {nL : Nat} {R : Room} {G : GT} {k n pc : Nat} {S : HS} {lv : List (Nat × AV)} {st : List AV} (hG : OK l cc own nL R G) {α : Type} {out : α} {F : Option (HS × Int32)} {K : (HS × Int32) → Option α} {y : MethodName} {bytes : ByteArray} {nLy idx np : Nat} {ci b : Nat} {ret : Option FieldType} {rm : Room} {as stk : List AV} (hd : decode cc pc = .ok (.invokevirtual idx, 3)) (hm : MV own idx ci y np) (hrec : oc b = some ci) (hcode : Cond.code y bytes nLy ret ∈ TB) (hnp : as.length = np) (hrm : rm.cells = 0 ∧ rm.slots = 0) (hR : rm.frames + 1 ≤ R.frames ∧ 8 + (nLy + 11) + rm.locals ≤ R.locals) (hst : cats st ≤ 8) (hkn : k ≤ R.cells ∧ n ≤ R.slots) (hstk : stk = as.reverse ++ vR b :: st) (hC : ∀ o, F = some o → Ct l y bytes nLy ret rm (vR b :: as) S (some (vI o.2)) (o.1)) (kk : ∀ o, K o = some out → G k n (o.1) lv (pc + 3) (vI o.2 :: st)) : F.bind K = some out → G k n S lv pc stk := by
  intro hE
  obtain ⟨o, h1, h2⟩ := bind_some hE
  exact s_cv hG hd hm hrec hcode hnp hrm hR hst hkn hstk (hC o h1) (kk o h2)
theorem s_cvV {l : Launch} {cc : ByteArray} {own : String} {nL : Nat} {R : Room} {G : GT} {k n pc : Nat} {S : HS} {lv : List (Nat × AV)} {st : List AV} (hG : OK l cc own nL R G) {α : Type} {out : α} {F : Option (HS)} {K : HS → Option α} {y : MethodName} {bytes : ByteArray} {nLy idx np : Nat} {ci b : Nat} {ret : Option FieldType} {rm : Room} {as stk : List AV} (hd : decode cc pc = .ok (.invokevirtual idx, 3)) (hm : MV own idx ci y np) (hrec : oc b = some ci) (hcode : Cond.code y bytes nLy ret ∈ TB) (hnp : as.length = np) (hrm : rm.cells = 0 ∧ rm.slots = 0) (hR : rm.frames + 1 ≤ R.frames ∧ 8 + (nLy + 11) + rm.locals ≤ R.locals) (hst : cats st ≤ 8) (hkn : k ≤ R.cells ∧ n ≤ R.slots) (hstk : stk = as.reverse ++ vR b :: st) (hC : ∀ o, F = some o → Ct l y bytes nLy ret rm (vR b :: as) S (none) (o)) (kk : ∀ o, K o = some out → G k n (o) lv (pc + 3) (st)) : F.bind K = some out → G k n S lv pc stk := by
  intro hE
  obtain ⟨o, h1, h2⟩ := bind_some hE
  exact s_cv hG hd hm hrec hcode hnp hrm hR hst hkn hstk (hC o h1) (kk o h2)
