/-! the law's own methods: calls that may cost cells, the one with a table (asks), the script read by a method -/
def CtK (l : Launch) (y : MethodName) (cc : ByteArray) (n : Nat) (ret : Option FieldType) (rm : Room) (as : List AV) (S : HS) (r : Option AV) (S' : HS) : Prop :=
  ∀ dC dI cA ad sz, Inj ad → Met l y (.code y cc n ret :: TB) rm (va_Pc (as.map (gV ad)) (wPre dC dI cA ad sz S)) (wQ dC dI cA ad sz r S') rm.cells rm.slots (fA ad sz)
def RtK (G : GT) (cc : ByteArray) (ret : Option FieldType) (r : Option AV) (S' : HS) (K N : Nat) : Prop :=
  (∀ k n lv pc, k ≤ K → n ≤ N → ret = none → r = none → decode cc pc = .ok (.return_, 1) → G k n S' lv pc []) ∧
  (∀ k n lv pc ty x, k ≤ K → n ≤ N → ret = some ty → narrow ty (.int x) = .int x → r = some (vI x) → decode cc pc = .ok (.ireturn, 1) → G k n S' lv pc [vI x])
theorem CtK.intro {l : Launch} {y : MethodName} {cc : ByteArray} {nL : Nat} {ret : Option FieldType} {rm : Room} {as : List AV} {S : HS} {r : Option AV} {S' : HS} {own : String} {lv : List (Nat × AV)} (hy : plainName y.cls = true) (ho : y.cls = own) (hlv : lvA 0 as = lv) (hn : cats as ≤ nL)
    (body : ∀ G, OK l cc own nL rm G → RtK G cc ret r S' rm.cells rm.slots → G 0 0 S lv 0 []) : CtK l y cc nL ret rm as S r S' := by
  intro dC dI cA ad sz hj
  refine Met.ofW (cc := cc) (maxL := nL) (ret := ret) hy rfl ?_
  intro p e s m args below meth c s₁ B hml hv
  obtain ⟨rfl, hsz, ⟨hP, hK⟩, hnw, hzw⟩ := hv
  have hx := B.exec
  have hb := B.bytes
  have hr := B.returns
  have hts0 := atoms_spec (ws := .code y cc nL ret :: TB) B.pre
  have hown : s.vm.findClass own = some m.cls := by rw [← ho]; exact findClass_of_methodNamed B.named
  have hlocks := B.notSynchronized
  subst hsz
  have hl := lv_entry (as.map (gV ad)) (n := nL) (by rw [lvA_len]; exact hn)
  rw [lg_entry_eq]
  generalize (lg_sl (as.map (gV ad)) ++ List.replicate (nL - (lg_sl (as.map (gV ad))).length) Slot.unset).toArray = ls at hl ⊢
  rw [lvA_eq, hlv] at hl
  have hG : OK l cc own nL rm (Go p l e rm s m (as.map (gV ad)).toArray below meth c dC dI cA ad nL (MQ below (wQ dC dI cA ad s.heap.size r S') (as.map (gV ad)).toArray s rm.cells rm.slots (fA ad s.heap.size))) :=
    ⟨p, e, s, m, _, below, meth, c, dC, dI, cA, ad, _, hx, hb, hml, hown, fun w hw => hts0 w (List.mem_cons_of_mem _ hw), hnw, hK, hj, hzw, rfl⟩
  refine body _ hG ⟨?_, ?_⟩ s.heap [] ls hP va_S.rf hl
  · intro k n lv pc hk9 hn9 h1 h2 hd H locs ls hP hS hl
    rw [h1] at hr
    exact W.widen hk9 hn9 (W.vret hx hb hr (fun t ht hW => ⟨⟨by rw [h2]; rfl, by rw [ht]; exact hP, va_K.moved hW.alike hK⟩, hS.F ht⟩) hS.2.2 hd)
  · intro k n lv pc ty x hk9 hn9 h1 hnr h2 hd H locs ls hP hS hl
    rw [h1] at hr
    exact W.widen hk9 hn9 (W.zret (v := x) hx hb hr hnr (fun t ht hW => ⟨⟨by rw [h2]; rfl, by rw [ht]; exact hP, va_K.moved hW.alike hK⟩, hS.F ht⟩) hS.2.2 hd)
section
variable {p : Program} {l : Launch} {e : Env} {R : Room} {s : State} {m : MethodId} {args : Array Value} {below : List Frame} {meth : Method} {c : Code} {H : Heap} {locs : List Loc} {cells slots : Nat} {Q : State → Prop} {dC : Nat → ClassId} {dI : Nat → Nat → Nat} {cA : Nat → ClassId} {ad : Nat → Nat}
theorem callwK {pc mc ms : Nat} {ls : Array Slot} {st0 rest : List Value} {a : Array Value} {r : Option AV} {S' : HS} (hr : va_Run p l e R s m args below meth c H locs cells slots mc ms (F0 m pc ls st0) rest (wQ dC dI cA ad H.size r S' a) (fA ad H.size)) (hS : va_S (fA ad s.heap.size) s.heap H locs)
    (kk : ∀ (H1 : Heap) (locs1 : List Loc), va_P (dC, dI) vwCl (wld cA ad S') H1 → va_S (fA ad s.heap.size) s.heap H1 locs1 → W p l e R s m args below meth c H1 locs1 (cells + mc) (slots + ms) Q (F0 m (pc + 3) ls ((r.map (gV ad)).toList ++ rest))) : W p l e R s m args below meth c H locs cells slots Q (F0 m pc ls st0) := by
  intro T hT X
  obtain ⟨v, st₀, t, T', L, h0, X', hL, e1, e2, ⟨⟨hv, hwA⟩, hz, hk⟩, st⟩ := hr T hT X
  cases hv
  rw [h0] at hz hk
  have hA : ∀ q, fA ad H.size q → fA ad s.heap.size q := fA_le hS.1
  obtain ⟨t2, a1, b1⟩ := kk T'.heap (locs ++ L) (by rw [e1]; exact hwA.1)
    ⟨Nat.le_trans hS.1 (by rw [e1]; exact hz), fun q h1 h2 => by rw [e1, hk q (Nat.lt_of_lt_of_le h1 hS.1) (fun z => h2 (hA q z))]; exact hS.2.1 q h1 h2, fun q hq => by
      rcases List.mem_append.mp hq with h | h
      · exact hS.2.2 q h
      · exact hA _ (hL q h)⟩ T' rfl X'
  exact ⟨t2, st t2 a1, b1⟩
end
section
variable {l : Launch} {cc : ByteArray} {own : String} {nL : Nat} {R : Room} {G : GT} {E : Prop} {k n pc : Nat} {S : HS} {lv : List (Nat × AV)} {st : List AV}
theorem s_csK (hG : OK l cc own nL R G) {y : MethodName} {bytes : ByteArray} {nLy idx np K N : Nat} {ret : Option FieldType} {rm : Room} {as stk : List AV} {r : Option AV} {S' : HS} (hd : decode cc pc = .ok (.invokestatic idx, 3)) (hm : MS own idx y np) (hcode : Cond.code y bytes nLy ret ∈ TB) (hnp : as.length = np) (hrm : rm.cells = K ∧ rm.slots = N) (hR : rm.frames + 1 ≤ R.frames ∧ 8 + (nLy + 11) + rm.locals ≤ R.locals) (hst : cats st ≤ 8) (hkn : k + K ≤ R.cells ∧ n + N ≤ R.slots) (hstk : stk = as.reverse ++ st) (hC : CtK l y bytes nLy ret rm as S r S') (kk : G (k + K) (n + N) S' lv (pc + 3) (r.toList ++ st)) : G k n S lv pc stk := by
  obtain ⟨p, e, s, m, args, below, meth, c, dC, dI, cA, ad, Q, hx, hb, hml, hown, hts, hnw, hK, hj, hzw, rfl⟩ := hG
  intro H locs ls hP hS hl
  obtain ⟨⟨hy1, hy2, hy3⟩, hstat, hini, hlk⟩ := hm
  obtain ⟨rfl, rfl⟩ := hrm
  have hM := hC dC dI cA ad H.size hj
  have hcat : ((st.map (gV ad)).map fun v => v.category).sum ≤ 8 := by rw [cats_V]; exact hst
  have hpre : PreS s H (va_Pc (as.map (gV ad)) (wPre dC dI cA ad H.size S)) (as.map (gV ad)) := ⟨wPre.blind, fun U hU hW => ⟨rfl, by rw [hU], ⟨by rw [hU]; exact hP, va_K.moved hW.alike hK⟩, hnw.warm hW, hzw.to hW.alike hU (hS.nil)⟩⟩
  have hstk2 : stk.map (gV ad) = (as.map (gV ad)).reverse ++ st.map (gV ad) := by rw [hstk, List.map_append, List.map_reverse]
  have hlen : (as.map (gV ad)).length = np := by rw [List.length_map]; exact hnp
  refine callwK (dC := dC) (dI := dI) (cA := cA) (r := r) (S' := S') (mc := rm.cells) (ms := rm.slots) (rest := st.map (gV ad)) (a := (as.map (gV ad)).toArray) ?_ hS (fun H1 locs1 hP1 hS1 => ?_)
  · rcases hlk with hlk | ⟨host, hlk⟩
    · exact va_runS (Ts := TB) (nL := nL) ⟨hx, hb, hml, hown, hts⟩ hM ⟨callB_of np hts (TB_ws hcode) rfl rfl rfl (hts _ hini) (hts _ hlk) ⟨hy1, hy2, hy3⟩ hR, hts _ hstat⟩ hpre rfl hlen hl.1 hstk2 (lv_room hcat) hd ⟨hkn.1, hkn.2⟩
    · exact va_runSN (Ts := TB) (nL := nL) (host := host) ⟨hx, hb, hml, hown, hts⟩ hM ⟨va_cnB np hts (TB_ws hcode) rfl rfl rfl (hnw.1 _ hlk) (hts _ hini) ⟨hy1, hy2, hy3⟩ hR, hts _ hstat, trivial⟩ hpre rfl hlen hl.1 hstk2 (lv_room hcat) hd ⟨hkn.1, hkn.2⟩
  · have h := kk H1 locs1 ls hP1 hS1 hl
    rw [List.map_append] at h
    cases r <;> exact h
theorem s_csKI (hG : OK l cc own nL R G) {α : Type} {out : α} {F : Option (HS × Int32)} {K : (HS × Int32) → Option α} {y : MethodName} {bytes : ByteArray} {nLy idx np KK NN : Nat} {ret : Option FieldType} {rm : Room} {as stk : List AV} (hd : decode cc pc = .ok (.invokestatic idx, 3)) (hm : MS own idx y np) (hcode : Cond.code y bytes nLy ret ∈ TB) (hnp : as.length = np) (hrm : rm.cells = KK ∧ rm.slots = NN) (hR : rm.frames + 1 ≤ R.frames ∧ 8 + (nLy + 11) + rm.locals ≤ R.locals) (hst : cats st ≤ 8) (hkn : k + KK ≤ R.cells ∧ n + NN ≤ R.slots) (hstk : stk = as.reverse ++ st) (hC : ∀ o, F = some o → CtK l y bytes nLy ret rm as S (some (vI o.2)) o.1) (kk : ∀ o, K o = some out → G (k + KK) (n + NN) o.1 lv (pc + 3) (vI o.2 :: st)) : F.bind K = some out → G k n S lv pc stk := by
  intro hE
  obtain ⟨o, h1, h2⟩ := bind_some hE
  exact s_csK hG hd hm hcode hnp hrm hR hst hkn hstk (hC o h1) (kk o h2)
theorem s_csKV (hG : OK l cc own nL R G) {α : Type} {out : α} {F : Option HS} {K : HS → Option α} {y : MethodName} {bytes : ByteArray} {nLy idx np KK NN : Nat} {ret : Option FieldType} {rm : Room} {as stk : List AV} (hd : decode cc pc = .ok (.invokestatic idx, 3)) (hm : MS own idx y np) (hcode : Cond.code y bytes nLy ret ∈ TB) (hnp : as.length = np) (hrm : rm.cells = KK ∧ rm.slots = NN) (hR : rm.frames + 1 ≤ R.frames ∧ 8 + (nLy + 11) + rm.locals ≤ R.locals) (hst : cats st ≤ 8) (hkn : k + KK ≤ R.cells ∧ n + NN ≤ R.slots) (hstk : stk = as.reverse ++ st) (hC : ∀ o, F = some o → CtK l y bytes nLy ret rm as S none o) (kk : ∀ o, K o = some out → G (k + KK) (n + NN) o lv (pc + 3) st) : F.bind K = some out → G k n S lv pc stk := by
  intro hE
  obtain ⟨o, h1, h2⟩ := bind_some hE
  exact s_csK hG hd hm hcode hnp hrm hR hst hkn hstk (hC o h1) (kk o h2)
/-- a call of a method that may throw, where it doesn't -/
theorem s_dI (hG : OK l cc own nL R G) {α : Type} {out : α} {F : Option XO} {K : XO → Option α} {y : MethodName} {bytes : ByteArray} {nLy idx np ci b : Nat} {ret : Option FieldType} {rm rmT : Room} {as stk : List AV} (hret : ret ≠ none) (hd : decode cc pc = .ok (.invokevirtual idx, 3)) (hm : MV own idx ci y np) (hrec : oc b = some ci) (hcode : Cond.code y bytes nLy ret ∈ TB) (hnp : as.length = np) (hrm : rm.cells = 0 ∧ rm.slots = 0) (hR : rm.frames + 1 ≤ R.frames ∧ 8 + (nLy + 11) + rm.locals ≤ R.locals) (hst : cats st ≤ 8) (hkn : k ≤ R.cells ∧ n ≤ R.slots) (hstk : stk = as.reverse ++ vR b :: st) (hC : ∀ o, F = some o → CtX l y bytes nLy ret rm rmT (vR b :: as) S o) (kk : ∀ o, K o = some out → G k n o.1 lv (pc + 3) (vI o.2.2 :: st)) : F.bind (fun o => if o.2.1 = 0 then K o else none) = some out → G k n S lv pc stk := by
  intro hE
  obtain ⟨o, h1, h2⟩ := bind_some hE
  by_cases he : o.2.1 = 0
  · rw [if_pos he] at h2
    have hc := (hC o h1).1 he
    rw [if_neg hret] at hc
    exact s_cv hG hd hm hrec hcode hnp hrm hR hst hkn hstk hc (kk o h2)
  · rw [if_neg he] at h2
    cases h2
theorem s_rKV {out : HS} {K N : Nat} (hR : RtK G cc none none out K N) (hk : k ≤ K) (hn : n ≤ N) (hd : decode cc pc = .ok (.return_, 1)) : some S = some out → G k n S lv pc [] := fun h => by cases h; exact hR.1 _ _ _ _ hk hn rfl rfl hd
theorem s_rKI {out : HS × Int32} {x : Int32} {K N : Nat} (hR : RtK G cc (some .int) (some (vI out.2)) out.1 K N) (hk : k ≤ K) (hn : n ≤ N) (hd : decode cc pc = .ok (.ireturn, 1)) : some (S, x) = some out → G k n S lv pc [vI x] := fun h => by cases h; exact hR.2 _ _ _ _ _ _ hk hn rfl rfl rfl hd
theorem s_rKZ {out : HS × Int32} {x : Int32} {K N : Nat} (hR : RtK G cc (some .boolean) (some (vI out.2)) out.1 K N) (hk : k ≤ K) (hn : n ≤ N) (hd : decode cc pc = .ok (.ireturn, 1)) : (if nz x = true then some (S, x) else none) = some out → G k n S lv pc [vI x] := fun h => by
  by_cases hz : nz x = true
  · rw [if_pos hz] at h; cases h; exact hR.2 _ _ _ _ _ _ hk hn rfl (nz_ok hz).1 rfl hd
  · rw [if_neg hz] at h; cases h
end
/-! the method with a table -/
def CtA (l : Launch) (y : MethodName) (cc : ByteArray) (n : Nat) (hh : List (Nat × Nat × Nat × Nat)) (rm : Room) (as : List AV) (S : HS) (r : Option AV) (S' : HS) : Prop :=
  ∀ dC dI cA ad sz, Inj ad → vx_Met l y (.codeWith y cc n (some .int) hh :: TB) rm (va_Pc (as.map (gV ad)) (wPre dC dI cA ad sz S)) (wQ dC dI cA ad sz r S') (fun _ _ _ => False) rm.cells rm.slots (fA ad sz)
def RtA (G : GT) (cc : ByteArray) (out : XO) (mc : Nat) : Prop := ∀ S lv pc k n e x, k ≤ mc → n ≤ 6 * mc → out = (S, (e, x)) → decode cc pc = .ok (.ireturn, 1) → G k n S lv pc [vI x]
theorem CtA.intro {l : Launch} {y : MethodName} {cc : ByteArray} {nL : Nat} {hh : List (Nat × Nat × Nat × Nat)} {rm : Room} {as : List AV} {S : HS} {out : XO} {own : String} {lv : List (Nat × AV)} {mc : Nat} (hy : plainName y.cls = true) (ho : y.cls = own) (hrm : rm.cells = mc ∧ rm.slots = 6 * mc) (hlv : lvA 0 as = lv) (hn : cats as ≤ nL)
    (body : ∀ G Gx, OKT l cc own nL rm G (tableOf hh) Gx → RtA G cc out mc → G 0 0 S lv 0 []) : CtA l y cc nL hh rm as S (some (vI out.2.2)) out.1 := by
  intro dC dI cA ad sz hj
  refine vx_ofWH (cc := cc) (maxL := nL) (ret := some .int) (hh := hh) hy rfl ?_
  intro p e s m args below meth c s₁ B hml hv
  obtain ⟨rfl, hsz, ⟨hP, hK⟩, hnw, hzw⟩ := hv
  have hx := B.exec
  have hb := B.bytes
  have hr := B.returns
  have hts0 := atoms_spec (ws := .codeWith y cc nL (some .int) hh :: TB) B.pre
  have htab := vx_table (x := y) B (hts0 _ List.mem_cons_self)
  have hown : s.vm.findClass own = some m.cls := by rw [← ho]; exact findClass_of_methodNamed B.named
  have hlocks := B.notSynchronized
  subst hsz
  have hl := lv_entry (as.map (gV ad)) (n := nL) (by rw [lvA_len]; exact hn)
  rw [lg_entry_eq]
  generalize (lg_sl (as.map (gV ad)) ++ List.replicate (nL - (lg_sl (as.map (gV ad))).length) Slot.unset).toArray = ls at hl ⊢
  rw [lvA_eq, hlv] at hl
  have hG : OKT l cc own nL rm (Go p l e rm s m (as.map (gV ad)).toArray below meth c dC dI cA ad nL (vx_MQ below (wQ dC dI cA ad s.heap.size (some (vI out.2.2)) out.1) (fun _ _ _ => False) (as.map (gV ad)).toArray s rm.cells rm.slots (fA ad s.heap.size))) (tableOf hh) _ :=
    ⟨p, e, s, m, _, below, meth, c, dC, dI, cA, ad, _, hx, hb, hml, hown, fun w hw => hts0 w (List.mem_cons_of_mem _ hw), hnw, hK, hj, hzw, htab, rfl, rfl⟩
  refine body _ _ hG ?_ s.heap [] ls hP va_S.rf hl
  intro S2 lv pc k n e9 x h1 h2 h3 hd H locs ls hP hS hl
  subst h3
  exact W.widen (by rw [hrm.1]; exact h1) (by rw [hrm.2]; exact h2) (vx_ret (W.iret (v := x) hx hb hr (fun t ht hW => ⟨⟨rfl, by rw [ht]; exact hP, va_K.moved hW.alike hK⟩, hS.F ht⟩) hS.2.2 hd))
section
variable {l : Launch} {cc : ByteArray} {own : String} {nL : Nat} {R : Room} {G : GT} {E : Prop} {k n pc : Nat} {S : HS} {lv : List (Nat × AV)} {st : List AV} {tab : List ExceptionTableEntry} {Gx : Nat → HS → List (Nat × AV) → Nat → List AV → Prop}
theorem s_wri0 {out : XO} {x : Int32} {mc : Nat} (hR : RtA G cc out mc) (hd : decode cc pc = .ok (.ireturn, 1)) : some (S, ((0 : Nat), x)) = some out → G 0 0 S lv pc [vI x] := fun h => hR _ _ _ _ _ _ _ (Nat.zero_le _) (Nat.zero_le _) (Option.some.inj h).symm hd
theorem s_wriE {out : XO} {x : Int32} {mc e : Nat} (hR : RtA G cc out mc) (h01 : mc = 1 ∨ (mc = 0 ∧ out.2.1 = 0)) (he : e ≠ 0) (hd : decode cc pc = .ok (.ireturn, 1)) : some (S, (e, x)) = some out → G 1 6 S lv pc [vI x] := fun h => by
  rcases h01 with h9 | ⟨-, h9⟩
  · exact hR _ _ _ _ _ _ _ (by omega) (by omega) (Option.some.inj h).symm hd
  · cases h; exact absurd h9 he
theorem s_wx2 (hG : OKT l cc own nL R G tab Gx) {out : XO} {mc : Nat} (h01 : mc = 1 ∨ (mc = 0 ∧ out.2.1 = 0)) {F : Option XO} {K HX : XO → Option XO} {y : MethodName} {bytes : ByteArray} {nLy idx np ci b : Nat} {ret : Option FieldType} {rm rmT : Room} {as stk : List AV} (hret : ret ≠ none) (hd : decode cc pc = .ok (.invokevirtual idx, 3)) (hm : MV own idx ci y np) (hlk : Cond.methodLink own idx y ∈ TB) (hrec : oc b = some ci) (hcode : Cond.code y bytes nLy ret ∈ TB) (hnp : as.length = np) (hrm : rm.cells = 0 ∧ rm.slots = 0) (hrmT : rmT.cells = 1 ∧ rmT.slots = 6 ∧ rmT.frames = rm.frames ∧ rmT.locals = rm.locals) (hR : rm.frames + 1 ≤ R.frames ∧ 8 + (nLy + 11) + rm.locals ≤ R.locals) (hRc : R.cells = mc ∧ R.slots = 6 * mc) (hst : cats st ≤ 8) (hstk : stk = as.reverse ++ vR b :: st) (hC : ∀ o, F = some o → CtX l y bytes nLy ret rm rmT (vR b :: as) S o) (hHX : ∀ o r, HX o = some r → r.2.1 ≠ 0) (kk : ∀ o, K o = some out → G 0 0 o.1 lv (pc + 3) (vI o.2.2 :: st)) (kx : ∀ o : XO, HX o = some out → Gx o.2.1 o.1 lv pc st) : F.bind (fun o => if o.2.1 = 0 then K o else HX o) = some out → G 0 0 S lv pc stk := by
  rcases h01 with h1 | ⟨-, h0⟩
  · subst h1
    exact s_wx hG hret hd hm hlk hrec hcode hnp hrm hrmT hR hRc hst hstk hC kk kx
  · intro hE
    obtain ⟨o, h1, h2⟩ := bind_some hE
    by_cases he : o.2.1 = 0
    · rw [if_pos he] at h2
      have hc := (hC o h1).1 he
      rw [if_neg hret] at hc
      exact s_cv hG.ok hd hm hrec hcode hnp hrm hR hst ⟨Nat.zero_le _, Nat.zero_le _⟩ hstk hc (kk o h2)
    · rw [if_neg he] at h2
      exact absurd h0 (hHX o out h2)
theorem hx1 {e e0 : Nat} {A B : Option XO} {r : XO} (h1 : A = some r → r.2.1 ≠ 0) (h2 : B = some r → r.2.1 ≠ 0) : (if e = e0 then A else B) = some r → r.2.1 ≠ 0 := by
  intro h
  by_cases q : e = e0
  · rw [if_pos q] at h; exact h1 h
  · rw [if_neg q] at h; exact h2 h
theorem hx2 {S : HS} {e : Nat} {x : Int32} {r : XO} (he : e ≠ 0) : some (S, (e, x)) = some r → r.2.1 ≠ 0 := fun h => by cases h; exact he
theorem hx0 {r : XO} : (none : Option XO) = some r → r.2.1 ≠ 0 := fun h => by cases h
/-- a call of it -/
theorem s_lwA (hG : OK l cc own nL R G) {y : MethodName} {bytes : ByteArray} {nLy idx np mc : Nat} {hh : List (Nat × Nat × Nat × Nat)} {rm : Room} {as stk : List AV} {o : XO} (hd : decode cc pc = .ok (.invokestatic idx, 3)) (hm : MS own idx y np) (hlk : Cond.methodLink own idx y ∈ TB) (hcode : Cond.codeWith y bytes nLy (some .int) hh ∈ TB) (hnp : as.length = np) (hrm : rm.cells = mc ∧ rm.slots = 6 * mc) (hR : rm.frames + 1 ≤ R.frames ∧ 8 + (nLy + 11) + rm.locals ≤ R.locals) (hst : cats st ≤ 8) (hkn : k + mc ≤ R.cells ∧ n + 6 * mc ≤ R.slots) (hstk : stk = as.reverse ++ st) (hC2 : CtA l y bytes nLy hh rm as S (some (vI o.2.2)) o.1) (hkk : G (k + mc) (n + 6 * mc) o.1 lv (pc + 3) (vI o.2.2 :: st)) : G k n S lv pc stk := by
  obtain ⟨p, e, s, m, args, below, meth, c, dC, dI, cA, ad, Q, hx, hb, hml, hown, hts, hnw, hK, hj, hzw, rfl⟩ := hG
  intro H locs ls hP hS hl
  obtain ⟨⟨hy1, hy2, hy3⟩, hstat, hini, -⟩ := hm
  have hM := hC2 dC dI cA ad H.size hj
  rw [hrm.1, hrm.2] at hM
  have hcat : ((st.map (gV ad)).map fun v => v.category).sum ≤ 8 := by rw [cats_V]; exact hst
  have hpre : PreS s H (va_Pc (as.map (gV ad)) (wPre dC dI cA ad H.size S)) (as.map (gV ad)) := ⟨wPre.blind, fun U hU hW => ⟨rfl, by rw [hU], ⟨by rw [hU]; exact hP, va_K.moved hW.alike hK⟩, hnw.warm hW, hzw.to hW.alike hU hS.nil⟩⟩
  have hstk2 : stk.map (gV ad) = (as.map (gV ad)).reverse ++ st.map (gV ad) := by rw [hstk, List.map_append, List.map_reverse]
  have hlen : (as.map (gV ad)).length = np := by rw [List.length_map]; exact hnp
  have hgd : GoodIn TB (va_wsS own idx y (Cond.codeWith y bytes nLy (some .int) hh :: TB)) := by
    intro w hw
    rcases List.mem_append.mp hw with hw | hw
    · rcases List.mem_cons.mp hw with rfl | hw
      · exact TB_in hlk
      · rcases List.mem_cons.mp hw with rfl | hw
        · exact TB_in hstat
        · rcases List.mem_cons.mp hw with rfl | hw
          · exact TB_in hini
          · cases hw
    · exact TB_ws hcode w hw
  have hr := vx_runSX (l := l) (below := below) (meth := meth) (locs := locs) (cells := k) (slots := n) (R := R) (e := e) (Ts := TB) (nL := nL) (rest := st.map (gV ad)) (g := F0 m pc ls (stk.map (gV ad))) ⟨hx, hb, hml, hown, hts⟩ hM (vx_cwSW np hts hgd rfl hrm.1 hrm.2 ⟨hy1, hy2, hy3⟩ hR) hpre rfl hlen hl.1 hstk2 (lv_room hcat) hd hkn
  intro Tt hT X
  rcases hr Tt hT X with ⟨v, st₀, t, T', L9, h0, X', hL, e1, e3, ⟨⟨hv, hwA⟩, hF⟩, st9⟩ | ⟨q, st₀, t, T', L9, E9, ce, h0, X', hL, e1, e3, hxc, -⟩
  · cases hv
    obtain ⟨k1, k2, k3⟩ := vx_keep (A0 := fA ad s.heap.size) (A1 := fA ad H.size) h0 e1 hS (fun q _ => fA_le hS.1 q) (fun q => fA_le hS.1 q) hL hF
    obtain ⟨t2, a1, b1⟩ := hkk T'.heap (locs ++ L9) ls (by rw [e1]; exact hwA.1) k3 hl T' rfl X'
    exact ⟨t2, st9 t2 a1, b1⟩
  · exact hxc.elim
theorem s_aY (hG : OK l cc own nL R G) {α : Type} {out : α} {F : Option XO} {K : XO → Option α} {y : MethodName} {bytes : ByteArray} {nLy idx np : Nat} {hh : List (Nat × Nat × Nat × Nat)} {rm : Nat → Room} {as stk : List AV} (hd : decode cc pc = .ok (.invokestatic idx, 3)) (hm : MS own idx y np) (hlk : Cond.methodLink own idx y ∈ TB) (hcode : Cond.codeWith y bytes nLy (some .int) hh ∈ TB) (hnp : as.length = np) (hrm : (rm 1).cells = 1 ∧ (rm 1).slots = 6) (hR : (rm 1).frames + 1 ≤ R.frames ∧ 8 + (nLy + 11) + (rm 1).locals ≤ R.locals) (hst : cats st ≤ 8) (hkn : k + 1 ≤ R.cells ∧ n + 6 ≤ R.slots) (hstk : stk = as.reverse ++ st) (hC : ∀ o mc, (mc = 1 ∨ (mc = 0 ∧ o.2.1 = 0)) → F = some o → CtA l y bytes nLy hh (rm mc) as S (some (vI o.2.2)) o.1) (kk : ∀ o, K o = some out → G (k + 1) (n + 6) o.1 lv (pc + 3) (vI o.2.2 :: st)) : F.bind K = some out → G k n S lv pc stk := by
  intro hE
  obtain ⟨o, h1, h2⟩ := bind_some hE
  exact s_lwA hG (mc := 1) hd hm hlk hcode hnp hrm hR hst hkn hstk (hC o 1 (Or.inl rfl) h1) (kk o h2)
theorem s_aN (hG : OK l cc own nL R G) {α : Type} {out : α} {F : Option XO} {K : XO → Option α} {y : MethodName} {bytes : ByteArray} {nLy idx np : Nat} {hh : List (Nat × Nat × Nat × Nat)} {rm : Nat → Room} {as stk : List AV} (hd : decode cc pc = .ok (.invokestatic idx, 3)) (hm : MS own idx y np) (hlk : Cond.methodLink own idx y ∈ TB) (hcode : Cond.codeWith y bytes nLy (some .int) hh ∈ TB) (hnp : as.length = np) (hrm : (rm 0).cells = 0 ∧ (rm 0).slots = 0) (hR : (rm 0).frames + 1 ≤ R.frames ∧ 8 + (nLy + 11) + (rm 0).locals ≤ R.locals) (hst : cats st ≤ 8) (hkn : k ≤ R.cells ∧ n ≤ R.slots) (hstk : stk = as.reverse ++ st) (hC : ∀ o mc, (mc = 1 ∨ (mc = 0 ∧ o.2.1 = 0)) → F = some o → CtA l y bytes nLy hh (rm mc) as S (some (vI o.2.2)) o.1) (kk : ∀ o, K o = some out → G k n o.1 lv (pc + 3) (vI o.2.2 :: st)) : F.bind (fun o => if o.2.1 = 0 then K o else none) = some out → G k n S lv pc stk := by
  intro hE
  obtain ⟨o, h1, h2⟩ := bind_some hE
  by_cases he : o.2.1 = 0
  · rw [if_pos he] at h2
    exact s_lwA hG (mc := 0) hd hm hlk hcode hnp hrm hR hst hkn hstk (hC o 0 (Or.inr ⟨rfl, he⟩) h1) (kk o h2)
  · rw [if_neg he] at h2
    cases h2
end
/-! a method that reads the script -/
def sPre (dC : Nat → ClassId) (dI : Nat → Nat → Nat) (cA : Nat → ClassId) (ad : Nat → Nat) (xs : Nat → Int32) (L sz : Nat) (S : HS) (U : State) : Prop := wPre dC dI cA ad sz S U ∧ va_X (ad 41) L xs U U.heap ∧ ad 41 < sz ∧ ¬ fA ad sz (ad 41)
def CtD (l : Launch) (y : MethodName) (cc : ByteArray) (n : Nat) (ret : Option FieldType) (rm : Room) (xs : Nat → Int32) (L : Nat) (as : List AV) (S : HS) (r : Option AV) (S' : HS) : Prop :=
  ∀ dC dI cA ad sz, Inj ad → Met l y (.code y cc n ret :: TB) rm (va_Pc (as.map (gV ad)) (sPre dC dI cA ad xs L sz S)) (wQ dC dI cA ad sz r S') 0 0 (fA ad sz)
theorem CtD.intro {l : Launch} {y : MethodName} {cc : ByteArray} {nL : Nat} {ret : Option FieldType} {rm : Room} {xs : Nat → Int32} {L : Nat} {as : List AV} {S : HS} {r : Option AV} {S' : HS} {own : String} {lv : List (Nat × AV)} (hy : plainName y.cls = true) (ho : y.cls = own) (hlv : lvA 0 as = lv) (hn : cats as ≤ nL)
    (body : ∀ G, OKL l cc own nL rm G xs L → Rt G cc ret r S' → G 0 0 S lv 0 []) : CtD l y cc nL ret rm xs L as S r S' := by
  intro dC dI cA ad sz hj
  refine Met.ofW (cc := cc) (maxL := nL) (ret := ret) hy rfl ?_
  intro p e s m args below meth c s₁ B hml hv
  obtain ⟨rfl, ⟨hsz, ⟨hP, hK⟩, hnw, hzw⟩, hX, hbl, hnA⟩ := hv
  have hx := B.exec
  have hb := B.bytes
  have hr := B.returns
  have hts0 := atoms_spec (ws := .code y cc nL ret :: TB) B.pre
  have hown : s.vm.findClass own = some m.cls := by rw [← ho]; exact findClass_of_methodNamed B.named
  have hlocks := B.notSynchronized
  subst hsz
  have hl := lv_entry (as.map (gV ad)) (n := nL) (by rw [lvA_len]; exact hn)
  rw [lg_entry_eq]
  generalize (lg_sl (as.map (gV ad)) ++ List.replicate (nL - (lg_sl (as.map (gV ad))).length) Slot.unset).toArray = ls at hl ⊢
  rw [lvA_eq, hlv] at hl
  have hG : OKL l cc own nL rm (Go p l e rm s m (as.map (gV ad)).toArray below meth c dC dI cA ad nL (MQ below (wQ dC dI cA ad s.heap.size r S') (as.map (gV ad)).toArray s 0 0 (fA ad s.heap.size))) xs L :=
    ⟨p, e, s, m, _, below, meth, c, dC, dI, cA, ad, _, hx, hb, hml, hown, fun w hw => hts0 w (List.mem_cons_of_mem _ hw), hnw, hK, hj, hzw, hX, hbl, hnA, rfl⟩
  refine body _ hG ⟨?_, ?_, ?_⟩ s.heap [] ls hP va_S.rf hl
  · intro lv pc h1 h2 hd H locs ls hP hS hl
    rw [h1] at hr
    exact W.vret hx hb hr (fun t ht hW => ⟨⟨by rw [h2]; rfl, by rw [ht]; exact hP, va_K.moved hW.alike hK⟩, hS.F ht⟩) hS.2.2 hd
  · intro lv pc ty x h1 hnr h2 hd H locs ls hP hS hl
    rw [h1] at hr
    exact W.zret (v := x) hx hb hr hnr (fun t ht hW => ⟨⟨by rw [h2]; rfl, by rw [ht]; exact hP, va_K.moved hW.alike hK⟩, hS.F ht⟩) hS.2.2 hd
  · intro lv pc x h1 h2 hd H locs ls hP hS hl
    rw [h1] at hr
    exact W.lret (v := x) hx hb hr (fun t ht hW => ⟨⟨by rw [h2]; rfl, by rw [ht]; exact hP, va_K.moved hW.alike hK⟩, hS.F ht⟩) hS.2.2 hd
theorem sPre.blind {dC : Nat → ClassId} {dI : Nat → Nat → Nat} {cA : Nat → ClassId} {ad : Nat → Nat} {sz L : Nat} {xs : Nat → Int32} {S : HS} {as : List Value} : FrameBlind (va_Pc as (sPre dC dI cA ad xs L sz S)) := by
  intro a U g mk h
  obtain ⟨h1, h2, h3, h4, h5⟩ := h
  obtain ⟨q1, q2⟩ := wPre.blind (as := as) a U g mk ⟨h1, h2⟩
  exact ⟨q1, q2, va_X.moved (u := U) (U := U.calling g mk a) (Vm.Alike.refl U.vm) h3, h4, h5⟩
theorem s_csD {l : Launch} {cc : ByteArray} {own : String} {nL : Nat} {R : Room} {G : GT} {k n pc : Nat} {S : HS} {lv : List (Nat × AV)} {st : List AV} {xs : Nat → Int32} {L : Nat} (hG : OKL l cc own nL R G xs L) {α : Type} {out : α} {F : Option Int32} {K : Int32 → Option α} {y : MethodName} {bytes : ByteArray} {nLy idx np : Nat} {ret : Option FieldType} {rm : Room} {as stk : List AV} (hd : decode cc pc = .ok (.invokestatic idx, 3)) (hm : MS own idx y np) (hcode : Cond.code y bytes nLy ret ∈ TB) (hnp : as.length = np) (hrm : rm.cells = 0 ∧ rm.slots = 0) (hR : rm.frames + 1 ≤ R.frames ∧ 8 + (nLy + 11) + rm.locals ≤ R.locals) (hst : cats st ≤ 8) (hkn : k ≤ R.cells ∧ n ≤ R.slots) (hstk : stk = as.reverse ++ st) (hC : ∀ o, F = some o → CtD l y bytes nLy ret rm xs L as S (some (vI o)) S) (kk : ∀ o, K o = some out → G k n S lv (pc + 3) (vI o :: st)) : F.bind K = some out → G k n S lv pc stk := by
  intro hE
  obtain ⟨o, h1, h2⟩ := bind_some hE
  have hC := hC o h1
  have kk := kk o h2
  obtain ⟨p, e, s, m, args, below, meth, c, dC, dI, cA, ad, Q, hx, hb, hml, hown, hts, hnw, hK, hj, hzw, hX, hbl, hnA, rfl⟩ := hG
  intro H locs ls hP hS hl
  obtain ⟨⟨hy1, hy2, hy3⟩, hstat, hini, hlk⟩ := hm
  have hM := hC dC dI cA ad H.size hj
  have hcat : ((st.map (gV ad)).map fun v => v.category).sum ≤ 8 := by rw [cats_V]; exact hst
  have hX2 : va_X (ad 41) L xs s H := hX.kept (hS.2.1 _ hbl hnA)
  have hpre : PreS s H (va_Pc (as.map (gV ad)) (sPre dC dI cA ad xs L H.size S)) (as.map (gV ad)) := ⟨sPre.blind, fun U hU hW => ⟨rfl, ⟨by rw [hU], ⟨by rw [hU]; exact hP, va_K.moved hW.alike hK⟩, hnw.warm hW, hzw.to hW.alike hU (hS.nil)⟩, by rw [hU]; exact va_X.moved hW.alike hX2, Nat.lt_of_lt_of_le hbl hS.1, fun q => hnA (fA_le hS.1 _ q)⟩⟩
  have hstk2 : stk.map (gV ad) = (as.map (gV ad)).reverse ++ st.map (gV ad) := by rw [hstk, List.map_append, List.map_reverse]
  have hlen : (as.map (gV ad)).length = np := by rw [List.length_map]; exact hnp
  refine callw (dC := dC) (dI := dI) (cA := cA) (r := some (vI o)) (S' := S) (rest := st.map (gV ad)) (a := (as.map (gV ad)).toArray) ?_ hS (fun H1 locs1 hP1 hS1 => ?_)
  · rcases hlk with hlk | ⟨host, hlk⟩
    · exact va_runS (Ts := TB) (nL := nL) ⟨hx, hb, hml, hown, hts⟩ hM ⟨callB_of np hts (TB_ws hcode) rfl hrm.1 hrm.2 (hts _ hini) (hts _ hlk) ⟨hy1, hy2, hy3⟩ hR, hts _ hstat⟩ hpre rfl hlen hl.1 hstk2 (lv_room hcat) hd ⟨hkn.1, hkn.2⟩
    · exact va_runSN (Ts := TB) (nL := nL) (host := host) ⟨hx, hb, hml, hown, hts⟩ hM ⟨va_cnB np hts (TB_ws hcode) rfl hrm.1 hrm.2 (hnw.1 _ hlk) (hts _ hini) ⟨hy1, hy2, hy3⟩ hR, hts _ hstat, trivial⟩ hpre rfl hlen hl.1 hstk2 (lv_room hcat) hd ⟨hkn.1, hkn.2⟩
  · exact kk H1 locs1 ls hP1 hS1 hl
