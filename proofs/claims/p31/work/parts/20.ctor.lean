/-! constructors: worlds written out, at addresses that are variables -/
theorem va_nd_of : ∀ {l : List Nat}, l.Nodup → va_nd l = true
  | [], _ => rfl
  | a :: l, h => by
    rw [List.nodup_cons] at h
    simp only [va_nd, Bool.and_eq_true, decide_eq_true_eq]
    exact ⟨h.1, va_nd_of h.2⟩
theorem va_nd_range (n : Nat) : va_nd (List.range n) = true := va_nd_of List.nodup_range
abbrev GNT : Type := Nat → Nat → va_W → List (Nat × Value) → Nat → List Value → Prop
def OKN (l : Launch) (cc : ByteArray) (own : String) (nL : Nat) (R : Room) (D : va_G) (cA : Nat → ClassId) (A : Nat → Prop) (init : Prop) (G : GNT) : Prop :=
  ∃ (p : Program) (e : Env) (s : State) (m : MethodId) (args : Array Value) (below : List Frame) (meth : Method) (c : Code) (Q : State → Prop),
    p.tables.exec = Jvm.exec ∧ c.code = cc ∧ c.maxLocals = nL ∧ s.vm.findClass own = some m.cls ∧ (∀ w ∈ TB, w.before args s = true) ∧ NwA s ∧ va_K D vwCl (tyl cA) s ∧ (∀ q, s.heap.size ≤ q → A q) ∧ (init → meth.name = "<init>") ∧
    G = fun k n ws lv pc st => ∀ (H : Heap) (locs : List Loc) (ls : Array Slot), va_P D vwCl ws H → va_D A ws → va_S A s.heap H locs → lv_has ls nL lv → W p l e R s m args below meth c H locs k n Q (F0 m pc ls st)
def nPre (D : va_G) (cA : Nat → ClassId) (sz : Nat) (ws : va_W) (U : State) : Prop := U.heap.size = sz ∧ va_P D vwCl ws U.heap ∧ va_K D vwCl (tyl cA) U ∧ va_D (fun _ => True) ws ∧ NwA U
def nQ (D : va_G) (sz : Nat) (ws : va_W) (BW : va_W → Prop) : Array Value → State → Outcome → State → Prop := fun _ st oc t => (oc = .returned none ∧ ∃ w1, BW w1 ∧ va_P D vwCl w1 t.heap ∧ va_D (va_A ws sz) w1) ∧ va_F (va_A ws sz) st t
/-- a constructor's contract: from the world ws to a world that BW knows -/
def CtN (l : Launch) (y : MethodName) (cc : ByteArray) (n : Nat) (rm : Room) (as : List Value) (D : va_G) (cA : Nat → ClassId) (ws : va_W) (BW : va_W → Prop) : Prop :=
  ∀ sz, Met l y (.code y cc n none :: TB) rm (va_Pc as (nPre D cA sz ws)) (nQ D sz ws BW) rm.cells rm.slots (va_A ws sz)
theorem nPre.blind {D : va_G} {cA : Nat → ClassId} {sz : Nat} {ws : va_W} {as : List Value} : FrameBlind (va_Pc as (nPre D cA sz ws)) := by
  intro a U g mk h
  obtain ⟨h1, h2, h3, h4, h5, h6⟩ := h
  exact ⟨h1, h2, h3, va_K.moved (u := U) (U := U.calling g mk a) (Vm.Alike.refl U.vm) h4, h5, h6.blind⟩
theorem CtN.intro {l : Launch} {y : MethodName} {cc : ByteArray} {nL : Nat} {rm : Room} {as : List Value} {D : va_G} {cA : Nat → ClassId} {ws : va_W} {BW : va_W → Prop} {own : String} {lv : List (Nat × Value)} (hy : plainName y.cls = true) (ho : y.cls = own) (hin : y.name = "<init>") (hlv : lv_args 0 as = lv) (hn : (lg_sl as).length ≤ nL)
    (body : ∀ sz G, OKN l cc own nL rm D cA (va_A ws sz) True G → (∀ w1 lv pc, BW w1 → decode cc pc = .ok (.return_, 1) → G rm.cells rm.slots w1 lv pc []) → G 0 0 ws lv 0 []) : CtN l y cc nL rm as D cA ws BW := by
  intro sz
  refine Met.ofW (cc := cc) (maxL := nL) (ret := none) hy rfl ?_
  intro p e s m args below meth c s₁ B hml hv
  obtain ⟨rfl, hsz, hP, hK, hD0, hnw⟩ := hv
  have hx := B.exec
  have hb := B.bytes
  have hr := B.returns
  have hts0 := atoms_spec (ws := .code y cc nL none :: TB) B.pre
  have hown : s.vm.findClass own = some m.cls := by rw [← ho]; exact findClass_of_methodNamed B.named
  have hlocks := B.notSynchronized
  have hname : meth.name = "<init>" := (name_of_methodNamed B.named B.method).1.trans hin
  subst hsz
  have hl := lv_entry as (n := nL) hn
  rw [lg_entry_eq]
  generalize (lg_sl as ++ List.replicate (nL - (lg_sl as).length) Slot.unset).toArray = ls at hl ⊢
  rw [hlv] at hl
  refine body s.heap.size _ ⟨p, e, s, m, as.toArray, below, meth, c, MQ below (nQ D s.heap.size ws BW) as.toArray s rm.cells rm.slots (va_A ws s.heap.size), hx, hb, hml, hown, fun w hw => hts0 w (List.mem_cons_of_mem _ hw), hnw, hK, fun q h => Or.inr h, fun _ => hname, rfl⟩ ?_ s.heap [] ls hP (hD0.self (sz := s.heap.size)) va_S.rf hl
  intro w1 lv pc hw hd H locs ls hP hD hS hl
  exact W.vret hx hb hr (fun t ht hW => ⟨⟨rfl, w1, hw, by rw [ht]; exact hP, hD⟩, hS.F ht⟩) hS.2.2 hd
section
variable {l : Launch} {cc : ByteArray} {own : String} {nL : Nat} {R : Room} {D : va_G} {cA : Nat → ClassId} {A : Nat → Prop} {init : Prop} {G : GNT} {k n pc : Nat} {ws : va_W} {lv : List (Nat × Value)} {st : List Value}
theorem n_ref (hG : OKN l cc own nL R D cA A init G) {q : Fin 4} {a : Nat} (j : Nat) (hd : decode cc pc = .ok (.aload_n q, 1)) (h : lv[j]? = some (q.val, .ref a)) (kk : G k n ws lv (pc + 1) (.ref a :: st)) : G k n ws lv pc st := by
  obtain ⟨p, e, s, m, args, below, meth, c, Q, hx, hb, hml, hown, hts, hnw, hK, hA, hi, rfl⟩ := hG
  intro H locs ls hP hD hS hl
  exact lv_aload_n hx hb hd rfl (lv_at hl j h) (kk H locs ls hP hD hS hl)
theorem n_iload_n (hG : OKN l cc own nL R D cA A init G) {q : Fin 4} {x : Int32} (j : Nat) (hd : decode cc pc = .ok (.iload_n q, 1)) (h : lv[j]? = some (q.val, .int x)) (kk : G k n ws lv (pc + 1) (.int x :: st)) : G k n ws lv pc st := by
  obtain ⟨p, e, s, m, args, below, meth, c, Q, hx, hb, hml, hown, hts, hnw, hK, hA, hi, rfl⟩ := hG
  intro H locs ls hP hD hS hl
  exact lv_iload_n hx hb hd rfl (lv_at hl j h) (kk H locs ls hP hD hS hl)
theorem n_iload (hG : OKN l cc own nL R D cA A init G) {i : Nat} {x : Int32} (j : Nat) (hd : decode cc pc = .ok (.iload i, 2)) (h : lv[j]? = some (i, .int x)) (kk : G k n ws lv (pc + 2) (.int x :: st)) : G k n ws lv pc st := by
  obtain ⟨p, e, s, m, args, below, meth, c, Q, hx, hb, hml, hown, hts, hnw, hK, hA, hi, rfl⟩ := hG
  intro H locs ls hP hD hS hl
  exact lv_iload hx hb hd (lv_at hl j h) (kk H locs ls hP hD hS hl)
theorem n_iconst (hG : OKN l cc own nL R D cA A init G) {z : Int} {v : Int32} (hd : decode cc pc = .ok (.iconst z, 1)) (hv : Int32.ofInt z = v) (kk : G k n ws lv (pc + 1) (.int v :: st)) : G k n ws lv pc st := by
  obtain ⟨p, e, s, m, args, below, meth, c, Q, hx, hb, hml, hown, hts, hnw, hK, hA, hi, rfl⟩ := hG
  intro H locs ls hP hD hS hl
  exact lv_iconst hx hb hd hv (kk H locs ls hP hD hS hl)
theorem n_lconst (hG : OKN l cc own nL R D cA A init G) {z : Fin 2} {v : Int64} (hd : decode cc pc = .ok (.lconst z, 1)) (hv : Int64.ofNat (z : Nat) = v) (kk : G k n ws lv (pc + 1) (.long v :: st)) : G k n ws lv pc st := by
  obtain ⟨p, e, s, m, args, below, meth, c, Q, hx, hb, hml, hown, hts, hnw, hK, hA, hi, rfl⟩ := hG
  intro H locs ls hP hD hS hl
  exact lv_lconst hx hb hd hv (kk H locs ls hP hD hS hl)
theorem n_bipush (hG : OKN l cc own nL R D cA A init G) {z : Int} {v : Int32} (hd : decode cc pc = .ok (.bipush z, 2)) (hv : (Int8.ofInt z).toInt32 = v) (kk : G k n ws lv (pc + 2) (.int v :: st)) : G k n ws lv pc st := by
  obtain ⟨p, e, s, m, args, below, meth, c, Q, hx, hb, hml, hown, hts, hnw, hK, hA, hi, rfl⟩ := hG
  intro H locs ls hP hD hS hl
  exact lv_bipush hx hb hd hv (kk H locs ls hP hD hS hl)
theorem n_sipush (hG : OKN l cc own nL R D cA A init G) {z : Int} {v : Int32} (hd : decode cc pc = .ok (.sipush z, 3)) (hv : (Int16.ofInt z).toInt32 = v) (kk : G k n ws lv (pc + 3) (.int v :: st)) : G k n ws lv pc st := by
  obtain ⟨p, e, s, m, args, below, meth, c, Q, hx, hb, hml, hown, hts, hnw, hK, hA, hi, rfl⟩ := hG
  intro H locs ls hP hD hS hl
  exact lv_sipush hx hb hd hv (kk H locs ls hP hD hS hl)
theorem n_dup (hG : OKN l cc own nL R D cA A init G) {v : Value} (hd : decode cc pc = .ok (.dup, 1)) (hc : v.category = 1) (kk : G k n ws lv (pc + 1) (v :: v :: st)) : G k n ws lv pc (v :: st) := by
  obtain ⟨p, e, s, m, args, below, meth, c, Q, hx, hb, hml, hown, hts, hnw, hK, hA, hi, rfl⟩ := hG
  intro H locs ls hP hD hS hl
  exact lv_dup hx hb hd hc (kk H locs ls hP hD hS hl)
theorem n_istore_n (hG : OKN l cc own nL R D cA A init G) {q : Fin 4} {x : Int32} {lv' : List (Nat × Value)} (hd : decode cc pc = .ok (.istore_n q, 1)) (hn : q.val < nL) (hl : (q.val, Value.int x) :: lv.filter (fun z => !(z.1 == q.val) && !(z.1 + 1 == q.val && z.2.category == 2)) = lv') (kk : G k n ws lv' (pc + 1) st) : G k n ws lv pc (.int x :: st) := by
  obtain ⟨p, e, s, m, args, below, meth, c, Q, hx, hb, hml, hown, hts, hnw, hK, hA, hi, rfl⟩ := hG
  intro H locs ls hP hD hS hl2
  exact lv_istore_n hx hb hd rfl hl2 hn hl (fun ls' hl' => kk H locs ls' hP hD hS hl')
theorem n_istore (hG : OKN l cc own nL R D cA A init G) {i : Nat} {x : Int32} {lv' : List (Nat × Value)} (hd : decode cc pc = .ok (.istore i, 2)) (hn : i < nL) (hl : (i, Value.int x) :: lv.filter (fun z => !(z.1 == i) && !(z.1 + 1 == i && z.2.category == 2)) = lv') (kk : G k n ws lv' (pc + 2) st) : G k n ws lv pc (.int x :: st) := by
  obtain ⟨p, e, s, m, args, below, meth, c, Q, hx, hb, hml, hown, hts, hnw, hK, hA, hi, rfl⟩ := hG
  intro H locs ls hP hD hS hl2
  exact lv_istore hx hb hd hl2 hn hl (fun ls' hl' => kk H locs ls' hP hD hS hl')
theorem n_astore_n (hG : OKN l cc own nL R D cA A init G) {q : Fin 4} {x : Nat} {lv' : List (Nat × Value)} (hd : decode cc pc = .ok (.astore_n q, 1)) (hn : q.val < nL) (hl : (q.val, Value.ref x) :: lv.filter (fun z => !(z.1 == q.val) && !(z.1 + 1 == q.val && z.2.category == 2)) = lv') (kk : G k n ws lv' (pc + 1) st) : G k n ws lv pc (.ref x :: st) := by
  obtain ⟨p, e, s, m, args, below, meth, c, Q, hx, hb, hml, hown, hts, hnw, hK, hA, hi, rfl⟩ := hG
  intro H locs ls hP hD hS hl2
  exact lv_astore_n hx hb hd rfl hl2 hn hl (fun ls' hl' => kk H locs ls' hP hD hS hl')
theorem n_astore (hG : OKN l cc own nL R D cA A init G) {i : Nat} {x : Nat} {lv' : List (Nat × Value)} (hd : decode cc pc = .ok (.astore i, 2)) (hn : i < nL) (hl : (i, Value.ref x) :: lv.filter (fun z => !(z.1 == i) && !(z.1 + 1 == i && z.2.category == 2)) = lv') (kk : G k n ws lv' (pc + 2) st) : G k n ws lv pc (.ref x :: st) := by
  obtain ⟨p, e, s, m, args, below, meth, c, Q, hx, hb, hml, hown, hts, hnw, hK, hA, hi, rfl⟩ := hG
  intro H locs ls hP hD hS hl2
  exact lv_astore hx hb hd hl2 hn hl (fun ls' hl' => kk H locs ls' hP hD hS hl')
theorem n_iinc (hG : OKN l cc own nL R D cA A init G) {i : Nat} {z : Int} {x v : Int32} {lv' : List (Nat × Value)} (j : Nat) (hd : decode cc pc = .ok (.iinc i z, 3)) (h : lv[j]? = some (i, .int x)) (hv : x + Int32.ofInt z = v) (hn : i < nL) (hl : (i, Value.int v) :: lv.filter (fun z => !(z.1 == i) && !(z.1 + 1 == i && z.2.category == 2)) = lv') (kk : G k n ws lv' (pc + 3) st) : G k n ws lv pc st := by
  obtain ⟨p, e, s, m, args, below, meth, c, Q, hx, hb, hml, hown, hts, hnw, hK, hA, hi, rfl⟩ := hG
  intro H locs ls hP hD hS hl2
  exact lv_iinc hx hb hd hl2 h hv hn hl (fun ls' hl' => kk H locs ls' hP hD hS hl')
theorem n_goto (hG : OKN l cc own nL R D cA A init G) {off : Int} {tgt : Nat} (hd : decode cc pc = .ok (.goto off, 3)) (ht : (pc : Int) + off = (tgt : Int)) (kk : G k n ws lv tgt st) : G k n ws lv pc st := by
  obtain ⟨p, e, s, m, args, below, meth, c, Q, hx, hb, hml, hown, hts, hnw, hK, hA, hi, rfl⟩ := hG
  intro H locs ls hP hD hS hl
  exact lv_goto hx hb hd ht (kk H locs ls hP hD hS hl)
theorem n_geT (hG : OKN l cc own nL R D cA A init G) {off : Int} {tgt : Nat} {x y : Int32} (hd : decode cc pc = .ok (.if_icmp .ge off, 3)) (ht : (pc : Int) + off = (tgt : Int)) (h : y ≤ x) (kk : G k n ws lv tgt st) : G k n ws lv pc (.int y :: .int x :: st) := by
  obtain ⟨p, e, s, m, args, below, meth, c, Q, hx, hb, hml, hown, hts, hnw, hK, hA, hi, rfl⟩ := hG
  intro H locs ls hP hD hS hl
  exact lv_icmp_ge hx hb hd ht (fun _ => kk H locs ls hP hD hS hl) (fun h2 => absurd h h2)
theorem n_geF (hG : OKN l cc own nL R D cA A init G) {off : Int} {tgt : Nat} {x y : Int32} (hd : decode cc pc = .ok (.if_icmp .ge off, 3)) (ht : (pc : Int) + off = (tgt : Int)) (h : ¬ y ≤ x) (kk : G k n ws lv (pc + 3) st) : G k n ws lv pc (.int y :: .int x :: st) := by
  obtain ⟨p, e, s, m, args, below, meth, c, Q, hx, hb, hml, hown, hts, hnw, hK, hA, hi, rfl⟩ := hG
  intro H locs ls hP hD hS hl
  exact lv_icmp_ge hx hb hd ht (fun h2 => absurd h2 h) (fun _ => kk H locs ls hP hD hS hl)
theorem n_obj (hG : OKN l cc own nL R D cA A init G) {idx a : Nat} (hd : decode cc pc = .ok (.invokespecial idx, 3)) (hlk : Cond.methodLink own idx objectInit ∈ TB) (hR : 1 ≤ R.frames ∧ 20 ≤ R.locals) (hst : (st.map fun v => v.category).sum ≤ 8) (kk : G k n ws lv (pc + 3) st) : G k n ws lv pc (.ref a :: st) := by
  obtain ⟨p, e, s, m, args, below, meth, c, Q, hx, hb, hml, hown, hts, hnw, hK, hA, hi, rfl⟩ := hG
  intro H locs ls hP hD hS hl
  exact W.objInit hx hb hown (hts _ hlk) (hts (.instanceMethod objectInit) (by decide +kernel)) (hts (.code objectInit ⟨#[0xb1]⟩ 1 none) (by decide +kernel)) rfl (by rw [hml]; exact hl.1) rfl hd hR.1 (by show 0 + _ + 12 ≤ _; omega) (kk H locs ls hP hD hS hl)
/-- what a field's link and its class's words are: as FL, final or not -/
theorem n_put (hG : OKN l cc own nL R D cA A init G) {a kf ci idx : Nat} {ty : FieldType} {fs : List Value} {v : Value} {ws' : va_W} (q0 : Nat) (hd : decode cc pc = .ok (.putfield idx, 3)) (hf : FL own idx ci kf ty) (hp : FP ci kf) (he : ws[q0]? = some (a, .inr (ci, fs))) (hn : narrow ty v = v ∧ fits ty v = true) (hl9 : kf < fs.length) (hws : ws.set q0 (a, .inr (ci, fs.set kf v)) = ws') (kk : G k n ws' lv (pc + 3) st) : G k n ws lv pc (v :: .ref a :: st) := by
  obtain ⟨p, e, s, m, args, below, meth, c, Q, hx, hb, hml, hown, hts, hnw, hK, hA, hi, rfl⟩ := hG
  subst hws
  intro H locs ls hP hD hS hl
  obtain ⟨C, T, N, ty0, hc, hk, hin, hty, hnm, hte, hlk⟩ := hf
  have hpd : parseFieldDescriptor (T kf).2.2.1 = some ty := by rw [hty kf hk, hte]
  rcases hlk with hlk | ⟨host, hlk⟩
  · exact va_put (D := D) (ci := ci) (C := C) (T := T) (N := N) (ty := ty) hx hb hts hin ty0 hty hnm hown hK hP hD hS q0 he hc kf hk (hts _ hlk) (fun _ h9 => h9) (hp C T N hc) hpd hn.1 hn.2 hl9 hd (fun H1 locs1 hP1 hD1 hS1 => kk H1 locs1 ls hP1 hD1 hS1 hl)
  · exact va_putN (D := D) (ci := ci) (C := C) (T := T) (N := N) (ty := ty) hx hb hts hin ty0 hty hnm hown hK hP hD hS q0 he hc kf hk (va_Nw.use rfl (hnw.1 _ hlk)) (fun _ h9 => h9) (hp C T N hc) hpd hn.1 hn.2 hl9 hd (fun H1 locs1 hP1 hD1 hS1 => kk H1 locs1 ls hP1 hD1 hS1 hl)
def FF (own : String) (ci k : Nat) : Prop := ∀ C T N, vwCl[ci]? = some (C, T, N) → (T k).2.2.2 = true ∧ (T k).1 = own
def FO (own : String) (idx ci k : Nat) (ty : FieldType) : Prop :=
  ∃ (C : String) (T : u_T) (N : Nat) (ty0 : Nat → FieldType), vwCl[ci]? = some (C, T, N) ∧ k < N ∧ (∀ w ∈ u_ws C T N, w ∈ TB) ∧ (∀ k, k < N → parseFieldDescriptor (T k).2.2.1 = some (ty0 k)) ∧ (∀ a, a < N → ∀ b, b < N → a ≠ b → (T a).2.1 ≠ (T b).2.1) ∧ ty0 k = ty ∧
    Cond.fieldLink own idx (T k).1 (T k).2.1 (T k).2.2.1 ∈ TB
theorem n_putF (hG : OKN l cc own nL R D cA A True G) {a kf ci idx : Nat} {ty : FieldType} {fs : List Value} {v : Value} {ws' : va_W} (q0 : Nat) (hd : decode cc pc = .ok (.putfield idx, 3)) (hf : FO own idx ci kf ty) (hp : FF own ci kf) (he : ws[q0]? = some (a, .inr (ci, fs))) (hn : narrow ty v = v ∧ fits ty v = true) (hl9 : kf < fs.length) (hws : ws.set q0 (a, .inr (ci, fs.set kf v)) = ws') (kk : G k n ws' lv (pc + 3) st) : G k n ws lv pc (v :: .ref a :: st) := by
  obtain ⟨p, e, s, m, args, below, meth, c, Q, hx, hb, hml, hown, hts, hnw, hK, hA, hi, rfl⟩ := hG
  subst hws
  intro H locs ls hP hD hS hl
  obtain ⟨C, T, N, ty0, hc, hk, hin, hty, hnm, hte, hlk⟩ := hf
  have hpd : parseFieldDescriptor (T kf).2.2.1 = some ty := by rw [hty kf hk, hte]
  exact va_putF (D := D) (ci := ci) (C := C) (T := T) (N := N) (ty := ty) hx hb hts hin ty0 hty hnm hown hK hP hD hS q0 he hc kf hk (hts _ hlk) (fun _ h9 => h9) (hp C T N hc).1 (hi trivial) (hp C T N hc).2 hpd hn.1 hn.2 hl9 hd (fun H1 locs1 hP1 hD1 hS1 => kk H1 locs1 ls hP1 hD1 hS1 hl)
theorem n_get (hG : OKN l cc own nL R D cA A init G) {a kf ci idx : Nat} {ty : FieldType} {fs : List Value} {v : Value} (q0 : Nat) (hd : decode cc pc = .ok (.getfield idx, 3)) (hf : FL own idx ci kf ty) (he : ws[q0]? = some (a, .inr (ci, fs))) (hv : fs[kf]? = some v) (kk : G k n ws lv (pc + 3) (v :: st)) : G k n ws lv pc (.ref a :: st) := by
  obtain ⟨p, e, s, m, args, below, meth, c, Q, hx, hb, hml, hown, hts, hnw, hK, hA, hi, rfl⟩ := hG
  intro H locs ls hP hD hS hl
  obtain ⟨C, T, N, ty0, hc, hk, hin, hty, hnm, hte, hlk⟩ := hf
  rcases hlk with hlk | ⟨host, hlk⟩
  · exact va_get (D := D) (ci := ci) (C := C) (T := T) (N := N) hx hb hts hin hown hK hP q0 he hc kf hk (hts _ hlk) (fun _ h9 => h9) hv hd (kk H locs ls hP hD hS hl)
  · exact va_getN (D := D) (ci := ci) (C := C) (T := T) (N := N) hx hb hts hin hown hK hP q0 he hc kf hk (va_Nw.use rfl (hnw.1 _ hlk)) (fun _ h9 => h9) hv hd (kk H locs ls hP hD hS hl)
theorem n_alen (hG : OKN l cc own nL R D cA A init G) {a t N : Nat} {ty : FieldType} {x : (Nat → Int32) ⊕ (Nat → Int64) ⊕ (Nat → UInt32) ⊕ (Nat → UInt64) ⊕ (Nat → Option Nat)} {v : Int32} (q0 : Nat) (hd : decode cc pc = .ok (.arraylength, 1)) (he : ws[q0]? = some (a, .inl (cA t, (N, x)))) (ht : (tyl cA)[t]? = some (cA t, ty)) (hv : Int32.ofNat N = v) (kk : G k n ws lv (pc + 1) (.int v :: st)) : G k n ws lv pc (.ref a :: st) := by
  obtain ⟨p, e, s, m, args, below, meth, c, Q, hx, hb, hml, hown, hts, hnw, hK, hA, hi, rfl⟩ := hG
  intro H locs ls hP hD hS hl
  exact va_alen (D := D) hx hb hK hP q0 t he ht hv hd (kk H locs ls hP hD hS hl)
theorem n_iast (hG : OKN l cc own nL R D cA A init G) {a N : Nat} {f : Nat → Int32} {i x : Int32} {ws' : va_W} (q0 : Nat) (hd : decode cc pc = .ok (.iastore, 1)) (he : ws[q0]? = some (a, .inl (cA 0, (N, .inl f)))) (hi9 : ib i N = true) (hws : ws.set q0 (a, .inl (cA 0, (N, .inl (upd f i.toNatClampNeg x)))) = ws') (kk : G k n ws' lv (pc + 1) st) : G k n ws lv pc (.int x :: .int i :: .ref a :: st) := by
  obtain ⟨p, e, s, m, args, below, meth, c, Q, hx, hb, hml, hown, hts, hnw, hK, hA, hi, rfl⟩ := hG
  subst hws
  intro H locs ls hP hD hS hl
  exact va_iast (D := D) hx hb hK hP hD hS q0 0 he rfl (ib_in hi9) hd (fun H1 locs1 hP1 hD1 hS1 => kk H1 locs1 ls hP1 hD1 hS1 hl)
def NWc (own : String) (idx ci N : Nat) (fs : List Value) : Prop :=
  ∃ (C : String) (T : u_T) (ty0 : Nat → FieldType), vwCl[ci]? = some (C, T, N) ∧ (∀ w ∈ u_ws C T N, w ∈ TB) ∧ (∀ k, k < N → parseFieldDescriptor (T k).2.2.1 = some (ty0 k)) ∧ Cond.classLink own idx C ∈ TB ∧ Cond.instantiable C N ∈ TB ∧ Cond.initialized C ∈ TB ∧ (∀ j, j < N → defaultValue (ty0 j) = vp_V fs j)
theorem n_new (hG : OKN l cc own nL R D cA A init G) {idx ci N k' n' : Nat} {fs : List Value} (hd : decode cc pc = .ok (.new idx, 3)) (hc : NWc own idx ci N fs) (hR : k + 1 ≤ R.cells ∧ n + N ≤ R.slots) (hk : k + 1 = k') (hn : n + N = n') (kk : ∀ q : Nat, G k' n' (ws ++ [(q, .inr (ci, fs))]) lv (pc + 3) (.ref q :: st)) : G k n ws lv pc st := by
  obtain ⟨p, e, s, m, args, below, meth, c, Q, hx, hb, hml, hown, hts, hnw, hK, hA, hi, rfl⟩ := hG
  subst hk
  subst hn
  intro H locs ls hP hD hS hl
  obtain ⟨C, T, ty0, hc1, hin, hty, h1, h2, h3, hfs⟩ := hc
  exact va_new (ci := ci) (fs := fs) (C := C) (T := T) (N := N) hx hb hts hin ty0 hty hown (hts _ h1) (hts _ h2) (hts _ h3) hK hP hD hS hA hc1 hfs hR.1 hR.2 hd (fun q H1 hP1 hD1 hS1 => kk q H1 locs ls hP1 hD1 hS1 hl)
theorem n_arr (hG : OKN l cc own nL R D cA A init G) {atype : ArrayType} {ty : FieldType} {t N k' n' : Nat} {x : (Nat → Int32) ⊕ (Nat → Int64) ⊕ (Nat → UInt32) ⊕ (Nat → UInt64) ⊕ (Nat → Option Nat)} {z : Int32} (hd : decode cc pc = .ok (.newarray atype, 2)) (hac : Cond.arrayClass (newarray.typeOf atype) ∈ TB) (hty : newarray.typeOf atype = ty) (ht : (tyl cA)[t]? = some (cA t, ty)) (hpr : ty = .int ∨ ty = .long ∨ ty = .char ∨ ty = .boolean) (ha : ∀ c : ClassId, vp_cell c (N, x) = arrV c N (fun _ => defaultValue ty)) (hn0 : ¬ z < 0) (hN : z.toNatClampNeg = N) (hby : N * componentBytes ty ≤ 536870912) (hR : k + 1 ≤ R.cells ∧ n + N ≤ R.slots) (hk : k + 1 = k') (hn : n + N = n') (kk : ∀ q : Nat, G k' n' (ws ++ [(q, .inl (cA t, (N, x)))]) lv (pc + 2) (.ref q :: st)) : G k n ws lv pc (.int z :: st) := by
  obtain ⟨p, e, s, m, args, below, meth, c, Q, hx, hb, hml, hown, hts, hnw, hK, hA, hi, rfl⟩ := hG
  subst hk
  subst hn
  intro H locs ls hP hD hS hl
  refine va_newa (atype := atype) hx hb (hts _ hac) hty hK hP hD hS hA ha hn0 hN hby hR.1 hR.2 hd (fun q cA' H1 hK1 hP1 hD1 hS1 => ?_)
  have e1 : cA' = cA t := by
    have h1 := (hK1.2 3 (cA', ty) rfl).2
    have h2 := (hK.2 t (cA t, ty) ht).2
    rcases hpr with rfl | rfl | rfl | rfl <;> exact Option.some.inj (Eq.trans (Eq.symm h1) h2)
  rw [e1] at hP1 hD1
  exact kk q H1 locs ls hP1 hD1 hS1 hl
theorem n_eq {G : GNT} {ws' : va_W} (h : ws = ws') (kk : G k n ws' lv pc st) : G k n ws lv pc st := by rw [h]; exact kk
def NIc (own : String) (idx : Nat) (y : MethodName) (np : Nat) : Prop := yOK y np ∧ y.name = "<init>" ∧ Cond.instanceMethod y ∈ TB ∧ Cond.initialized y.cls ∈ TB ∧ ML own idx y
/-- a constructor called for the object made last -/
theorem n_init (hG : OKN l cc own nL R D cA A init G) {y : MethodName} {bytes : ByteArray} {nLy idx np a k' n' : Nat} {rm : Room} {as stk : List Value} {wr : va_W} {e0 : va_E} {BW : va_W → Prop} (hd : decode cc pc = .ok (.invokespecial idx, 3)) (hm : NIc own idx y np) (hcode : Cond.code y bytes nLy none ∈ TB) (hnp : as.length = np) (hR : rm.frames + 1 ≤ R.frames ∧ 8 + (nLy + 11) + rm.locals ≤ R.locals) (hst : (st.map fun v => v.category).sum ≤ 8) (hkn : k + rm.cells ≤ R.cells ∧ n + rm.slots ≤ R.slots) (hk : k + rm.cells = k') (hn : n + rm.slots = n') (hstk : stk = as.reverse ++ .ref a :: st) (hws : ws = wr ++ [(a, e0)]) (hC : CtN l y bytes nLy rm (.ref a :: as) D cA [(a, e0)] BW) (kk : ∀ w1, BW w1 → G k' n' (wr ++ w1) lv (pc + 3) st) : G k n ws lv pc stk := by
  obtain ⟨p, e, s, m, args, below, meth, c, Q, hx, hb, hml, hown, hts, hnw, hK, hA, hi, rfl⟩ := hG
  subst hk
  subst hn
  intro H locs ls hP hD hS hl
  obtain ⟨⟨hy1, hy2, hy3⟩, hyn, hinst, hini, hlk⟩ := hm
  have hM := hC H.size
  have hCi : [wr.length].map (fun i => ws[i]?) = [(a, e0)].map some := by rw [hws]; simp
  have hPc : va_P D vwCl [(a, e0)] H := hP.sub [wr.length] (by rw [hws]; simp)
  have hDc : va_D (fun _ => True) [(a, e0)] := (hD.sub (ws' := [(a, e0)]) [wr.length] (by simp [va_nd]) (by rw [hws]; simp)).weaken (fun _ _ _ _ => trivial)
  have hFc := va_free (wc := [(a, e0)]) hD hS hA [wr.length] hCi
  have hpre : PreS s H (va_Pc (.ref a :: as) (nPre D cA H.size [(a, e0)])) (.ref a :: as) := ⟨nPre.blind, fun U hU hW => ⟨rfl, by rw [hU], by rw [hU]; exact hPc, va_K.moved hW.alike hK, hDc, hnw.warm hW⟩⟩
  have hrun : va_Run p l e R s m args below meth c H locs k n rm.cells rm.slots (F0 m pc ls stk) st (nQ D H.size [(a, e0)] BW (Value.ref a :: as).toArray) (va_A [(a, e0)] H.size) := by
    rcases hlk with hlk | ⟨host, hlk⟩
    · exact va_runI (Ts := TB) (nL := nL) ⟨hx, hb, hml, hown, hts⟩ hM ⟨callB_of np hts (TB_ws hcode) rfl rfl rfl (hts _ hini) (hts _ hlk) ⟨hy1, hy2, hy3⟩ hR, hyn, hts _ hinst⟩ hpre rfl hnp hl.1 hstk (lv_room hst) hd hkn
    · exact va_runIN (Ts := TB) (nL := nL) (host := host) ⟨hx, hb, hml, hown, hts⟩ hM ⟨va_cnB np hts (TB_ws hcode) rfl rfl rfl (hnw.1 _ hlk) (hts _ hini) ⟨hy1, hy2, hy3⟩ hR, hyn, hts _ hinst⟩ hpre rfl hnp hl.1 hstk (lv_room hst) hd hkn
  intro T hT X
  obtain ⟨v, st₀, t, T', L, h0, X', hL, e1, e2, ⟨⟨hv, w1, hw1, hP1, hD1⟩, hz, hkp⟩, st9⟩ := hrun T hT X
  cases hv
  rw [h0] at hz hkp
  have hisR : (List.range wr.length).map (fun i => ws[i]?) = wr.map some := by
    rw [hws]
    apply List.ext_getElem?
    intro i
    simp only [List.getElem?_map, List.getElem?_range']
    by_cases hi : i < wr.length
    · simp [hi, List.getElem?_append_left hi]
    · simp [hi]
  obtain ⟨hP2, hD2⟩ := va_join (A0 := A) (wr := wr) (w1 := w1) hP hD [wr.length] (List.range wr.length) hCi hisR (va_nd_range _) (fun i hi hc => by
    rw [List.mem_singleton] at hc
    rw [hc] at hi
    exact absurd (List.mem_range.mp hi) (Nat.lt_irrefl _)) hkp hFc hP1 hD1
  obtain ⟨t2, a1, b1⟩ := kk w1 hw1 T'.heap (locs ++ L) ls (by rw [e1]; exact hP2) hD2
    ⟨Nat.le_trans hS.1 (by rw [e1]; exact hz), fun q h1 h2 => by rw [e1, hkp q (Nat.lt_of_lt_of_le h1 hS.1) (fun z => h2 (hFc q z))]; exact hS.2.1 q h1 h2, fun q hq => by
      rcases List.mem_append.mp hq with h | h
      · exact hS.2.2 q h
      · exact hFc _ (hL q h)⟩ hl T' rfl X'
  exact ⟨t2, st9 t2 a1, b1⟩
end
