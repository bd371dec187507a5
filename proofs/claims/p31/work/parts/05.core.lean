/-! the system's heap by handles; a judgement G over it; a rule an instruction (by wip/p31/core.py) -/
abbrev AV : Type := Int32 ⊕ (Int64 ⊕ Option Nat)
abbrev vI (x : Int32) : AV := .inl x
abbrev vL (x : Int64) : AV := .inr (.inl x)
abbrev vR (k : Nat) : AV := .inr (.inr (some k))
def gV (ad : Nat → Nat) : AV → Value
  | .inl x => .int x
  | .inr (.inl x) => .long x
  | .inr (.inr r) => va_rf (r.map ad)
def cat2 : AV → Bool
  | .inr (.inl _) => true
  | _ => false
abbrev HS : Type := (Nat → Nat → Int32) × ((Nat → Nat → Int64) × (Nat → Nat → Option Nat))
def sI (S : HS) (a k : Nat) (v : Int32) : HS := (fun b => if b = a then upd (S.1 b) k v else S.1 b, S.2)
def sL (S : HS) (a k : Nat) (v : Int64) : HS := (S.1, (fun b => if b = a then vp_updL (S.2.1 b) k v else S.2.1 b, S.2.2))
def sR (S : HS) (a k : Nat) (v : Option Nat) : HS := (S.1, (S.2.1, fun b => if b = a then va_up (S.2.2 b) k v else S.2.2 b))
def sA (S : HS) (a : Nat) (f : Nat → Int32) : HS := (fun b => if b = a then f else S.1 b, S.2)
def fV (ad : Nat → Nat) (S : HS) (a j : Nat) (kd : Nat × Nat) : Value :=
  if kd.1 = 0 then .int (S.1 a j) else if kd.1 = 1 then .long (S.2.1 a j) else if kd.1 = 2 then va_rf ((S.2.2 a j).map ad) else .ref (ad kd.2)
def eV (cA : Nat → ClassId) (ad : Nat → Nat) (S : HS) (a : Nat) : Sh → va_E
  | .inl q => .inr (q.1, q.2.mapIdx fun j kd => fV ad S a j kd)
  | .inr q => .inl (cA q.1, (q.2, if q.1 = 1 then .inr (.inl (S.2.1 a)) else .inl (S.1 a)))
def wld (cA : Nat → ClassId) (ad : Nat → Nat) (S : HS) : va_W := shp.mapIdx fun a sh => (ad a, eV cA ad S a sh)
def tyl (cA : Nat → ClassId) : List (ClassId × FieldType) := [(cA 0, .int), (cA 1, .long), (cA 2, .char)]
def oc (a : Nat) : Option Nat := match shp[a]? with
  | some (.inl q) => some q.1
  | _ => none
def fk (a k : Nat) : Option (Nat × (Nat × Nat)) := match shp[a]? with
  | some (.inl q) => (q.2[k]?).map fun z => (q.1, z)
  | _ => none
def ak (a : Nat) : Option (Nat × Nat) := match shp[a]? with
  | some (.inr q) => some q
  | _ => none
def alen (a : Nat) : Nat := match ak a with
  | some q => q.2
  | none => 0
theorem fk_at {a k ci : Nat} {kd : Nat × Nat} (h : fk a k = some (ci, kd)) : ∃ ks, shp[a]? = some (.inl (ci, ks)) ∧ ks[k]? = some kd := by
  unfold fk at h
  split at h
  · next q hq =>
    cases hk : q.2[k]? with
    | none => rw [hk] at h; cases h
    | some z =>
      rw [hk] at h
      cases h
      exact ⟨q.2, hq, hk⟩
  · cases h
theorem ak_at {a t N : Nat} (h : ak a = some (t, N)) : shp[a]? = some (.inr (t, N)) := by
  unfold ak at h
  split at h
  · next q hq => cases h; exact hq
  · cases h
theorem oc_at {a ci : Nat} (h : oc a = some ci) : ∃ ks, shp[a]? = some (.inl (ci, ks)) := by
  unfold oc at h
  split at h
  · next q hq => cases h; exact ⟨q.2, hq⟩
  · cases h
theorem wld_at {cA : Nat → ClassId} {ad : Nat → Nat} {S : HS} {a : Nat} {x : Sh} (h : shp[a]? = some x) : (wld cA ad S)[a]? = some (ad a, eV cA ad S a x) := by
  simp [wld, List.getElem?_mapIdx, h]
theorem wld_set {cA : Nat → ClassId} {ad : Nat → Nat} {S S' : HS} {a : Nat} {x : Sh} {e : va_E} (h : shp[a]? = some x) (he : e = eV cA ad S' a x) (ho : ∀ b y, b ≠ a → eV cA ad S' b y = eV cA ad S b y) :
    (wld cA ad S).set a (ad a, e) = wld cA ad S' := by
  apply List.ext_getElem?
  intro b
  rw [List.getElem?_set]
  by_cases hb : a = b
  · subst hb
    have hl : a < (wld cA ad S).length := by
      rcases List.getElem?_eq_some_iff.mp (wld_at (cA := cA) (ad := ad) (S := S) h) with ⟨q, -⟩
      exact q
    simp only [if_pos, hl]
    rw [wld_at h, he]
  · rw [if_neg hb]
    simp only [wld, List.getElem?_mapIdx]
    cases shp[b]? with
    | none => rfl
    | some y => simp only [Option.map_some]; rw [ho b y (fun q => hb q.symm)]
theorem eV_I {cA : Nat → ClassId} {ad : Nat → Nat} {S : HS} {a b k : Nat} {v : Int32} {y : Sh} (h : b ≠ a) : eV cA ad (sI S a k v) b y = eV cA ad S b y := by
  cases y <;> simp [eV, fV, sI, h]
theorem eV_L {cA : Nat → ClassId} {ad : Nat → Nat} {S : HS} {a b k : Nat} {v : Int64} {y : Sh} (h : b ≠ a) : eV cA ad (sL S a k v) b y = eV cA ad S b y := by
  cases y <;> simp [eV, fV, sL, h]
theorem eV_R {cA : Nat → ClassId} {ad : Nat → Nat} {S : HS} {a b k : Nat} {v : Option Nat} {y : Sh} (h : b ≠ a) : eV cA ad (sR S a k v) b y = eV cA ad S b y := by
  cases y <;> simp [eV, fV, sR, h]
theorem eV_A {cA : Nat → ClassId} {ad : Nat → Nat} {S : HS} {a b : Nat} {f : Nat → Int32} {y : Sh} (h : b ≠ a) : eV cA ad (sA S a f) b y = eV cA ad S b y := by
  cases y <;> simp [eV, fV, sA, h]
theorem mapIdx_set {α β : Type} {f g : Nat → α → β} {l : List α} {k : Nat} {v : β} {z : α} (hk : l[k]? = some z) (hv : g k z = v) (ho : ∀ j x, j ≠ k → g j x = f j x) : (l.mapIdx f).set k v = l.mapIdx g := by
  apply List.ext_getElem?
  intro b
  rw [List.getElem?_set]
  by_cases hb : k = b
  · subst hb
    have hl : k < (l.mapIdx f).length := by
      rcases List.getElem?_eq_some_iff.mp hk with ⟨q, -⟩
      simpa using q
    simp only [if_pos, hl, List.getElem?_mapIdx, hk, Option.map_some, hv]
  · rw [if_neg hb]
    simp only [List.getElem?_mapIdx]
    cases l[b]? with
    | none => rfl
    | some y => simp only [Option.map_some]; rw [ho b y (fun q => hb q.symm)]
theorem setI_obj {cA : Nat → ClassId} {ad : Nat → Nat} {S : HS} {a k ci z : Nat} {ks : List (Nat × Nat)} {v : Int32} (h : shp[a]? = some (.inl (ci, ks))) (hk : ks[k]? = some (0, z)) :
    (wld cA ad S).set a (ad a, .inr (ci, (ks.mapIdx fun j kd => fV ad S a j kd).set k (.int v))) = wld cA ad (sI S a k v) :=
  wld_set h (by
    show _ = (Sum.inr (ci, ks.mapIdx fun j kd => fV ad (sI S a k v) a j kd) : va_E)
    rw [mapIdx_set (g := fun j kd => fV ad (sI S a k v) a j kd) hk (by simp [fV, sI, upd]) (fun j x hj => by simp [fV, sI, upd, hj])]) (fun b y hb => eV_I hb)
theorem setL_obj {cA : Nat → ClassId} {ad : Nat → Nat} {S : HS} {a k ci z : Nat} {ks : List (Nat × Nat)} {v : Int64} (h : shp[a]? = some (.inl (ci, ks))) (hk : ks[k]? = some (1, z)) :
    (wld cA ad S).set a (ad a, .inr (ci, (ks.mapIdx fun j kd => fV ad S a j kd).set k (.long v))) = wld cA ad (sL S a k v) :=
  wld_set h (by
    show _ = (Sum.inr (ci, ks.mapIdx fun j kd => fV ad (sL S a k v) a j kd) : va_E)
    rw [mapIdx_set (g := fun j kd => fV ad (sL S a k v) a j kd) hk (by simp [fV, sL, vp_updL]) (fun j x hj => by simp [fV, sL, vp_updL, hj])]) (fun b y hb => eV_L hb)
theorem setR_obj {cA : Nat → ClassId} {ad : Nat → Nat} {S : HS} {a k ci z b : Nat} {ks : List (Nat × Nat)} (h : shp[a]? = some (.inl (ci, ks))) (hk : ks[k]? = some (2, z)) :
    (wld cA ad S).set a (ad a, .inr (ci, (ks.mapIdx fun j kd => fV ad S a j kd).set k (.ref (ad b)))) = wld cA ad (sR S a k (some b)) :=
  wld_set h (by
    show _ = (Sum.inr (ci, ks.mapIdx fun j kd => fV ad (sR S a k (some b)) a j kd) : va_E)
    rw [mapIdx_set (g := fun j kd => fV ad (sR S a k (some b)) a j kd) hk (by simp [fV, sR, va_up, va_rf]) (fun j x hj => by simp [fV, sR, va_up, hj])]) (fun b y hb => eV_R hb)
theorem setI_arr {cA : Nat → ClassId} {ad : Nat → Nat} {S : HS} {a t N k : Nat} {v : Int32} (h : shp[a]? = some (.inr (t, N))) (ht : t ≠ 1) :
    (wld cA ad S).set a (ad a, .inl (cA t, (N, .inl (upd (S.1 a) k v)))) = wld cA ad (sI S a k v) :=
  wld_set h (by simp [eV, sI, ht]) (fun b y hb => eV_I hb)
theorem setA_arr {cA : Nat → ClassId} {ad : Nat → Nat} {S : HS} {a t N : Nat} {f : Nat → Int32} (h : shp[a]? = some (.inr (t, N))) (ht : t ≠ 1) :
    (wld cA ad S).set a (ad a, .inl (cA t, (N, .inl f))) = wld cA ad (sA S a f) :=
  wld_set h (by simp [eV, sA, ht]) (fun b y hb => eV_A hb)
theorem setL_arr {cA : Nat → ClassId} {ad : Nat → Nat} {S : HS} {a N k : Nat} {v : Int64} (h : shp[a]? = some (.inr (1, N))) :
    (wld cA ad S).set a (ad a, .inl (cA 1, (N, .inr (.inl (vp_updL (S.2.1 a) k v))))) = wld cA ad (sL S a k v) :=
  wld_set h (by simp [eV, sL]) (fun b y hb => eV_L hb)
def Inj (ad : Nat → Nat) : Prop := ∀ i j, i < nH → j < nH → ad i = ad j → i = j
def fA (ad : Nat → Nat) (sz : Nat) : Nat → Prop := fun q => (∃ k, k < nH ∧ q = ad k) ∨ sz ≤ q
def NwA (U : State) : Prop := (∀ w ∈ NF, va_Nw w U) ∧ (∀ q ∈ STR, ∃ a, vk_R q.1 q.2.1 q.2.2 a U) ∧ (∀ q ∈ NCS, va_Nc q.1 q.2 U)
def ZW (ad : Nat → Nat) (sz : Nat) (U : State) : Prop := vx_Zq Bundle.tN "UNASSIGNED_STACK" Bundle.steD (fA ad sz) U U.heap ∧ vx_Zq Bundle.tN "SUPPRESSED_SENTINEL" Bundle.listD (fA ad sz) U U.heap
def wAt (dC : Nat → ClassId) (dI : Nat → Nat → Nat) (cA : Nat → ClassId) (ad : Nat → Nat) (S : HS) (U : State) : Prop := va_P (dC, dI) vwCl (wld cA ad S) U.heap ∧ va_K (dC, dI) vwCl (tyl cA) U
def wPre (dC : Nat → ClassId) (dI : Nat → Nat → Nat) (cA : Nat → ClassId) (ad : Nat → Nat) (sz : Nat) (S : HS) (U : State) : Prop := U.heap.size = sz ∧ wAt dC dI cA ad S U ∧ NwA U ∧ ZW ad sz U
def wQ (dC : Nat → ClassId) (dI : Nat → Nat → Nat) (cA : Nat → ClassId) (ad : Nat → Nat) (sz : Nat) (r : Option AV) (S : HS) : Array Value → State → Outcome → State → Prop := fun _ st oc t =>
  (oc = .returned (r.map (gV ad)) ∧ wAt dC dI cA ad S t) ∧ va_F (fA ad sz) st t
/-- a method's contract, at one state: it returns r, and leaves S' -/
def Ct (l : Launch) (y : MethodName) (cc : ByteArray) (n : Nat) (ret : Option FieldType) (rm : Room) (as : List AV) (S : HS) (r : Option AV) (S' : HS) : Prop :=
  ∀ dC dI cA ad sz, Inj ad → Met l y (.code y cc n ret :: TB) rm (va_Pc (as.map (gV ad)) (wPre dC dI cA ad sz S)) (wQ dC dI cA ad sz r S') 0 0 (fA ad sz)
theorem wld_idx {cA : Nat → ClassId} {ad : Nat → Nat} {S : HS} {k : Nat} {q : Nat × va_E} (h : (wld cA ad S)[k]? = some q) : k < nH ∧ q.1 = ad k := by
  have hl : k < nH := by
    rcases List.getElem?_eq_some_iff.mp h with ⟨z, -⟩
    rw [← nH_eq]
    simpa [wld] using z
  refine ⟨hl, ?_⟩
  simp only [wld, List.getElem?_mapIdx] at h
  cases hk : shp[k]? with
  | none => rw [hk] at h; cases h
  | some x => rw [hk] at h; cases h; rfl
theorem wld_D {cA : Nat → ClassId} {ad : Nat → Nat} {S : HS} {A : Nat → Prop} (hj : Inj ad) (hA : ∀ k, k < nH → A (ad k)) : va_D A (wld cA ad S) := by
  refine ⟨fun i j p q hp hq e => ?_, fun k q hq => ?_⟩
  · obtain ⟨h1, h2⟩ := wld_idx hp
    obtain ⟨h3, h4⟩ := wld_idx hq
    rw [h2, h4] at e
    exact hj i j h1 h3 e
  · obtain ⟨h1, h2⟩ := wld_idx hq
    rw [h2]
    exact hA k h1
theorem nf_nest : NF.all (fun w => match w with
  | .fieldLinkNest _ _ _ _ _ _ => true
  | .methodLinkNest _ _ _ _ => true
  | .castable _ _ => true
  | .declares _ => true
  | _ => false) = true := by decide +kernel
theorem NwA.warm {s U : State} (hW : s.WarmedH U.vm) (h : NwA s) : NwA U := by
  refine ⟨?_, fun q hq => (h.2.1 q hq).elim fun a ha => ⟨a, ha.warm hW⟩, fun q hq => va_Nc.moved hW.alike (h.2.2 q hq)⟩
  intro w hw
  have h1 := List.all_eq_true.mp nf_nest w hw
  have h2 := h.1 w hw
  cases w <;> first | exact va_Nw.warmF hW h2 | exact va_Nw.warmM hW h2 | exact va_Nw.warmC hW h2 | exact va_Nw.warmD hW h2 | cases h1
theorem NwA.blind {U : State} {g : JFrame} {mk : MethodId} {a : Array Value} (h : NwA U) : NwA (U.calling g mk a) := by
  refine ⟨?_, fun q hq => (h.2.1 q hq).elim fun z hz => ⟨z, vk_R.same (u := U) (U := U.calling g mk a) rfl hz⟩, fun q hq => va_Nc.moved (u := U) (U := U.calling g mk a) (Vm.Alike.refl U.vm) (h.2.2 q hq)⟩
  intro w hw
  have h1 := List.all_eq_true.mp nf_nest w hw
  have h2 := h.1 w hw
  cases w <;> first | exact va_Nw.same rfl rfl h2 | cases h1
theorem fA_le {ad : Nat → Nat} {a b : Nat} (h : a ≤ b) (q : Nat) (hq : fA ad b q) : fA ad a q := hq.elim Or.inl (fun z => Or.inr (Nat.le_trans h z))
theorem ZW.to {ad : Nat → Nat} {s U : State} {H : Heap} (hvm : s.vm.Alike U.vm) (hU : U.heap = H) (hS : va_S (fA ad s.heap.size) s.heap H []) (h : ZW ad s.heap.size s) : ZW ad H.size U := by
  rw [← hU] at hS ⊢
  exact ⟨vx_Zq.moved hvm (vx_Zq.narrow (vx_Zq.kept h.1 hS.2.1) (fA_le hS.1)), vx_Zq.moved hvm (vx_Zq.narrow (vx_Zq.kept h.2 hS.2.1) (fA_le hS.1))⟩
theorem wPre.blind {dC : Nat → ClassId} {dI : Nat → Nat → Nat} {cA : Nat → ClassId} {ad : Nat → Nat} {sz : Nat} {S : HS} {as : List Value} : FrameBlind (va_Pc as (wPre dC dI cA ad sz S)) := by
  intro a U g mk h
  obtain ⟨h1, h2, ⟨h3, h4⟩, h5, h6⟩ := h
  exact ⟨h1, h2, ⟨h3, va_K.moved (u := U) (U := U.calling g mk a) (Vm.Alike.refl U.vm) h4⟩, h5.blind, vx_Zq.moved (u := U) (U := U.calling g mk a) (Vm.Alike.refl U.vm) h6.1, vx_Zq.moved (u := U) (U := U.calling g mk a) (Vm.Alike.refl U.vm) h6.2⟩
abbrev GT : Type := Nat → Nat → HS → List (Nat × AV) → Nat → List AV → Prop
def gL (ad : Nat → Nat) (lv : List (Nat × AV)) : List (Nat × Value) := lv.map fun q => (q.1, gV ad q.2)
def Go (p : Program) (l : Launch) (e : Env) (R : Room) (s : State) (m : MethodId) (args : Array Value) (below : List Frame) (meth : Method) (c : Code) (dC : Nat → ClassId) (dI : Nat → Nat → Nat) (cA : Nat → ClassId) (ad : Nat → Nat) (nL : Nat) (Q : State → Prop) : GT := fun k n S lv pc st =>
  ∀ (H : Heap) (locs : List Loc) (ls : Array Slot), va_P (dC, dI) vwCl (wld cA ad S) H → va_S (fA ad s.heap.size) s.heap H locs → lv_has ls nL (gL ad lv) → W p l e R s m args below meth c H locs k n Q (F0 m pc ls (st.map (gV ad)))
def OK (l : Launch) (cc : ByteArray) (own : String) (nL : Nat) (R : Room) (G : GT) : Prop :=
  ∃ (p : Program) (e : Env) (s : State) (m : MethodId) (args : Array Value) (below : List Frame) (meth : Method) (c : Code) (dC : Nat → ClassId) (dI : Nat → Nat → Nat) (cA : Nat → ClassId) (ad : Nat → Nat) (Q : State → Prop),
    p.tables.exec = Jvm.exec ∧ c.code = cc ∧ c.maxLocals = nL ∧ s.vm.findClass own = some m.cls ∧ (∀ w ∈ TB, w.before args s = true) ∧ NwA s ∧ va_K (dC, dI) vwCl (tyl cA) s ∧ Inj ad ∧ ZW ad s.heap.size s ∧ G = Go p l e R s m args below meth c dC dI cA ad nL Q
def lget : List (Nat × AV) → Nat → Option AV
  | [], _ => none
  | (j, v) :: t, i => if i = j then some v else lget t i
theorem lget_at {ad : Nat → Nat} {lv : List (Nat × AV)} {i : Nat} {v : AV} {ls : Array Slot} {nL : Nat} (hl : lv_has ls nL (gL ad lv)) (h : lget lv i = some v) : ls[i]? = some (.val (gV ad v)) := by
  refine hl.2.2 (i, gV ad v) ?_
  clear hl
  induction lv with
  | nil => cases h
  | cons q t ih =>
    obtain ⟨j, u⟩ := q
    unfold lget at h
    by_cases hj : i = j
    · rw [if_pos hj] at h
      cases h
      subst hj
      exact List.mem_cons_self
    · rw [if_neg hj] at h
      exact List.mem_cons_of_mem _ (ih h)
def lset (lv : List (Nat × AV)) (i : Nat) (v : AV) : List (Nat × AV) := (i, v) :: lv.filter (fun q => !(q.1 == i) && !(q.1 + 1 == i && cat2 q.2))
def lsetL (lv : List (Nat × AV)) (i : Nat) (v : AV) : List (Nat × AV) := (i, v) :: lv.filter (fun q => !(q.1 == i) && (!(q.1 == i + 1) && !(q.1 + 1 == i && cat2 q.2)))
theorem gV_cat (ad : Nat → Nat) (v : AV) : ((gV ad v).category == 2) = cat2 v := by
  rcases v with x | x | r
  · rfl
  · rfl
  · cases r <;> rfl
theorem gV_cat1 {ad : Nat → Nat} {v : AV} (h : cat2 v = false) : (gV ad v).category = 1 := by
  rcases v with x | x | r
  · rfl
  · cases h
  · cases r <;> rfl
theorem gL_lset (ad : Nat → Nat) (lv : List (Nat × AV)) (i : Nat) (v : AV) : (i, gV ad v) :: (gL ad lv).filter (fun q => !(q.1 == i) && !(q.1 + 1 == i && q.2.category == 2)) = gL ad (lset lv i v) := by
  unfold gL lset
  rw [List.map_cons, List.filter_map]
  congr 2
  apply List.filter_congr
  intro q _
  simp only [Function.comp, gV_cat]
theorem gL_lsetL (ad : Nat → Nat) (lv : List (Nat × AV)) (i : Nat) (v : AV) : (i, gV ad v) :: (gL ad lv).filter (fun q => !(q.1 == i) && (!(q.1 == i + 1) && !(q.1 + 1 == i && q.2.category == 2))) = gL ad (lsetL lv i v) := by
  unfold gL lsetL
  rw [List.map_cons, List.filter_map]
  congr 2
  apply List.filter_congr
  intro q _
  simp only [Function.comp, gV_cat]
def ib (i : Int32) (n : Nat) : Bool := decide (0 ≤ i) && decide (i.toNatClampNeg < n)
theorem ib_in {i : Int32} {n : Nat} (h : ib i n = true) : vp_in i n := by
  unfold ib at h
  rw [Bool.and_eq_true, decide_eq_true_eq, decide_eq_true_eq] at h
  rintro (q | q)
  · rw [Int32.lt_iff_toInt_lt] at q
    have h1 := h.1
    rw [Int32.le_iff_toInt_le] at h1
    omega
  · omega
def nz (x : Int32) : Bool := decide (x = 0) || decide (x = 1)
theorem nz_ok {x : Int32} (h : nz x = true) : narrow .boolean (.int x) = .int x ∧ fits .boolean (.int x) = true := by
  unfold nz at h
  rw [Bool.or_eq_true, decide_eq_true_eq, decide_eq_true_eq] at h
  rcases h with rfl | rfl <;> decide
/-- where a field lies, and the word that links it -/
def FL (own : String) (idx ci k : Nat) (ty : FieldType) : Prop :=
  ∃ (C : String) (T : u_T) (N : Nat) (ty0 : Nat → FieldType), vwCl[ci]? = some (C, T, N) ∧ k < N ∧ (∀ w ∈ u_ws C T N, w ∈ TB) ∧ (∀ k, k < N → parseFieldDescriptor (T k).2.2.1 = some (ty0 k)) ∧ (∀ a, a < N → ∀ b, b < N → a ≠ b → (T a).2.1 ≠ (T b).2.1) ∧ ty0 k = ty ∧
    (Cond.fieldLink own idx (T k).1 (T k).2.1 (T k).2.2.1 ∈ TB ∨ ∃ host, Cond.fieldLinkNest own idx (T k).1 (T k).2.1 (T k).2.2.1 host ∈ NF)
def FP (ci k : Nat) : Prop := ∀ C T N, vwCl[ci]? = some (C, T, N) → (T k).2.2.2 = false
section
variable {l : Launch} {cc : ByteArray} {own : String} {nL : Nat} {R : Room} {G : GT} {E : Prop} {k n pc : Nat} {S : HS} {lv : List (Nat × AV)} {st : List AV}

theorem s_aload_n (hG : OK l cc own nL R G) {q : Fin 4} {a : Nat} (hd : decode cc pc = .ok (.aload_n q, 1)) (h : lget lv q.val = some (vR a)) (kk : E → G k n S lv (pc + 1) (vR a :: st)) : E → G k n S lv pc (st) := by
  intro hE
  obtain ⟨p, e, s, m, args, below, meth, c, dC, dI, cA, ad, Q, hx, hb, hml, hown, hts, hnw, hK, hj, hzw, rfl⟩ := hG
  intro H locs ls hP hS hl
  exact lv_aload_n hx hb hd rfl (lget_at hl h) (kk hE H locs ls hP hS hl)
theorem s_aload (hG : OK l cc own nL R G) {i a : Nat} (hd : decode cc pc = .ok (.aload i, 2)) (h : lget lv i = some (vR a)) (kk : E → G k n S lv (pc + 2) (vR a :: st)) : E → G k n S lv pc (st) := by
  intro hE
  obtain ⟨p, e, s, m, args, below, meth, c, dC, dI, cA, ad, Q, hx, hb, hml, hown, hts, hnw, hK, hj, hzw, rfl⟩ := hG
  intro H locs ls hP hS hl
  exact lv_aload hx hb hd (lget_at hl h) (kk hE H locs ls hP hS hl)
theorem s_iload_n (hG : OK l cc own nL R G) {q : Fin 4} {x : Int32} (hd : decode cc pc = .ok (.iload_n q, 1)) (h : lget lv q.val = some (vI x)) (kk : E → G k n S lv (pc + 1) (vI x :: st)) : E → G k n S lv pc (st) := by
  intro hE
  obtain ⟨p, e, s, m, args, below, meth, c, dC, dI, cA, ad, Q, hx, hb, hml, hown, hts, hnw, hK, hj, hzw, rfl⟩ := hG
  intro H locs ls hP hS hl
  exact lv_iload_n hx hb hd rfl (lget_at hl h) (kk hE H locs ls hP hS hl)
theorem s_iload (hG : OK l cc own nL R G) {i : Nat} {x : Int32} (hd : decode cc pc = .ok (.iload i, 2)) (h : lget lv i = some (vI x)) (kk : E → G k n S lv (pc + 2) (vI x :: st)) : E → G k n S lv pc (st) := by
  intro hE
  obtain ⟨p, e, s, m, args, below, meth, c, dC, dI, cA, ad, Q, hx, hb, hml, hown, hts, hnw, hK, hj, hzw, rfl⟩ := hG
  intro H locs ls hP hS hl
  exact lv_iload hx hb hd (lget_at hl h) (kk hE H locs ls hP hS hl)
theorem s_lload_n (hG : OK l cc own nL R G) {q : Fin 4} {x : Int64} (hd : decode cc pc = .ok (.lload_n q, 1)) (h : lget lv q.val = some (vL x)) (kk : E → G k n S lv (pc + 1) (vL x :: st)) : E → G k n S lv pc (st) := by
  intro hE
  obtain ⟨p, e, s, m, args, below, meth, c, dC, dI, cA, ad, Q, hx, hb, hml, hown, hts, hnw, hK, hj, hzw, rfl⟩ := hG
  intro H locs ls hP hS hl
  exact lv_lload_n hx hb hd rfl (lget_at hl h) (kk hE H locs ls hP hS hl)
theorem s_lload (hG : OK l cc own nL R G) {i : Nat} {x : Int64} (hd : decode cc pc = .ok (.lload i, 2)) (h : lget lv i = some (vL x)) (kk : E → G k n S lv (pc + 2) (vL x :: st)) : E → G k n S lv pc (st) := by
  intro hE
  obtain ⟨p, e, s, m, args, below, meth, c, dC, dI, cA, ad, Q, hx, hb, hml, hown, hts, hnw, hK, hj, hzw, rfl⟩ := hG
  intro H locs ls hP hS hl
  exact lv_lload hx hb hd (lget_at hl h) (kk hE H locs ls hP hS hl)
theorem s_istore_n (hG : OK l cc own nL R G) {q : Fin 4} {x : Int32} {lv' : List (Nat × AV)} (hd : decode cc pc = .ok (.istore_n q, 1)) (hn : q.val < nL) (hl : lset lv q.val (vI x) = lv') (kk : E → G k n S lv' (pc + 1) st) : E → G k n S lv pc (vI x :: st) := by
  intro hE
  obtain ⟨p, e, s, m, args, below, meth, c, dC, dI, cA, ad, Q, hx, hb, hml, hown, hts, hnw, hK, hj, hzw, rfl⟩ := hG
  subst hl
  intro H locs ls hP hS hl
  exact lv_istore_n hx hb hd rfl hl hn (gL_lset ad lv q.val (vI x)) (fun ls' hl' => kk hE H locs ls' hP hS hl')
theorem s_istore (hG : OK l cc own nL R G) {i : Nat} {x : Int32} {lv' : List (Nat × AV)} (hd : decode cc pc = .ok (.istore i, 2)) (hn : i < nL) (hl : lset lv i (vI x) = lv') (kk : E → G k n S lv' (pc + 2) st) : E → G k n S lv pc (vI x :: st) := by
  intro hE
  obtain ⟨p, e, s, m, args, below, meth, c, dC, dI, cA, ad, Q, hx, hb, hml, hown, hts, hnw, hK, hj, hzw, rfl⟩ := hG
  subst hl
  intro H locs ls hP hS hl
  exact lv_istore hx hb hd hl hn (gL_lset ad lv i (vI x)) (fun ls' hl' => kk hE H locs ls' hP hS hl')
theorem s_astore_n (hG : OK l cc own nL R G) {q : Fin 4} {a : Nat} {lv' : List (Nat × AV)} (hd : decode cc pc = .ok (.astore_n q, 1)) (hn : q.val < nL) (hl : lset lv q.val (vR a) = lv') (kk : E → G k n S lv' (pc + 1) st) : E → G k n S lv pc (vR a :: st) := by
  intro hE
  obtain ⟨p, e, s, m, args, below, meth, c, dC, dI, cA, ad, Q, hx, hb, hml, hown, hts, hnw, hK, hj, hzw, rfl⟩ := hG
  subst hl
  intro H locs ls hP hS hl
  exact lv_astore_n hx hb hd rfl hl hn (gL_lset ad lv q.val (vR a)) (fun ls' hl' => kk hE H locs ls' hP hS hl')
theorem s_astore (hG : OK l cc own nL R G) {i a : Nat} {lv' : List (Nat × AV)} (hd : decode cc pc = .ok (.astore i, 2)) (hn : i < nL) (hl : lset lv i (vR a) = lv') (kk : E → G k n S lv' (pc + 2) st) : E → G k n S lv pc (vR a :: st) := by
  intro hE
  obtain ⟨p, e, s, m, args, below, meth, c, dC, dI, cA, ad, Q, hx, hb, hml, hown, hts, hnw, hK, hj, hzw, rfl⟩ := hG
  subst hl
  intro H locs ls hP hS hl
  exact lv_astore hx hb hd hl hn (gL_lset ad lv i (vR a)) (fun ls' hl' => kk hE H locs ls' hP hS hl')
theorem s_lstore_n (hG : OK l cc own nL R G) {q : Fin 4} {x : Int64} {lv' : List (Nat × AV)} (hd : decode cc pc = .ok (.lstore_n q, 1)) (hn : q.val + 1 < nL) (hl : lsetL lv q.val (vL x) = lv') (kk : E → G k n S lv' (pc + 1) st) : E → G k n S lv pc (vL x :: st) := by
  intro hE
  obtain ⟨p, e, s, m, args, below, meth, c, dC, dI, cA, ad, Q, hx, hb, hml, hown, hts, hnw, hK, hj, hzw, rfl⟩ := hG
  subst hl
  intro H locs ls hP hS hl
  exact lv_lstore_n hx hb hd rfl hl hn (gL_lsetL ad lv q.val (vL x)) (fun ls' hl' => kk hE H locs ls' hP hS hl')
theorem s_iinc (hG : OK l cc own nL R G) {i : Nat} {z : Int} {x v : Int32} {lv' : List (Nat × AV)} (hd : decode cc pc = .ok (.iinc i z, 3)) (h : lget lv i = some (vI x)) (hv : x + Int32.ofInt z = v) (hn : i < nL) (hl : lset lv i (vI v) = lv') (kk : E → G k n S lv' (pc + 3) st) : E → G k n S lv pc st := by
  intro hE
  obtain ⟨p, e, s, m, args, below, meth, c, dC, dI, cA, ad, Q, hx, hb, hml, hown, hts, hnw, hK, hj, hzw, rfl⟩ := hG
  subst hl
  intro H locs ls hP hS hl
  have hm : (i, Value.int x) ∈ gL ad lv := by
    have h2 := h
    clear kk hl h
    induction lv with
    | nil => cases h2
    | cons q t ih =>
      obtain ⟨j, u⟩ := q
      unfold lget at h2
      by_cases hj : i = j
      · rw [if_pos hj] at h2
        cases h2
        subst hj
        exact List.mem_cons_self
      · rw [if_neg hj] at h2
        exact List.mem_cons_of_mem _ (ih h2)
  obtain ⟨q, hq⟩ := List.getElem?_of_mem hm
  exact lv_iinc hx hb hd hl hq hv hn (gL_lset ad lv i (vI v)) (fun ls' hl' => kk hE H locs ls' hP hS hl')
theorem s_iconst (hG : OK l cc own nL R G) {z : Int} {v : Int32} (hd : decode cc pc = .ok (.iconst z, 1)) (hv : Int32.ofInt z = v) (kk : E → G k n S lv (pc + 1) (vI v :: st)) : E → G k n S lv pc (st) := by
  intro hE
  obtain ⟨p, e, s, m, args, below, meth, c, dC, dI, cA, ad, Q, hx, hb, hml, hown, hts, hnw, hK, hj, hzw, rfl⟩ := hG
  intro H locs ls hP hS hl
  exact lv_iconst hx hb hd hv (kk hE H locs ls hP hS hl)
theorem s_lconst (hG : OK l cc own nL R G) {z : Fin 2} {v : Int64} (hd : decode cc pc = .ok (.lconst z, 1)) (hv : Int64.ofNat (z : Nat) = v) (kk : E → G k n S lv (pc + 1) (vL v :: st)) : E → G k n S lv pc (st) := by
  intro hE
  obtain ⟨p, e, s, m, args, below, meth, c, dC, dI, cA, ad, Q, hx, hb, hml, hown, hts, hnw, hK, hj, hzw, rfl⟩ := hG
  intro H locs ls hP hS hl
  exact lv_lconst hx hb hd hv (kk hE H locs ls hP hS hl)
theorem s_bipush (hG : OK l cc own nL R G) {z : Int} {v : Int32} (hd : decode cc pc = .ok (.bipush z, 2)) (hv : (Int8.ofInt z).toInt32 = v) (kk : E → G k n S lv (pc + 2) (vI v :: st)) : E → G k n S lv pc (st) := by
  intro hE
  obtain ⟨p, e, s, m, args, below, meth, c, dC, dI, cA, ad, Q, hx, hb, hml, hown, hts, hnw, hK, hj, hzw, rfl⟩ := hG
  intro H locs ls hP hS hl
  exact lv_bipush hx hb hd hv (kk hE H locs ls hP hS hl)
theorem s_sipush (hG : OK l cc own nL R G) {z : Int} {v : Int32} (hd : decode cc pc = .ok (.sipush z, 3)) (hv : (Int16.ofInt z).toInt32 = v) (kk : E → G k n S lv (pc + 3) (vI v :: st)) : E → G k n S lv pc (st) := by
  intro hE
  obtain ⟨p, e, s, m, args, below, meth, c, dC, dI, cA, ad, Q, hx, hb, hml, hown, hts, hnw, hK, hj, hzw, rfl⟩ := hG
  intro H locs ls hP hS hl
  exact lv_sipush hx hb hd hv (kk hE H locs ls hP hS hl)
theorem s_ldc (hG : OK l cc own nL R G) {i : Nat} {v : Int32} (hd : decode cc pc = .ok (.ldc i, 2)) (h : Cond.constant own i v ∈ TB) (kk : E → G k n S lv (pc + 2) (vI v :: st)) : E → G k n S lv pc (st) := by
  intro hE
  obtain ⟨p, e, s, m, args, below, meth, c, dC, dI, cA, ad, Q, hx, hb, hml, hown, hts, hnw, hK, hj, hzw, rfl⟩ := hG
  intro H locs ls hP hS hl
  exact lv_ldc hx hb hown (hts _ h) hd (kk hE H locs ls hP hS hl)
theorem s_ldcw (hG : OK l cc own nL R G) {i : Nat} {v : Int32} (hd : decode cc pc = .ok (.ldc_w i, 3)) (h : Cond.constant own i v ∈ TB) (kk : E → G k n S lv (pc + 3) (vI v :: st)) : E → G k n S lv pc (st) := by
  intro hE
  obtain ⟨p, e, s, m, args, below, meth, c, dC, dI, cA, ad, Q, hx, hb, hml, hown, hts, hnw, hK, hj, hzw, rfl⟩ := hG
  intro H locs ls hP hS hl
  exact lv_ldcw hx hb hown (hts _ h) hd (kk hE H locs ls hP hS hl)
theorem s_ldc2 (hG : OK l cc own nL R G) {i : Nat} {v : Int64} (hd : decode cc pc = .ok (.ldc2_w i, 3)) (h : Cond.constantLong own i v ∈ TB) (kk : E → G k n S lv (pc + 3) (vL v :: st)) : E → G k n S lv pc (st) := by
  intro hE
  obtain ⟨p, e, s, m, args, below, meth, c, dC, dI, cA, ad, Q, hx, hb, hml, hown, hts, hnw, hK, hj, hzw, rfl⟩ := hG
  intro H locs ls hP hS hl
  exact lv_ldc2 hx hb hown (hts _ h) hd (kk hE H locs ls hP hS hl)
theorem s_iadd (hG : OK l cc own nL R G) {x y : Int32} (hd : decode cc pc = .ok (.iadd, 1)) (kk : E → G k n S lv (pc + 1) (vI (x + y) :: st)) : E → G k n S lv pc (vI y :: vI x :: st) := by
  intro hE
  obtain ⟨p, e, s, m, args, below, meth, c, dC, dI, cA, ad, Q, hx, hb, hml, hown, hts, hnw, hK, hj, hzw, rfl⟩ := hG
  intro H locs ls hP hS hl
  exact lv_iadd hx hb hd (kk hE H locs ls hP hS hl)
theorem s_isub (hG : OK l cc own nL R G) {x y : Int32} (hd : decode cc pc = .ok (.isub, 1)) (kk : E → G k n S lv (pc + 1) (vI (x - y) :: st)) : E → G k n S lv pc (vI y :: vI x :: st) := by
  intro hE
  obtain ⟨p, e, s, m, args, below, meth, c, dC, dI, cA, ad, Q, hx, hb, hml, hown, hts, hnw, hK, hj, hzw, rfl⟩ := hG
  intro H locs ls hP hS hl
  exact lv_isub hx hb hd (kk hE H locs ls hP hS hl)
theorem s_imul (hG : OK l cc own nL R G) {x y : Int32} (hd : decode cc pc = .ok (.imul, 1)) (kk : E → G k n S lv (pc + 1) (vI (x * y) :: st)) : E → G k n S lv pc (vI y :: vI x :: st) := by
  intro hE
  obtain ⟨p, e, s, m, args, below, meth, c, dC, dI, cA, ad, Q, hx, hb, hml, hown, hts, hnw, hK, hj, hzw, rfl⟩ := hG
  intro H locs ls hP hS hl
  exact lv_imul hx hb hd (kk hE H locs ls hP hS hl)
theorem s_iand (hG : OK l cc own nL R G) {x y : Int32} (hd : decode cc pc = .ok (.iand, 1)) (kk : E → G k n S lv (pc + 1) (vI (x &&& y) :: st)) : E → G k n S lv pc (vI y :: vI x :: st) := by
  intro hE
  obtain ⟨p, e, s, m, args, below, meth, c, dC, dI, cA, ad, Q, hx, hb, hml, hown, hts, hnw, hK, hj, hzw, rfl⟩ := hG
  intro H locs ls hP hS hl
  exact lv_iand hx hb hd (kk hE H locs ls hP hS hl)
theorem s_ior (hG : OK l cc own nL R G) {x y : Int32} (hd : decode cc pc = .ok (.ior, 1)) (kk : E → G k n S lv (pc + 1) (vI (x ||| y) :: st)) : E → G k n S lv pc (vI y :: vI x :: st) := by
  intro hE
  obtain ⟨p, e, s, m, args, below, meth, c, dC, dI, cA, ad, Q, hx, hb, hml, hown, hts, hnw, hK, hj, hzw, rfl⟩ := hG
  intro H locs ls hP hS hl
  exact lv_ior hx hb hd (kk hE H locs ls hP hS hl)
theorem s_ixor (hG : OK l cc own nL R G) {x y : Int32} (hd : decode cc pc = .ok (.ixor, 1)) (kk : E → G k n S lv (pc + 1) (vI (x ^^^ y) :: st)) : E → G k n S lv pc (vI y :: vI x :: st) := by
  intro hE
  obtain ⟨p, e, s, m, args, below, meth, c, dC, dI, cA, ad, Q, hx, hb, hml, hown, hts, hnw, hK, hj, hzw, rfl⟩ := hG
  intro H locs ls hP hS hl
  exact lv_ixor hx hb hd (kk hE H locs ls hP hS hl)
theorem s_ishl (hG : OK l cc own nL R G) {x y : Int32} (hd : decode cc pc = .ok (.ishl, 1)) (kk : E → G k n S lv (pc + 1) (vI (x <<< (y &&& 31)) :: st)) : E → G k n S lv pc (vI y :: vI x :: st) := by
  intro hE
  obtain ⟨p, e, s, m, args, below, meth, c, dC, dI, cA, ad, Q, hx, hb, hml, hown, hts, hnw, hK, hj, hzw, rfl⟩ := hG
  intro H locs ls hP hS hl
  exact lv_ishl hx hb hd (kk hE H locs ls hP hS hl)
theorem s_ishr (hG : OK l cc own nL R G) {x y : Int32} (hd : decode cc pc = .ok (.ishr, 1)) (kk : E → G k n S lv (pc + 1) (vI (x >>> (y &&& 31)) :: st)) : E → G k n S lv pc (vI y :: vI x :: st) := by
  intro hE
  obtain ⟨p, e, s, m, args, below, meth, c, dC, dI, cA, ad, Q, hx, hb, hml, hown, hts, hnw, hK, hj, hzw, rfl⟩ := hG
  intro H locs ls hP hS hl
  exact lv_ishr hx hb hd (kk hE H locs ls hP hS hl)
def ushr (x y : Int32) : Int32 := (x.toUInt32 >>> (y.toUInt32 &&& Int32.toUInt32 31)).toInt32
def lushr (x : Int64) (y : Int32) : Int64 := (x.toUInt64 >>> (y.toInt64.toUInt64 &&& Int64.toUInt64 63)).toInt64
def i2c (x : Int32) : Int32 := (x.toUInt32 % 65536).toInt32
theorem s_iushr (hG : OK l cc own nL R G) {x y : Int32} (hd : decode cc pc = .ok (.iushr, 1)) (kk : E → G k n S lv (pc + 1) (vI (ushr x y) :: st)) : E → G k n S lv pc (vI y :: vI x :: st) := by
  intro hE
  obtain ⟨p, e, s, m, args, below, meth, c, dC, dI, cA, ad, Q, hx, hb, hml, hown, hts, hnw, hK, hj, hzw, rfl⟩ := hG
  intro H locs ls hP hS hl
  exact lv_iushr hx hb hd rfl (kk hE H locs ls hP hS hl)
theorem s_ineg (hG : OK l cc own nL R G) {x : Int32} (hd : decode cc pc = .ok (.ineg, 1)) (kk : E → G k n S lv (pc + 1) (vI (-x) :: st)) : E → G k n S lv pc (vI x :: st) := by
  intro hE
  obtain ⟨p, e, s, m, args, below, meth, c, dC, dI, cA, ad, Q, hx, hb, hml, hown, hts, hnw, hK, hj, hzw, rfl⟩ := hG
  intro H locs ls hP hS hl
  exact lv_ineg hx hb hd (kk hE H locs ls hP hS hl)
theorem s_land (hG : OK l cc own nL R G) {x y : Int64} (hd : decode cc pc = .ok (.land, 1)) (kk : E → G k n S lv (pc + 1) (vL (x &&& y) :: st)) : E → G k n S lv pc (vL y :: vL x :: st) := by
  intro hE
  obtain ⟨p, e, s, m, args, below, meth, c, dC, dI, cA, ad, Q, hx, hb, hml, hown, hts, hnw, hK, hj, hzw, rfl⟩ := hG
  intro H locs ls hP hS hl
  exact lv_land hx hb hd (kk hE H locs ls hP hS hl)
theorem s_lor (hG : OK l cc own nL R G) {x y : Int64} (hd : decode cc pc = .ok (.lor, 1)) (kk : E → G k n S lv (pc + 1) (vL (x ||| y) :: st)) : E → G k n S lv pc (vL y :: vL x :: st) := by
  intro hE
  obtain ⟨p, e, s, m, args, below, meth, c, dC, dI, cA, ad, Q, hx, hb, hml, hown, hts, hnw, hK, hj, hzw, rfl⟩ := hG
  intro H locs ls hP hS hl
  exact lv_lor hx hb hd (kk hE H locs ls hP hS hl)
theorem s_ladd (hG : OK l cc own nL R G) {x y : Int64} (hd : decode cc pc = .ok (.ladd, 1)) (kk : E → G k n S lv (pc + 1) (vL (x + y) :: st)) : E → G k n S lv pc (vL y :: vL x :: st) := by
  intro hE
  obtain ⟨p, e, s, m, args, below, meth, c, dC, dI, cA, ad, Q, hx, hb, hml, hown, hts, hnw, hK, hj, hzw, rfl⟩ := hG
  intro H locs ls hP hS hl
  exact lv_ladd hx hb hd (kk hE H locs ls hP hS hl)
theorem s_lsub (hG : OK l cc own nL R G) {x y : Int64} (hd : decode cc pc = .ok (.lsub, 1)) (kk : E → G k n S lv (pc + 1) (vL (x - y) :: st)) : E → G k n S lv pc (vL y :: vL x :: st) := by
  intro hE
  obtain ⟨p, e, s, m, args, below, meth, c, dC, dI, cA, ad, Q, hx, hb, hml, hown, hts, hnw, hK, hj, hzw, rfl⟩ := hG
  intro H locs ls hP hS hl
  exact lv_lsub hx hb hd (kk hE H locs ls hP hS hl)
theorem s_lshl (hG : OK l cc own nL R G) {x : Int64} {y : Int32} (hd : decode cc pc = .ok (.lshl, 1)) (kk : E → G k n S lv (pc + 1) (vL (x <<< (y.toInt64 &&& 63)) :: st)) : E → G k n S lv pc (vI y :: vL x :: st) := by
  intro hE
  obtain ⟨p, e, s, m, args, below, meth, c, dC, dI, cA, ad, Q, hx, hb, hml, hown, hts, hnw, hK, hj, hzw, rfl⟩ := hG
  intro H locs ls hP hS hl
  exact lv_lshl hx hb hd rfl (kk hE H locs ls hP hS hl)
theorem s_lshr (hG : OK l cc own nL R G) {x : Int64} {y : Int32} (hd : decode cc pc = .ok (.lshr, 1)) (kk : E → G k n S lv (pc + 1) (vL (x >>> (y.toInt64 &&& 63)) :: st)) : E → G k n S lv pc (vI y :: vL x :: st) := by
  intro hE
  obtain ⟨p, e, s, m, args, below, meth, c, dC, dI, cA, ad, Q, hx, hb, hml, hown, hts, hnw, hK, hj, hzw, rfl⟩ := hG
  intro H locs ls hP hS hl
  exact lv_lshr hx hb hd rfl (kk hE H locs ls hP hS hl)
theorem s_lushr (hG : OK l cc own nL R G) {x : Int64} {y : Int32} (hd : decode cc pc = .ok (.lushr, 1)) (kk : E → G k n S lv (pc + 1) (vL (lushr x y) :: st)) : E → G k n S lv pc (vI y :: vL x :: st) := by
  intro hE
  obtain ⟨p, e, s, m, args, below, meth, c, dC, dI, cA, ad, Q, hx, hb, hml, hown, hts, hnw, hK, hj, hzw, rfl⟩ := hG
  intro H locs ls hP hS hl
  exact lv_lushr hx hb hd rfl (kk hE H locs ls hP hS hl)
theorem s_lcmp (hG : OK l cc own nL R G) {x y : Int64} (hd : decode cc pc = .ok (.lcmp, 1)) (kk : E → G k n S lv (pc + 1) (vI (lg_cmp x y) :: st)) : E → G k n S lv pc (vL y :: vL x :: st) := by
  intro hE
  obtain ⟨p, e, s, m, args, below, meth, c, dC, dI, cA, ad, Q, hx, hb, hml, hown, hts, hnw, hK, hj, hzw, rfl⟩ := hG
  intro H locs ls hP hS hl
  exact W.lcmp hx hb hd (kk hE H locs ls hP hS hl)
theorem s_i2l (hG : OK l cc own nL R G) {x : Int32} (hd : decode cc pc = .ok (.i2l, 1)) (kk : E → G k n S lv (pc + 1) (vL x.toInt64 :: st)) : E → G k n S lv pc (vI x :: st) := by
  intro hE
  obtain ⟨p, e, s, m, args, below, meth, c, dC, dI, cA, ad, Q, hx, hb, hml, hown, hts, hnw, hK, hj, hzw, rfl⟩ := hG
  intro H locs ls hP hS hl
  exact lv_i2l hx hb hd rfl (kk hE H locs ls hP hS hl)
theorem s_l2i (hG : OK l cc own nL R G) {x : Int64} (hd : decode cc pc = .ok (.l2i, 1)) (kk : E → G k n S lv (pc + 1) (vI x.toInt32 :: st)) : E → G k n S lv pc (vL x :: st) := by
  intro hE
  obtain ⟨p, e, s, m, args, below, meth, c, dC, dI, cA, ad, Q, hx, hb, hml, hown, hts, hnw, hK, hj, hzw, rfl⟩ := hG
  intro H locs ls hP hS hl
  exact lv_l2i hx hb hd rfl (kk hE H locs ls hP hS hl)
theorem s_i2c (hG : OK l cc own nL R G) {x : Int32} (hd : decode cc pc = .ok (.i2c, 1)) (kk : E → G k n S lv (pc + 1) (vI (i2c x) :: st)) : E → G k n S lv pc (vI x :: st) := by
  intro hE
  obtain ⟨p, e, s, m, args, below, meth, c, dC, dI, cA, ad, Q, hx, hb, hml, hown, hts, hnw, hK, hj, hzw, rfl⟩ := hG
  intro H locs ls hP hS hl
  exact lv_i2c hx hb hd rfl (kk hE H locs ls hP hS hl)
theorem s_dup (hG : OK l cc own nL R G) {v : AV} (hd : decode cc pc = .ok (.dup, 1)) (hc : cat2 v = false) (kk : E → G k n S lv (pc + 1) (v :: v :: st)) : E → G k n S lv pc (v :: st) := by
  intro hE
  obtain ⟨p, e, s, m, args, below, meth, c, dC, dI, cA, ad, Q, hx, hb, hml, hown, hts, hnw, hK, hj, hzw, rfl⟩ := hG
  intro H locs ls hP hS hl
  exact lv_dup hx hb hd (gV_cat1 hc) (kk hE H locs ls hP hS hl)
theorem s_dup2 (hG : OK l cc own nL R G) {v u : AV} (hd : decode cc pc = .ok (.dup2, 1)) (hc : cat2 v = false) (hc2 : cat2 u = false) (kk : E → G k n S lv (pc + 1) (v :: u :: v :: u :: st)) : E → G k n S lv pc (v :: u :: st) := by
  intro hE
  obtain ⟨p, e, s, m, args, below, meth, c, dC, dI, cA, ad, Q, hx, hb, hml, hown, hts, hnw, hK, hj, hzw, rfl⟩ := hG
  intro H locs ls hP hS hl
  exact lv_dup2_11 hx hb hd (gV_cat1 hc) (gV_cat1 hc2) (kk hE H locs ls hP hS hl)
theorem s_pop (hG : OK l cc own nL R G) {v : AV} (hd : decode cc pc = .ok (.pop, 1)) (hc : cat2 v = false) (kk : E → G k n S lv (pc + 1) (st)) : E → G k n S lv pc (v :: st) := by
  intro hE
  obtain ⟨p, e, s, m, args, below, meth, c, dC, dI, cA, ad, Q, hx, hb, hml, hown, hts, hnw, hK, hj, hzw, rfl⟩ := hG
  intro H locs ls hP hS hl
  exact lv_pop hx hb hd (gV_cat1 hc) (kk hE H locs ls hP hS hl)
theorem s_goto (hG : OK l cc own nL R G) {off : Int} {tgt : Nat} (hd : decode cc pc = .ok (.goto off, 3)) (ht : (pc : Int) + off = (tgt : Int)) (kk : E → G k n S lv tgt st) : E → G k n S lv pc st := by
  intro hE
  obtain ⟨p, e, s, m, args, below, meth, c, dC, dI, cA, ad, Q, hx, hb, hml, hown, hts, hnw, hK, hj, hzw, rfl⟩ := hG
  intro H locs ls hP hS hl
  exact lv_goto hx hb hd ht (kk hE H locs ls hP hS hl)
theorem s_lv (hG : OK l cc own nL R G) {lv' : List (Nat × AV)} (ks : List Nat) (h : ks.filterMap (fun i => lv[i]?) = lv') (kk : E → G k n S lv' pc st) : E → G k n S lv pc st := by
  intro hE
  obtain ⟨p, e, s, m, args, below, meth, c, dC, dI, cA, ad, Q, hx, hb, hml, hown, hts, hnw, hK, hj, hzw, rfl⟩ := hG
  intro H locs ls hP hS hl
  refine kk hE H locs ls hP hS (lv_sub hl ks ?_)
  subst h
  unfold lv_pick gL
  rw [List.map_filterMap]
  congr 1
  funext i
  simp
theorem s_idiv (hG : OK l cc own nL R G) {α : Type} {A : Option α} {out : α} {x y : Int32} (hd : decode cc pc = .ok (.idiv, 1)) (kk : A = some out → G k n S lv (pc + 1) (vI (x / y) :: st)) : (if y = 0 then none else A) = some out → G k n S lv pc (vI y :: vI x :: st) := by
  intro hE
  by_cases hy : y = 0
  · rw [if_pos hy] at hE; cases hE
  rw [if_neg hy] at hE
  obtain ⟨p, e, s, m, args, below, meth, c, dC, dI, cA, ad, Q, hx, hb, hml, hown, hts, hnw, hK, hj, hzw, rfl⟩ := hG
  intro H locs ls hP hS hl
  exact lv_idiv hx hb hd hy (kk hE H locs ls hP hS hl)
theorem s_irem (hG : OK l cc own nL R G) {α : Type} {A : Option α} {out : α} {x y : Int32} (hd : decode cc pc = .ok (.irem, 1)) (kk : A = some out → G k n S lv (pc + 1) (vI (x - x / y * y) :: st)) : (if y = 0 then none else A) = some out → G k n S lv pc (vI y :: vI x :: st) := by
  intro hE
  by_cases hy : y = 0
  · rw [if_pos hy] at hE; cases hE
  rw [if_neg hy] at hE
  obtain ⟨p, e, s, m, args, below, meth, c, dC, dI, cA, ad, Q, hx, hb, hml, hown, hts, hnw, hK, hj, hzw, rfl⟩ := hG
  intro H locs ls hP hS hl
  exact lv_irem hx hb hd hy (kk hE H locs ls hP hS hl)
theorem s_if_eq (hG : OK l cc own nL R G) {α : Type} {A B : Option α} {out : α} {x : Int32} {off : Int} {tgt : Nat} (hd : decode cc pc = .ok (.ifCond .eq off, 3)) (ht : (pc : Int) + off = (tgt : Int)) (kt : A = some out → G k n S lv tgt st) (kf : B = some out → G k n S lv (pc + 3) st) : (if x = 0 then A else B) = some out → G k n S lv pc (vI x :: st) := by
  intro hE
  obtain ⟨p, e, s, m, args, below, meth, c, dC, dI, cA, ad, Q, hx, hb, hml, hown, hts, hnw, hK, hj, hzw, rfl⟩ := hG
  intro H locs ls hP hS hl
  exact lv_if_eq hx hb hd ht (fun h => kt (by rwa [if_pos h] at hE) H locs ls hP hS hl) (fun h => kf (by rwa [if_neg h] at hE) H locs ls hP hS hl)
theorem s_if_lt (hG : OK l cc own nL R G) {α : Type} {A B : Option α} {out : α} {x : Int32} {off : Int} {tgt : Nat} (hd : decode cc pc = .ok (.ifCond .lt off, 3)) (ht : (pc : Int) + off = (tgt : Int)) (kt : A = some out → G k n S lv tgt st) (kf : B = some out → G k n S lv (pc + 3) st) : (if x < 0 then A else B) = some out → G k n S lv pc (vI x :: st) := by
  intro hE
  obtain ⟨p, e, s, m, args, below, meth, c, dC, dI, cA, ad, Q, hx, hb, hml, hown, hts, hnw, hK, hj, hzw, rfl⟩ := hG
  intro H locs ls hP hS hl
  exact lv_if_lt hx hb hd ht (fun h => kt (by rwa [if_pos h] at hE) H locs ls hP hS hl) (fun h => kf (by rwa [if_neg h] at hE) H locs ls hP hS hl)
theorem s_if_le (hG : OK l cc own nL R G) {α : Type} {A B : Option α} {out : α} {x : Int32} {off : Int} {tgt : Nat} (hd : decode cc pc = .ok (.ifCond .le off, 3)) (ht : (pc : Int) + off = (tgt : Int)) (kt : A = some out → G k n S lv tgt st) (kf : B = some out → G k n S lv (pc + 3) st) : (if x ≤ 0 then A else B) = some out → G k n S lv pc (vI x :: st) := by
  intro hE
  obtain ⟨p, e, s, m, args, below, meth, c, dC, dI, cA, ad, Q, hx, hb, hml, hown, hts, hnw, hK, hj, hzw, rfl⟩ := hG
  intro H locs ls hP hS hl
  exact lv_if_le hx hb hd ht (fun h => kt (by rwa [if_pos h] at hE) H locs ls hP hS hl) (fun h => kf (by rwa [if_neg h] at hE) H locs ls hP hS hl)
theorem s_if_ge (hG : OK l cc own nL R G) {α : Type} {A B : Option α} {out : α} {x : Int32} {off : Int} {tgt : Nat} (hd : decode cc pc = .ok (.ifCond .ge off, 3)) (ht : (pc : Int) + off = (tgt : Int)) (kt : A = some out → G k n S lv tgt st) (kf : B = some out → G k n S lv (pc + 3) st) : (if 0 ≤ x then A else B) = some out → G k n S lv pc (vI x :: st) := by
  intro hE
  obtain ⟨p, e, s, m, args, below, meth, c, dC, dI, cA, ad, Q, hx, hb, hml, hown, hts, hnw, hK, hj, hzw, rfl⟩ := hG
  intro H locs ls hP hS hl
  exact lv_if_ge hx hb hd ht (fun h => kt (by rwa [if_pos h] at hE) H locs ls hP hS hl) (fun h => kf (by rwa [if_neg h] at hE) H locs ls hP hS hl)
theorem s_if_gt (hG : OK l cc own nL R G) {α : Type} {A B : Option α} {out : α} {x : Int32} {off : Int} {tgt : Nat} (hd : decode cc pc = .ok (.ifCond .gt off, 3)) (ht : (pc : Int) + off = (tgt : Int)) (kt : A = some out → G k n S lv tgt st) (kf : B = some out → G k n S lv (pc + 3) st) : (if 0 < x then A else B) = some out → G k n S lv pc (vI x :: st) := by
  intro hE
  obtain ⟨p, e, s, m, args, below, meth, c, dC, dI, cA, ad, Q, hx, hb, hml, hown, hts, hnw, hK, hj, hzw, rfl⟩ := hG
  intro H locs ls hP hS hl
  exact lv_if_gt hx hb hd ht (fun h => kt (by rwa [if_pos h] at hE) H locs ls hP hS hl) (fun h => kf (by rwa [if_neg h] at hE) H locs ls hP hS hl)
theorem s_icmp_eq (hG : OK l cc own nL R G) {α : Type} {A B : Option α} {out : α} {x y : Int32} {off : Int} {tgt : Nat} (hd : decode cc pc = .ok (.if_icmp .eq off, 3)) (ht : (pc : Int) + off = (tgt : Int)) (kt : A = some out → G k n S lv tgt st) (kf : B = some out → G k n S lv (pc + 3) st) : (if x = y then A else B) = some out → G k n S lv pc (vI y :: vI x :: st) := by
  intro hE
  obtain ⟨p, e, s, m, args, below, meth, c, dC, dI, cA, ad, Q, hx, hb, hml, hown, hts, hnw, hK, hj, hzw, rfl⟩ := hG
  intro H locs ls hP hS hl
  exact lv_icmp_eq hx hb hd ht (fun h => kt (by rwa [if_pos h] at hE) H locs ls hP hS hl) (fun h => kf (by rwa [if_neg h] at hE) H locs ls hP hS hl)
theorem s_icmp_lt (hG : OK l cc own nL R G) {α : Type} {A B : Option α} {out : α} {x y : Int32} {off : Int} {tgt : Nat} (hd : decode cc pc = .ok (.if_icmp .lt off, 3)) (ht : (pc : Int) + off = (tgt : Int)) (kt : A = some out → G k n S lv tgt st) (kf : B = some out → G k n S lv (pc + 3) st) : (if x < y then A else B) = some out → G k n S lv pc (vI y :: vI x :: st) := by
  intro hE
  obtain ⟨p, e, s, m, args, below, meth, c, dC, dI, cA, ad, Q, hx, hb, hml, hown, hts, hnw, hK, hj, hzw, rfl⟩ := hG
  intro H locs ls hP hS hl
  exact lv_icmp_lt hx hb hd ht (fun h => kt (by rwa [if_pos h] at hE) H locs ls hP hS hl) (fun h => kf (by rwa [if_neg h] at hE) H locs ls hP hS hl)
theorem s_icmp_gt (hG : OK l cc own nL R G) {α : Type} {A B : Option α} {out : α} {x y : Int32} {off : Int} {tgt : Nat} (hd : decode cc pc = .ok (.if_icmp .gt off, 3)) (ht : (pc : Int) + off = (tgt : Int)) (kt : A = some out → G k n S lv tgt st) (kf : B = some out → G k n S lv (pc + 3) st) : (if y < x then A else B) = some out → G k n S lv pc (vI y :: vI x :: st) := by
  intro hE
  obtain ⟨p, e, s, m, args, below, meth, c, dC, dI, cA, ad, Q, hx, hb, hml, hown, hts, hnw, hK, hj, hzw, rfl⟩ := hG
  intro H locs ls hP hS hl
  exact lv_icmp_gt hx hb hd ht (fun h => kt (by rwa [if_pos h] at hE) H locs ls hP hS hl) (fun h => kf (by rwa [if_neg h] at hE) H locs ls hP hS hl)
theorem s_icmp_le (hG : OK l cc own nL R G) {α : Type} {A B : Option α} {out : α} {x y : Int32} {off : Int} {tgt : Nat} (hd : decode cc pc = .ok (.if_icmp .le off, 3)) (ht : (pc : Int) + off = (tgt : Int)) (kt : A = some out → G k n S lv tgt st) (kf : B = some out → G k n S lv (pc + 3) st) : (if x ≤ y then A else B) = some out → G k n S lv pc (vI y :: vI x :: st) := by
  intro hE
  obtain ⟨p, e, s, m, args, below, meth, c, dC, dI, cA, ad, Q, hx, hb, hml, hown, hts, hnw, hK, hj, hzw, rfl⟩ := hG
  intro H locs ls hP hS hl
  exact lv_icmp_le hx hb hd ht (fun h => kt (by rwa [if_pos h] at hE) H locs ls hP hS hl) (fun h => kf (by rwa [if_neg h] at hE) H locs ls hP hS hl)
theorem s_icmp_ge (hG : OK l cc own nL R G) {α : Type} {A B : Option α} {out : α} {x y : Int32} {off : Int} {tgt : Nat} (hd : decode cc pc = .ok (.if_icmp .ge off, 3)) (ht : (pc : Int) + off = (tgt : Int)) (kt : A = some out → G k n S lv tgt st) (kf : B = some out → G k n S lv (pc + 3) st) : (if y ≤ x then A else B) = some out → G k n S lv pc (vI y :: vI x :: st) := by
  intro hE
  obtain ⟨p, e, s, m, args, below, meth, c, dC, dI, cA, ad, Q, hx, hb, hml, hown, hts, hnw, hK, hj, hzw, rfl⟩ := hG
  intro H locs ls hP hS hl
  exact lv_icmp_ge hx hb hd ht (fun h => kt (by rwa [if_pos h] at hE) H locs ls hP hS hl) (fun h => kf (by rwa [if_neg h] at hE) H locs ls hP hS hl)
theorem s_if_ne (hG : OK l cc own nL R G) {α : Type} {A B : Option α} {out : α} {x : Int32} {off : Int} {tgt : Nat} (hd : decode cc pc = .ok (.ifCond .ne off, 3)) (ht : (pc : Int) + off = (tgt : Int)) (kt : A = some out → G k n S lv tgt st) (kf : B = some out → G k n S lv (pc + 3) st) : (if x = 0 then B else A) = some out → G k n S lv pc (vI x :: st) := by
  intro hE
  obtain ⟨p, e, s, m, args, below, meth, c, dC, dI, cA, ad, Q, hx, hb, hml, hown, hts, hnw, hK, hj, hzw, rfl⟩ := hG
  intro H locs ls hP hS hl
  exact lv_if_ne hx hb hd ht (fun h => kt (by rwa [if_neg h] at hE) H locs ls hP hS hl) (fun h => kf (by rwa [if_pos h] at hE) H locs ls hP hS hl)
theorem s_icmp_ne (hG : OK l cc own nL R G) {α : Type} {A B : Option α} {out : α} {x y : Int32} {off : Int} {tgt : Nat} (hd : decode cc pc = .ok (.if_icmp .ne off, 3)) (ht : (pc : Int) + off = (tgt : Int)) (kt : A = some out → G k n S lv tgt st) (kf : B = some out → G k n S lv (pc + 3) st) : (if x = y then B else A) = some out → G k n S lv pc (vI y :: vI x :: st) := by
  intro hE
  obtain ⟨p, e, s, m, args, below, meth, c, dC, dI, cA, ad, Q, hx, hb, hml, hown, hts, hnw, hK, hj, hzw, rfl⟩ := hG
  intro H locs ls hP hS hl
  exact lv_icmp_ne hx hb hd ht (fun h => kt (by rwa [if_neg h] at hE) H locs ls hP hS hl) (fun h => kf (by rwa [if_pos h] at hE) H locs ls hP hS hl)
theorem s_getI (hG : OK l cc own nL R G) {a kf ci idx z : Nat} {ty : FieldType} (hd : decode cc pc = .ok (.getfield idx, 3)) (hf : FL own idx ci kf ty) (h : fk a kf = some (ci, (0, z))) (kk : E → G k n S lv (pc + 3) (vI (S.1 a kf) :: st)) : E → G k n S lv pc (vR a :: st) := by
  intro hE
  obtain ⟨p, e, s, m, args, below, meth, c, dC, dI, cA, ad, Q, hx, hb, hml, hown, hts, hnw, hK, hj, hzw, rfl⟩ := hG
  intro H locs ls hP hS hl
  obtain ⟨ks, h1, h2⟩ := fk_at h
  obtain ⟨C, T, N, ty0, hc, hk, hin, hty, hnm, -, hlk⟩ := hf
  have he := wld_at (cA := cA) (ad := ad) (S := S) h1
  have hv : (ks.mapIdx fun j kd => fV ad S a j kd)[kf]? = some (.int (S.1 a kf)) := by
    rw [List.getElem?_mapIdx, h2]
    simp [fV]
  rcases hlk with hlk | ⟨host, hlk⟩
  · exact va_get (D := (dC, dI)) (ci := ci) (C := C) (T := T) (N := N) hx hb hts hin hown hK hP a he hc kf hk (hts _ hlk) (fun _ h9 => h9) hv hd (kk hE H locs ls hP hS hl)
  · exact va_getN (D := (dC, dI)) (ci := ci) (C := C) (T := T) (N := N) hx hb hts hin hown hK hP a he hc kf hk (va_Nw.use rfl (hnw.1 _ hlk)) (fun _ h9 => h9) hv hd (kk hE H locs ls hP hS hl)
theorem s_getL (hG : OK l cc own nL R G) {a kf ci idx z : Nat} {ty : FieldType} (hd : decode cc pc = .ok (.getfield idx, 3)) (hf : FL own idx ci kf ty) (h : fk a kf = some (ci, (1, z))) (kk : E → G k n S lv (pc + 3) (vL (S.2.1 a kf) :: st)) : E → G k n S lv pc (vR a :: st) := by
  intro hE
  obtain ⟨p, e, s, m, args, below, meth, c, dC, dI, cA, ad, Q, hx, hb, hml, hown, hts, hnw, hK, hj, hzw, rfl⟩ := hG
  intro H locs ls hP hS hl
  obtain ⟨ks, h1, h2⟩ := fk_at h
  obtain ⟨C, T, N, ty0, hc, hk, hin, hty, hnm, -, hlk⟩ := hf
  have he := wld_at (cA := cA) (ad := ad) (S := S) h1
  have hv : (ks.mapIdx fun j kd => fV ad S a j kd)[kf]? = some (.long (S.2.1 a kf)) := by
    rw [List.getElem?_mapIdx, h2]
    simp [fV]
  rcases hlk with hlk | ⟨host, hlk⟩
  · exact va_get (D := (dC, dI)) (ci := ci) (C := C) (T := T) (N := N) hx hb hts hin hown hK hP a he hc kf hk (hts _ hlk) (fun _ h9 => h9) hv hd (kk hE H locs ls hP hS hl)
  · exact va_getN (D := (dC, dI)) (ci := ci) (C := C) (T := T) (N := N) hx hb hts hin hown hK hP a he hc kf hk (va_Nw.use rfl (hnw.1 _ hlk)) (fun _ h9 => h9) hv hd (kk hE H locs ls hP hS hl)
theorem s_getC (hG : OK l cc own nL R G) {a kf ci idx z : Nat} {ty : FieldType} (hd : decode cc pc = .ok (.getfield idx, 3)) (hf : FL own idx ci kf ty) (h : fk a kf = some (ci, (3, z))) (kk : E → G k n S lv (pc + 3) (vR z :: st)) : E → G k n S lv pc (vR a :: st) := by
  intro hE
  obtain ⟨p, e, s, m, args, below, meth, c, dC, dI, cA, ad, Q, hx, hb, hml, hown, hts, hnw, hK, hj, hzw, rfl⟩ := hG
  intro H locs ls hP hS hl
  obtain ⟨ks, h1, h2⟩ := fk_at h
  obtain ⟨C, T, N, ty0, hc, hk, hin, hty, hnm, -, hlk⟩ := hf
  have he := wld_at (cA := cA) (ad := ad) (S := S) h1
  have hv : (ks.mapIdx fun j kd => fV ad S a j kd)[kf]? = some (.ref (ad z)) := by
    rw [List.getElem?_mapIdx, h2]
    simp [fV]
  rcases hlk with hlk | ⟨host, hlk⟩
  · exact va_get (D := (dC, dI)) (ci := ci) (C := C) (T := T) (N := N) hx hb hts hin hown hK hP a he hc kf hk (hts _ hlk) (fun _ h9 => h9) hv hd (kk hE H locs ls hP hS hl)
  · exact va_getN (D := (dC, dI)) (ci := ci) (C := C) (T := T) (N := N) hx hb hts hin hown hK hP a he hc kf hk (va_Nw.use rfl (hnw.1 _ hlk)) (fun _ h9 => h9) hv hd (kk hE H locs ls hP hS hl)
theorem s_getR0 (hG : OK l cc own nL R G) {a kf ci idx z : Nat} {ty : FieldType} {b : Nat} (hd : decode cc pc = .ok (.getfield idx, 3)) (hf : FL own idx ci kf ty) (h : fk a kf = some (ci, (2, z))) (hr : S.2.2 a kf = some b) (kk : E → G k n S lv (pc + 3) (vR b :: st)) : E → G k n S lv pc (vR a :: st) := by
  intro hE
  obtain ⟨p, e, s, m, args, below, meth, c, dC, dI, cA, ad, Q, hx, hb, hml, hown, hts, hnw, hK, hj, hzw, rfl⟩ := hG
  intro H locs ls hP hS hl
  obtain ⟨ks, h1, h2⟩ := fk_at h
  obtain ⟨C, T, N, ty0, hc, hk, hin, hty, hnm, -, hlk⟩ := hf
  have he := wld_at (cA := cA) (ad := ad) (S := S) h1
  have hv : (ks.mapIdx fun j kd => fV ad S a j kd)[kf]? = some (.ref (ad b)) := by
    rw [List.getElem?_mapIdx, h2]
    simp [fV, hr, va_rf]
  rcases hlk with hlk | ⟨host, hlk⟩
  · exact va_get (D := (dC, dI)) (ci := ci) (C := C) (T := T) (N := N) hx hb hts hin hown hK hP a he hc kf hk (hts _ hlk) (fun _ h9 => h9) hv hd (kk hE H locs ls hP hS hl)
  · exact va_getN (D := (dC, dI)) (ci := ci) (C := C) (T := T) (N := N) hx hb hts hin hown hK hP a he hc kf hk (va_Nw.use rfl (hnw.1 _ hlk)) (fun _ h9 => h9) hv hd (kk hE H locs ls hP hS hl)
def rf {α : Type} (r : Option Nat) (ci : Nat) (f : Nat → Option α) : Option α := match r with
  | none => none
  | some b => if oc b = some ci then f b else none
theorem s_getR (hG : OK l cc own nL R G) {α : Type} {out : α} {F : Nat → Option α} {a kf ci idx z cj : Nat} {ty : FieldType} (hd : decode cc pc = .ok (.getfield idx, 3)) (hf : FL own idx ci kf ty) (h : fk a kf = some (ci, (2, z))) (kk : ∀ b, oc b = some cj → F b = some out → G k n S lv (pc + 3) (vR b :: st)) : rf (S.2.2 a kf) cj F = some out → G k n S lv pc (vR a :: st) := by
  intro hE
  unfold rf at hE
  split at hE
  · cases hE
  · next b hb =>
    by_cases ho : oc b = some cj
    · rw [if_pos ho] at hE
      exact s_getR0 hG hd hf h hb (kk b ho) hE
    · rw [if_neg ho] at hE
      cases hE
theorem s_putI (hG : OK l cc own nL R G) {a kf ci idx z : Nat} {ty : FieldType} {x : Int32} (hd : decode cc pc = .ok (.putfield idx, 3)) (hf : FL own idx ci kf ty) (hp : FP ci kf) (h : fk a kf = some (ci, (0, z))) (hn : narrow ty (.int x) = .int x ∧ fits ty (.int x) = true) (kk : E → G k n (sI S a kf x) lv (pc + 3) st) : E → G k n S lv pc (vI x :: vR a :: st) := by
  intro hE
  obtain ⟨p, e, s, m, args, below, meth, c, dC, dI, cA, ad, Q, hx, hb, hml, hown, hts, hnw, hK, hj, hzw, rfl⟩ := hG
  intro H locs ls hP hS hl
  obtain ⟨ks, h1, h2⟩ := fk_at h
  obtain ⟨C, T, N, ty0, hc, hk, hin, hty, hnm, hte, hlk⟩ := hf
  have he := wld_at (cA := cA) (ad := ad) (S := S) h1
  have hD : va_D (fA ad s.heap.size) (wld cA ad S) := wld_D hj (fun k hk => Or.inl ⟨k, hk, rfl⟩)
  have hl9 : kf < (ks.mapIdx fun j kd => fV ad S a j kd).length := by
    rcases List.getElem?_eq_some_iff.mp h2 with ⟨q, -⟩
    simpa using q
  have hpd : parseFieldDescriptor (T kf).2.2.1 = some ty := by rw [hty kf hk, hte]
  rcases hlk with hlk | ⟨host, hlk⟩
  · exact va_put (D := (dC, dI)) (ci := ci) (C := C) (T := T) (N := N) (ty := ty) hx hb hts hin ty0 hty hnm hown hK hP hD hS a he hc kf hk (hts _ hlk) (fun _ h9 => h9) (hp C T N hc) hpd hn.1 hn.2 hl9 hd (fun H1 locs1 hP1 _ hS1 => kk hE H1 locs1 ls (by rw [← setI_obj h1 h2]; exact hP1) hS1 hl)
  · exact va_putN (D := (dC, dI)) (ci := ci) (C := C) (T := T) (N := N) (ty := ty) hx hb hts hin ty0 hty hnm hown hK hP hD hS a he hc kf hk (va_Nw.use rfl (hnw.1 _ hlk)) (fun _ h9 => h9) (hp C T N hc) hpd hn.1 hn.2 hl9 hd (fun H1 locs1 hP1 _ hS1 => kk hE H1 locs1 ls (by rw [← setI_obj h1 h2]; exact hP1) hS1 hl)
theorem s_putL (hG : OK l cc own nL R G) {a kf ci idx z : Nat} {ty : FieldType} {x : Int64} (hd : decode cc pc = .ok (.putfield idx, 3)) (hf : FL own idx ci kf ty) (hp : FP ci kf) (h : fk a kf = some (ci, (1, z))) (hn : narrow ty (.long x) = .long x ∧ fits ty (.long x) = true) (kk : E → G k n (sL S a kf x) lv (pc + 3) st) : E → G k n S lv pc (vL x :: vR a :: st) := by
  intro hE
  obtain ⟨p, e, s, m, args, below, meth, c, dC, dI, cA, ad, Q, hx, hb, hml, hown, hts, hnw, hK, hj, hzw, rfl⟩ := hG
  intro H locs ls hP hS hl
  obtain ⟨ks, h1, h2⟩ := fk_at h
  obtain ⟨C, T, N, ty0, hc, hk, hin, hty, hnm, hte, hlk⟩ := hf
  have he := wld_at (cA := cA) (ad := ad) (S := S) h1
  have hD : va_D (fA ad s.heap.size) (wld cA ad S) := wld_D hj (fun k hk => Or.inl ⟨k, hk, rfl⟩)
  have hl9 : kf < (ks.mapIdx fun j kd => fV ad S a j kd).length := by
    rcases List.getElem?_eq_some_iff.mp h2 with ⟨q, -⟩
    simpa using q
  have hpd : parseFieldDescriptor (T kf).2.2.1 = some ty := by rw [hty kf hk, hte]
  rcases hlk with hlk | ⟨host, hlk⟩
  · exact va_put (D := (dC, dI)) (ci := ci) (C := C) (T := T) (N := N) (ty := ty) hx hb hts hin ty0 hty hnm hown hK hP hD hS a he hc kf hk (hts _ hlk) (fun _ h9 => h9) (hp C T N hc) hpd hn.1 hn.2 hl9 hd (fun H1 locs1 hP1 _ hS1 => kk hE H1 locs1 ls (by rw [← setL_obj h1 h2]; exact hP1) hS1 hl)
  · exact va_putN (D := (dC, dI)) (ci := ci) (C := C) (T := T) (N := N) (ty := ty) hx hb hts hin ty0 hty hnm hown hK hP hD hS a he hc kf hk (va_Nw.use rfl (hnw.1 _ hlk)) (fun _ h9 => h9) (hp C T N hc) hpd hn.1 hn.2 hl9 hd (fun H1 locs1 hP1 _ hS1 => kk hE H1 locs1 ls (by rw [← setL_obj h1 h2]; exact hP1) hS1 hl)
theorem s_putR (hG : OK l cc own nL R G) {a kf ci idx z : Nat} {ty : FieldType} {b : Nat} (hd : decode cc pc = .ok (.putfield idx, 3)) (hf : FL own idx ci kf ty) (hp : FP ci kf) (h : fk a kf = some (ci, (2, z))) (hn : ∀ q9 : Nat, narrow ty (.ref q9) = .ref q9 ∧ fits ty (.ref q9) = true) (kk : E → G k n (sR S a kf (some b)) lv (pc + 3) st) : E → G k n S lv pc (vR b :: vR a :: st) := by
  intro hE
  obtain ⟨p, e, s, m, args, below, meth, c, dC, dI, cA, ad, Q, hx, hb, hml, hown, hts, hnw, hK, hj, hzw, rfl⟩ := hG
  intro H locs ls hP hS hl
  obtain ⟨ks, h1, h2⟩ := fk_at h
  obtain ⟨C, T, N, ty0, hc, hk, hin, hty, hnm, hte, hlk⟩ := hf
  have he := wld_at (cA := cA) (ad := ad) (S := S) h1
  have hD : va_D (fA ad s.heap.size) (wld cA ad S) := wld_D hj (fun k hk => Or.inl ⟨k, hk, rfl⟩)
  have hl9 : kf < (ks.mapIdx fun j kd => fV ad S a j kd).length := by
    rcases List.getElem?_eq_some_iff.mp h2 with ⟨q, -⟩
    simpa using q
  have hpd : parseFieldDescriptor (T kf).2.2.1 = some ty := by rw [hty kf hk, hte]
  rcases hlk with hlk | ⟨host, hlk⟩
  · exact va_put (D := (dC, dI)) (ci := ci) (C := C) (T := T) (N := N) (ty := ty) hx hb hts hin ty0 hty hnm hown hK hP hD hS a he hc kf hk (hts _ hlk) (fun _ h9 => h9) (hp C T N hc) hpd (hn (ad b)).1 (hn (ad b)).2 hl9 hd (fun H1 locs1 hP1 _ hS1 => kk hE H1 locs1 ls (by rw [← setR_obj h1 h2]; exact hP1) hS1 hl)
  · exact va_putN (D := (dC, dI)) (ci := ci) (C := C) (T := T) (N := N) (ty := ty) hx hb hts hin ty0 hty hnm hown hK hP hD hS a he hc kf hk (va_Nw.use rfl (hnw.1 _ hlk)) (fun _ h9 => h9) (hp C T N hc) hpd (hn (ad b)).1 (hn (ad b)).2 hl9 hd (fun H1 locs1 hP1 _ hS1 => kk hE H1 locs1 ls (by rw [← setR_obj h1 h2]; exact hP1) hS1 hl)
theorem s_putZ (hG : OK l cc own nL R G) {α : Type} {A : Option α} {out : α} {a kf ci idx z : Nat} {x : Int32} (hd : decode cc pc = .ok (.putfield idx, 3)) (hf : FL own idx ci kf .boolean) (hp : FP ci kf) (h : fk a kf = some (ci, (0, z))) (kk : A = some out → G k n (sI S a kf x) lv (pc + 3) st) : (if nz x = true then A else none) = some out → G k n S lv pc (vI x :: vR a :: st) := by
  intro hE
  by_cases hy : nz x = true
  · rw [if_pos hy] at hE
    exact s_putI hG hd hf hp h (nz_ok hy) kk hE
  · rw [if_neg hy] at hE; cases hE
theorem s_iaload (hG : OK l cc own nL R G) {α : Type} {A : Option α} {out : α} {a N : Nat} {i : Int32} (hd : decode cc pc = .ok (.iaload, 1)) (h : ak a = some (0, N)) (kk : A = some out → G k n S lv (pc + 1) (vI (S.1 a i.toNatClampNeg) :: st)) : (if ib i N = true then A else none) = some out → G k n S lv pc (vI i :: vR a :: st) := by
  intro hE
  by_cases hy : ib i N = true
  · rw [if_pos hy] at hE
    obtain ⟨p, e, s, m, args, below, meth, c, dC, dI, cA, ad, Q, hx, hb, hml, hown, hts, hnw, hK, hj, hzw, rfl⟩ := hG
    intro H locs ls hP hS hl
    exact va_iald (D := (dC, dI)) hx hb hK hP a 0 (wld_at (ak_at h)) rfl (ib_in hy) hd (kk hE H locs ls hP hS hl)
  · rw [if_neg hy] at hE; cases hE
theorem s_laload (hG : OK l cc own nL R G) {α : Type} {A : Option α} {out : α} {a N : Nat} {i : Int32} (hd : decode cc pc = .ok (.laload, 1)) (h : ak a = some (1, N)) (kk : A = some out → G k n S lv (pc + 1) (vL (S.2.1 a i.toNatClampNeg) :: st)) : (if ib i N = true then A else none) = some out → G k n S lv pc (vI i :: vR a :: st) := by
  intro hE
  by_cases hy : ib i N = true
  · rw [if_pos hy] at hE
    obtain ⟨p, e, s, m, args, below, meth, c, dC, dI, cA, ad, Q, hx, hb, hml, hown, hts, hnw, hK, hj, hzw, rfl⟩ := hG
    intro H locs ls hP hS hl
    exact va_lald (D := (dC, dI)) hx hb hK hP a 1 (wld_at (ak_at h)) rfl (ib_in hy) hd (kk hE H locs ls hP hS hl)
  · rw [if_neg hy] at hE; cases hE
theorem s_caload (hG : OK l cc own nL R G) {α : Type} {A : Option α} {out : α} {a N : Nat} {i : Int32} (hd : decode cc pc = .ok (.caload, 1)) (h : ak a = some (2, N)) (kk : A = some out → G k n S lv (pc + 1) (vI (S.1 a i.toNatClampNeg) :: st)) : (if ib i N = true then A else none) = some out → G k n S lv pc (vI i :: vR a :: st) := by
  intro hE
  by_cases hy : ib i N = true
  · rw [if_pos hy] at hE
    obtain ⟨p, e, s, m, args, below, meth, c, dC, dI, cA, ad, Q, hx, hb, hml, hown, hts, hnw, hK, hj, hzw, rfl⟩ := hG
    intro H locs ls hP hS hl
    exact va_cald (D := (dC, dI)) hx hb hK hP a 2 (wld_at (ak_at h)) rfl (ib_in hy) hd (kk hE H locs ls hP hS hl)
  · rw [if_neg hy] at hE; cases hE
theorem s_iastore (hG : OK l cc own nL R G) {α : Type} {A : Option α} {out : α} {a N : Nat} {i : Int32} {x : Int32} (hd : decode cc pc = .ok (.iastore, 1)) (h : ak a = some (0, N)) (kk : A = some out → G k n (sI S a i.toNatClampNeg x) lv (pc + 1) st) : (if ib i N = true then A else none) = some out → G k n S lv pc (vI x :: vI i :: vR a :: st) := by
  intro hE
  by_cases hy : ib i N = true
  · rw [if_pos hy] at hE
    obtain ⟨p, e, s, m, args, below, meth, c, dC, dI, cA, ad, Q, hx, hb, hml, hown, hts, hnw, hK, hj, hzw, rfl⟩ := hG
    intro H locs ls hP hS hl
    have hD : va_D (fA ad s.heap.size) (wld cA ad S) := wld_D hj (fun k hk => Or.inl ⟨k, hk, rfl⟩)
    exact va_iast (D := (dC, dI)) hx hb hK hP hD hS a 0 (wld_at (ak_at h)) rfl (ib_in hy) hd (fun H1 locs1 hP1 _ hS1 => kk hE H1 locs1 ls (by rw [← setI_arr (ak_at h) (by decide)]; exact hP1) hS1 hl)
  · rw [if_neg hy] at hE; cases hE
theorem s_lastore (hG : OK l cc own nL R G) {α : Type} {A : Option α} {out : α} {a N : Nat} {i : Int32} {x : Int64} (hd : decode cc pc = .ok (.lastore, 1)) (h : ak a = some (1, N)) (kk : A = some out → G k n (sL S a i.toNatClampNeg x) lv (pc + 1) st) : (if ib i N = true then A else none) = some out → G k n S lv pc (vL x :: vI i :: vR a :: st) := by
  intro hE
  by_cases hy : ib i N = true
  · rw [if_pos hy] at hE
    obtain ⟨p, e, s, m, args, below, meth, c, dC, dI, cA, ad, Q, hx, hb, hml, hown, hts, hnw, hK, hj, hzw, rfl⟩ := hG
    intro H locs ls hP hS hl
    have hD : va_D (fA ad s.heap.size) (wld cA ad S) := wld_D hj (fun k hk => Or.inl ⟨k, hk, rfl⟩)
    exact va_last (D := (dC, dI)) hx hb hK hP hD hS a 1 (wld_at (ak_at h)) rfl (ib_in hy) hd (fun H1 locs1 hP1 _ hS1 => kk hE H1 locs1 ls (by rw [← setL_arr (ak_at h)]; exact hP1) hS1 hl)
  · rw [if_neg hy] at hE; cases hE
theorem s_castore (hG : OK l cc own nL R G) {α : Type} {A : Option α} {out : α} {a N : Nat} {i : Int32} {x : Int32} (hd : decode cc pc = .ok (.castore, 1)) (h : ak a = some (2, N)) (kk : A = some out → G k n (sI S a i.toNatClampNeg (vp_nar .char x)) lv (pc + 1) st) : (if ib i N = true then A else none) = some out → G k n S lv pc (vI x :: vI i :: vR a :: st) := by
  intro hE
  by_cases hy : ib i N = true
  · rw [if_pos hy] at hE
    obtain ⟨p, e, s, m, args, below, meth, c, dC, dI, cA, ad, Q, hx, hb, hml, hown, hts, hnw, hK, hj, hzw, rfl⟩ := hG
    intro H locs ls hP hS hl
    have hD : va_D (fA ad s.heap.size) (wld cA ad S) := wld_D hj (fun k hk => Or.inl ⟨k, hk, rfl⟩)
    exact va_cast (D := (dC, dI)) hx hb hK hP hD hS a 2 (wld_at (ak_at h)) rfl (ib_in hy) hd (fun H1 locs1 hP1 _ hS1 => kk hE H1 locs1 ls (by rw [← setI_arr (ak_at h) (by decide)]; exact hP1) hS1 hl)
  · rw [if_neg hy] at hE; cases hE
theorem s_alen (hG : OK l cc own nL R G) {a t N : Nat} {v : Int32} {ty : FieldType} (hd : decode cc pc = .ok (.arraylength, 1)) (h : ak a = some (t, N)) (ht : ∀ cA, (tyl cA)[t]? = some (cA t, ty)) (hv : Int32.ofNat N = v) (kk : E → G k n S lv (pc + 1) (vI v :: st)) : E → G k n S lv pc (vR a :: st) := by
  intro hE
  obtain ⟨p, e, s, m, args, below, meth, c, dC, dI, cA, ad, Q, hx, hb, hml, hown, hts, hnw, hK, hj, hzw, rfl⟩ := hG
  intro H locs ls hP hS hl
  exact va_alen (D := (dC, dI)) hx hb hK hP a t (wld_at (ak_at h)) (ht cA) hv hd (kk hE H locs ls hP hS hl)
theorem s_copyi (hG : OK l cc own nL R G) {α : Type} {A : Option α} {out : α} {a0 a1 N0 N1 idx : Nat} {sp dp x : Int32} (hd : decode cc pc = .ok (.invokestatic idx, 3)) (hml9 : Cond.methodLink own idx arraycopyName ∈ TB) (h0 : ak a0 = some (0, N0)) (h1 : ak a1 = some (0, N1)) (hR : 1 ≤ R.frames ∧ 8 + (nativeFrameWords "java/lang/System" "arraycopy" 5 + 11) ≤ R.locals) (hst : (st.map fun v => if cat2 v then 2 else 1).sum ≤ 8)
    (kk : A = some out → G k n (sA S a1 (va_cpy (S.1 a0) (S.1 a1) sp.toNatClampNeg dp.toNatClampNeg x.toNatClampNeg)) lv (pc + 3) st) : (if sp < 0 ∨ dp < 0 ∨ x < 0 ∨ N0 < sp.toNatClampNeg + x.toNatClampNeg ∨ N1 < dp.toNatClampNeg + x.toNatClampNeg then none else A) = some out → G k n S lv pc (vI x :: vI dp :: vR a1 :: vI sp :: vR a0 :: st) := by
  intro hE
  by_cases hy : sp < 0 ∨ dp < 0 ∨ x < 0 ∨ N0 < sp.toNatClampNeg + x.toNatClampNeg ∨ N1 < dp.toNatClampNeg + x.toNatClampNeg
  · rw [if_pos hy] at hE; cases hE
  rw [if_neg hy] at hE
  obtain ⟨p, e, s, m, args, below, meth, c, dC, dI, cA, ad, Q, hx, hb, hml, hown, hts, hnw, hK, hj, hzw, rfl⟩ := hG
  intro H locs ls hP hS hl
  have hD : va_D (fA ad s.heap.size) (wld cA ad S) := wld_D hj (fun k hk => Or.inl ⟨k, hk, rfl⟩)
  have hc : ((st.map (gV ad)).map fun v => v.category).sum ≤ 8 := by
    refine Nat.le_trans (Nat.le_of_eq ?_) hst
    rw [List.map_map]
    congr 1
    apply List.map_congr_left
    intro v _
    rcases v with z | z | r
    · rfl
    · rfl
    · cases r <;> rfl
  exact va_copyi (D := (dC, dI)) hx hb (by rw [hml]; exact hl.1.symm) hown (hts _ hml9) (hts (.native arraycopyName) (by decide +kernel)) (hts (.static arraycopyName) (by decide +kernel)) (hts (.initialized "java/lang/System") (by decide +kernel)) hK hP hD hS a0 a1 0 0 (wld_at (ak_at h0)) (wld_at (ak_at h1)) rfl rfl rfl (fun h => hy (Or.inl h)) (fun h => hy (Or.inr (Or.inl h))) (fun h => hy (Or.inr (Or.inr (Or.inl h)))) (by omega) (by omega) (fun _ _ => rfl) hR.1 (by omega) hd (fun H1 locs1 hP1 _ hS1 => kk hE H1 locs1 ls (by rw [← setA_arr (ak_at h1) (by decide)]; exact hP1) hS1 hl)
end
