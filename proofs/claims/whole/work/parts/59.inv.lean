/-! the invariant that holds the class against the model -/
def KK (k : Int32) : Prop := (k = 0 ∨ k = 1 ∨ k = 2 ∨ k = 3 ∨ k = 4 ∨ k = 5) ∨ k = 6
/-- the world: shapes, rules, acts and trees that were made -/
def GW (ns nr na : Nat) (len : Nat → Nat) (kd : Nat → Int32) (fr to : Nat → Nat) (dd : Nat → Int32) (sj : Nat → Nat) (qq : Nat → Nat → Int32) (dr ab st lby : Nat → Nat) : Prop := RW nr ns kd fr to ∧ WA na nr ns kd (lbL len) dd sj qq ∧ TWF na dr ab st ∧ (∀ k, k < nr → KK (kd k) ∧ fr k ≠ to k) ∧ (∀ k, k < nr → lby k < na) ∧ ∀ v : Nat → Bool, fb_ct (fun a => v a && decide (dd a = 3)) na = fb_ct (fun k => v (lby k)) nr
/-! the class's rows -/
def SC (S : HS) (sp : Nat) (lt : Nat → Nat) : Prop := S.1 0 1 = nI sp ∧ ∀ i, i < sp → S.1 1 i = nI (lt i)
def OC (S : HS) (ns nr na : Nat) (len : Nat → Nat) (trn : Nat → Bool) (txt : Nat → Nat → Nat) (kd : Nat → Int32) (fr to : Nat → Nat) (dd : Nat → Int32) (sj : Nat → Nat) (qq : Nat → Nat → Int32) (dr ab st : Nat → Nat) : Prop := S.1 2 0 = nI ns ∧ S.1 5 0 = nI nr ∧ HS1 S ns len trn txt ∧ RC S nr kd fr to ∧ (∀ a, a < na → TA S a (dd a) (sj a) (qq a)) ∧ CT S na dr ab st
def BC (S : HS) (kd : Nat → Int32) (A : AB) (V : Nat) : Prop := (∃ b b', RB S 16 18 b b' ∧ CB S b kd A) ∧ S.2.1 16 3 = lN V
def BN (S : HS) : Prop := ∃ c c', RB S 17 24 c c'
def EC (S : HS) (ne nm : Nat) (se : Nat → Nat) (T : Nat → List Nat) : Prop := S.1 30 0 = nI ne ∧ S.1 30 1 = nI nm ∧ (∀ e, e < ne → S.2.1 31 e = lN (se e) ∧ S.1 32 e = nI (T e).length ∧ ∀ i, i < (T e).length → S.1 33 (328 * e + i) = nI ((T e).getD i 0)) ∧ (∀ i, ch (S.1 33 i) = true) ∧ ∀ i, ch (S.1 35 i) = true
/-! the model's rows -/
def SM (S : HS) (sp : Nat) (lt : Nat → Nat) : Prop := S.1 36 0 = nI sp ∧ ∀ i, i < sp → S.1 37 i = nI (lt i)
def OM (S : HS) (ns nr na : Nat) (len : Nat → Nat) (trn : Nat → Bool) (txt : Nat → Nat → Nat) (kd : Nat → Int32) (fr to : Nat → Nat) (dd : Nat → Int32) (sj : Nat → Nat) (qq : Nat → Nat → Int32) (dr ab st lby : Nat → Nat) : Prop := HM1 S ns len trn txt ∧ MC S nr nr ns kd fr to (lbL len) ∧ (∀ k, k < nr → S.1 45 k = nI (lby k)) ∧ (∀ a, a < na → TM S a (dd a) (sj a) (qq a)) ∧ MT S na dr ab st
def BM (S : HS) (kd : Nat → Int32) (na : Nat) (A : AB) (V : Nat) : Prop := MB S kd A ∧ ∀ a, a < na → S.1 51 a = bI (V.testBit a)
def EM (S : HS) (ne nm : Nat) (X : Nat → AB) : Prop := S.1 36 29 = nI ne ∧ S.1 36 30 = nI nm ∧ ∀ e, e < ne → MSn S e (X e)
/-- small things: the spelled text, exports -/
def SG (sp ne nm na : Nat) (lt se : Nat → Nat) : Prop := sp ≤ 5 ∧ (∀ i, i < sp → lt i ≤ 26) ∧ nm ≤ ne ∧ ne ≤ 10 ∧ ∀ e, e < ne → ∀ k, (se e).testBit k = true → k < na
/-! what each of them needs of the heap -/
section
variable {S S' : HS} {sp ns nr na ne nm V : Nat} {lt len fr to sj dr ab st lby se : Nat → Nat} {trn : Nat → Bool} {txt : Nat → Nat → Nat} {kd dd : Nat → Int32} {qq : Nat → Nat → Int32} {A : AB} {T : Nat → List Nat} {X : Nat → AB}
theorem SC_fr (f : ∀ x, x < 2 → S'.1 x = S.1 x) (h : SC S sp lt) : SC S' sp lt := by
  unfold SC at h ⊢
  rw [f 0 (by omega), f 1 (by omega)]
  exact h
theorem HS1_fr (f : ∀ x, 2 ≤ x → x < 16 → S'.1 x = S.1 x) (h : HS1 S ns len trn txt) : HS1 S' ns len trn txt := by
  unfold HS1 at h ⊢
  rw [f 2 (by omega) (by omega), f 3 (by omega) (by omega), f 4 (by omega) (by omega)]
  exact h
theorem RC_fr (f : ∀ x, 2 ≤ x → x < 16 → S'.1 x = S.1 x) (h : RC S nr kd fr to) : RC S' nr kd fr to := by
  unfold RC at h ⊢
  rw [f 6 (by omega) (by omega), f 7 (by omega) (by omega), f 8 (by omega) (by omega)]
  exact h
theorem TA_fr {a : Nat} {d : Int32} {s : Nat} {q : Nat → Int32} (f : ∀ x, 2 ≤ x → x < 16 → S'.1 x = S.1 x) (h : TA S a d s q) : TA S' a d s q := by
  unfold TA at h ⊢
  rw [f 10 (by omega) (by omega), f 11 (by omega) (by omega), f 12 (by omega) (by omega)]
  exact h
theorem CT_fr (f : ∀ x, 2 ≤ x → x < 16 → S'.1 x = S.1 x) (h : CT S na dr ab st) : CT S' na dr ab st := by
  unfold CT at h ⊢
  rw [f 9 (by omega) (by omega), f 13 (by omega) (by omega), f 14 (by omega) (by omega), f 15 (by omega) (by omega)]
  exact h
theorem OC_fr (f : ∀ x, 2 ≤ x → x < 16 → S'.1 x = S.1 x) (h : OC S ns nr na len trn txt kd fr to dd sj qq dr ab st) : OC S' ns nr na len trn txt kd fr to dd sj qq dr ab st := by
  obtain ⟨h1, h2, h3, h4, h5, h6⟩ := h
  exact ⟨by rw [f 2 (by omega) (by omega)]; exact h1, by rw [f 5 (by omega) (by omega)]; exact h2, HS1_fr f h3, RC_fr f h4, fun a ha => TA_fr f (h5 a ha), CT_fr f h6⟩
theorem RB_fr {h lo b b' : Nat} (f : S'.2.2 h = S.2.2 h) (hB : RB S h lo b b') : RB S' h lo b b' := by
  unfold RB at hB ⊢
  rw [f]
  exact hB
theorem CB_fr {lo b : Nat} (hb : b = lo ∨ b = lo + 3) (f : ∀ x, lo ≤ x → x < lo + 6 → S'.1 x = S.1 x) (h : CB S b kd A) : CB S' b kd A := by
  unfold CB at h ⊢
  rw [f b (by omega) (by omega), f (b + 1) (by omega) (by omega), f (b + 2) (by omega) (by omega)]
  exact h
theorem RB_lo {h lo b b' : Nat} (hB : RB S h lo b b') : b = lo ∨ b = lo + 3 := by
  have := hB.2.2
  omega
theorem BC_fr (f : ∀ x, 18 ≤ x → x < 24 → S'.1 x = S.1 x) (f1 : S'.2.1 16 = S.2.1 16) (f2 : S'.2.2 16 = S.2.2 16) (h : BC S kd A V) : BC S' kd A V := by
  obtain ⟨⟨b, b', h1, h2⟩, h3⟩ := h
  exact ⟨⟨b, b', RB_fr f2 h1, CB_fr (RB_lo h1) f h2⟩, by rw [f1]; exact h3⟩
theorem BN_fr (f2 : S'.2.2 17 = S.2.2 17) (h : BN S) : BN S' := by
  obtain ⟨c, c', h1⟩ := h
  exact ⟨c, c', RB_fr f2 h1⟩
theorem EC_fr (f : ∀ x, x = 30 ∨ x = 32 ∨ x = 33 → S'.1 x = S.1 x) (f35 : ∀ i, ch (S'.1 35 i) = true) (f1 : S'.2.1 31 = S.2.1 31) (h : EC S ne nm se T) : EC S' ne nm se T := by
  unfold EC at h ⊢
  rw [f 30 (by omega), f 32 (by omega), f 33 (by omega), f1]
  exact ⟨h.1, h.2.1, h.2.2.1, h.2.2.2.1, f35⟩
theorem SM_fr (f : S'.1 36 0 = S.1 36 0) (f2 : S'.1 37 = S.1 37) (h : SM S sp lt) : SM S' sp lt := by
  unfold SM at h ⊢
  rw [f, f2]
  exact h
theorem HM1_fr (f : ∀ x, 38 ≤ x → x < 42 → S'.1 x = S.1 x) (h : HM1 S ns len trn txt) : HM1 S' ns len trn txt := by
  unfold HM1 at h ⊢
  rw [f 38 (by omega) (by omega), f 39 (by omega) (by omega), f 40 (by omega) (by omega), f 41 (by omega) (by omega)]
  exact h
theorem MC_fr2 {m : Nat} {lb : Nat → Bool} (f38 : S'.1 38 = S.1 38) (f : ∀ x, 42 ≤ x → x < 45 → S'.1 x = S.1 x) (f2 : S'.1 36 2 = S.1 36 2) (f7 : S'.1 36 7 = S.1 36 7) (h : MC S m nr ns kd fr to lb) : MC S' m nr ns kd fr to lb := by
  unfold MC at h ⊢
  rw [f38, f 42 (by omega) (by omega), f 43 (by omega) (by omega), f 44 (by omega) (by omega), f2, f7]
  exact h
theorem TM_fr2 {a : Nat} {d : Int32} {s : Nat} {q : Nat → Int32} (f : ∀ x, 48 ≤ x → x < 51 → S'.1 x = S.1 x) (h : TM S a d s q) : TM S' a d s q := by
  unfold TM at h ⊢
  rw [f 48 (by omega) (by omega), f 49 (by omega) (by omega), f 50 (by omega) (by omega)]
  exact h
theorem MT_fr2 (f : ∀ x, x = 46 ∨ x = 47 ∨ x = 52 → S'.1 x = S.1 x) (f2 : S'.1 36 12 = S.1 36 12) (h : MT S na dr ab st) : MT S' na dr ab st := by
  unfold MT at h ⊢
  rw [f 46 (by omega), f 47 (by omega), f 52 (by omega), f2]
  exact h
theorem OM_fr (f : ∀ x, 38 ≤ x → x < 53 → x ≠ 51 → S'.1 x = S.1 x) (f2 : ∀ k, k = 2 ∨ k = 7 ∨ k = 12 → S'.1 36 k = S.1 36 k) (h : OM S ns nr na len trn txt kd fr to dd sj qq dr ab st lby) : OM S' ns nr na len trn txt kd fr to dd sj qq dr ab st lby := by
  obtain ⟨h1, h2, h3, h4, h5⟩ := h
  refine ⟨HM1_fr (fun x a b => f x (by omega) (by omega) (by omega)) h1, MC_fr2 (f 38 (by omega) (by omega) (by omega)) (fun x a b => f x (by omega) (by omega) (by omega)) (f2 2 (by omega)) (f2 7 (by omega)) h2, ?_, fun a ha => TM_fr2 (fun x p q => f x (by omega) (by omega) (by omega)) (h4 a ha), MT_fr2 (fun x p => f x (by omega) (by omega) (by omega)) (f2 12 (by omega)) h5⟩
  rw [f 45 (by omega) (by omega) (by omega)]
  exact h3
theorem MB_fr (f : ∀ x, 53 ≤ x → x < 56 → S'.1 x = S.1 x) (f2 : ∀ k, k = 20 ∨ k = 22 → S'.1 36 k = S.1 36 k) (h : MB S kd A) : MB S' kd A := by
  unfold MB at h ⊢
  rw [f 53 (by omega) (by omega), f 54 (by omega) (by omega), f 55 (by omega) (by omega), f2 20 (by omega), f2 22 (by omega)]
  exact h
theorem BM_fr (f51 : S'.1 51 = S.1 51) (f : ∀ x, 53 ≤ x → x < 56 → S'.1 x = S.1 x) (f2 : ∀ k, k = 20 ∨ k = 22 → S'.1 36 k = S.1 36 k) (h : BM S kd na A V) : BM S' kd na A V := by
  refine ⟨MB_fr f f2 h.1, ?_⟩
  rw [f51]
  exact h.2
theorem EM_fr (f : ∀ x, 57 ≤ x → x < 60 → S'.1 x = S.1 x) (f2 : ∀ k, k = 29 ∨ k = 30 → S'.1 36 k = S.1 36 k) (h : EM S ne nm X) : EM S' ne nm X := by
  unfold EM MSn at h ⊢
  rw [f 57 (by omega) (by omega), f 58 (by omega) (by omega), f 59 (by omega) (by omega), f2 29 (by omega), f2 30 (by omega)]
  exact h
end
/-- all of it -/
def I0 (S : HS) (sp ns nr na ne nm : Nat) (lt len fr to sj dr ab st lby se : Nat → Nat) (trn : Nat → Bool) (txt : Nat → Nat → Nat) (kd dd : Nat → Int32) (qq : Nat → Nat → Int32) : Prop :=
  (SG sp ne nm na lt se ∧ GW ns nr na len kd fr to dd sj qq dr ab st lby) ∧
  (SC S sp lt ∧ OC S ns nr na len trn txt kd fr to dd sj qq dr ab st ∧ BC S kd (rep kd fr to (lbL len) dd sj qq (cset st ab) na).1 (rep kd fr to (lbL len) dd sj qq (cset st ab) na).2 ∧ BN S ∧ EC S ne nm se (fun e => TX (rep kd fr to (lbL len) dd sj qq (se e) na).1 len trn txt)) ∧
  (SM S sp lt ∧ OM S ns nr na len trn txt kd fr to dd sj qq dr ab st lby ∧ BM S kd na (rep kd fr to (lbL len) dd sj qq (cset st ab) na).1 (rep kd fr to (lbL len) dd sj qq (cset st ab) na).2 ∧ EM S ne nm (fun e => (rep kd fr to (lbL len) dd sj qq (se e) na).1))
def Inv (S : HS) : Prop := ∃ sp ns nr na ne nm lt len fr to sj dr ab st lby se trn txt kd dd qq, I0 S sp ns nr na ne nm lt len fr to sj dr ab st lby se trn txt kd dd qq
/-- what calls that only ask may change -/
def QF (S S' : HS) : Prop := (∀ x, x < 24 ∨ 30 ≤ x → x ≠ 34 → x ≠ 35 → x ≠ 36 → S'.1 x = S.1 x) ∧ (∀ k, k ≠ 34 → k ≠ 35 → k ≠ 36 → S'.1 36 k = S.1 36 k) ∧ (∀ x, x ≠ 17 → S'.2.2 x = S.2.2 x) ∧ (∀ x, x ≠ 17 → x ≠ 60 → S'.2.1 x = S.2.1 x) ∧ (BN S → BN S') ∧ ((∀ i, ch (S.1 35 i) = true) → ∀ i, ch (S'.1 35 i) = true)
theorem QF.rf (S : HS) : QF S S := ⟨fun _ _ _ _ _ => rfl, fun _ _ _ _ => rfl, fun _ _ => rfl, fun _ _ _ => rfl, id, id⟩
theorem QF.tr {S T U : HS} (h1 : QF S T) (h2 : QF T U) : QF S U := by
  obtain ⟨a1, a2, a3, a4, a5, a6⟩ := h1
  obtain ⟨b1, b2, b3, b4, b5, b6⟩ := h2
  exact ⟨fun x p q r s => (b1 x p q r s).trans (a1 x p q r s), fun k p q r => (b2 k p q r).trans (a2 k p q r), fun x p => (b3 x p).trans (a3 x p), fun x p q => (b4 x p q).trans (a4 x p q), fun h => b5 (a5 h), fun h => b6 (a6 h)⟩
theorem QF_sL {S : HS} {v : Int64} : QF S (sL S 60 0 v) := by
  refine ⟨fun _ _ _ _ _ => rfl, fun _ _ _ _ => rfl, fun _ _ => rfl, fun x _ h => ?_, id, id⟩
  unfold sL
  simp [h]
theorem QF_th {S : HS} {k : Nat} {v : Int32} (hk : k = 34 ∨ k = 35 ∨ k = 36) : QF S (sI S 36 k v) := by
  refine ⟨fun x _ _ _ h => ?_, fun j h1 h2 h3 => ?_, fun _ _ => rfl, fun x _ h => rfl, id, id⟩
  · unfold sI
    simp [h]
  · show upd (S.1 36) k v j = S.1 36 j
    exact upd_ne (by omega)
section
variable {S S' : HS} {sp ns nr na ne nm : Nat} {lt len fr to sj dr ab st lby se : Nat → Nat} {trn : Nat → Bool} {txt : Nat → Nat → Nat} {kd dd : Nat → Int32} {qq : Nat → Nat → Int32}
theorem I0_q (h : I0 S sp ns nr na ne nm lt len fr to sj dr ab st lby se trn txt kd dd qq) (hQ : QF S S') : I0 S' sp ns nr na ne nm lt len fr to sj dr ab st lby se trn txt kd dd qq := by
  obtain ⟨h0, ⟨c1, c2, c3, c4, c5⟩, ⟨m1, m2, m3, m4⟩⟩ := h
  obtain ⟨q1, q2, q3, q4, q5, q6⟩ := hQ
  have c5' := c5.2.2.2.2
  refine ⟨h0, ⟨SC_fr (fun x hx => q1 x (by omega) (by omega) (by omega) (by omega)) c1, OC_fr (fun x _ hx => q1 x (by omega) (by omega) (by omega) (by omega)) c2, BC_fr (fun x _ hx => q1 x (by omega) (by omega) (by omega) (by omega)) (q4 16 (by omega) (by omega)) (q3 16 (by omega)) c3, q5 c4, EC_fr (fun x hx => q1 x (by omega) (by omega) (by omega) (by omega)) (q6 c5') (q4 31 (by omega) (by omega)) c5⟩, ⟨SM_fr (q2 0 (by omega) (by omega) (by omega)) (q1 37 (by omega) (by omega) (by omega) (by omega)) m1, OM_fr (fun x p q _ => q1 x (by omega) (by omega) (by omega) (by omega)) (fun k hk => q2 k (by omega) (by omega) (by omega)) m2, BM_fr (q1 51 (by omega) (by omega) (by omega) (by omega)) (fun x p q => q1 x (by omega) (by omega) (by omega) (by omega)) (fun k hk => q2 k (by omega) (by omega) (by omega)) m3, EM_fr (fun x p q => q1 x (by omega) (by omega) (by omega) (by omega)) (fun k hk => q2 k (by omega) (by omega) (by omega)) m4⟩⟩
theorem I0_inv (h : I0 S sp ns nr na ne nm lt len fr to sj dr ab st lby se trn txt kd dd qq) : Inv S := ⟨_, _, _, _, _, _, _, _, _, _, _, _, _, _, _, _, _, _, _, _, _, h⟩
end
theorem Inv_q {S S' : HS} (h : Inv S) (hQ : QF S S') : Inv S' := by
  obtain ⟨sp, ns, nr, na, ne, nm, lt, len, fr, to, sj, dr, ab, st, lby, se, trn, txt, kd, dd, qq, h⟩ := h
  exact I0_inv (I0_q h hQ)
/-! a call of the class and the same of the model -/
theorem ib01 : ib (0 : Int32) 1 = true := by decide
theorem cl0 : (0 : Int32).toNatClampNeg = 0 := by decide
def wch : List (Nat × Int32) → XO → Option (HS × Int32)
  | [], _ => none
  | p :: l, o => if o.2.1 = p.1 then some (o.1, p.2) else wch l o
def wrp (l : List (Nat × Int32)) (x : Option XO) : Option (HS × Int32) := x.bind (fun o => if o.2.1 = 0 then some (sL o.1 60 0 o.2.2.toInt64, (0 : Int32)) else wch l o)
def wrb (l : List (Nat × Int32)) (x : Option XO) : Option (HS × Int32) := x.bind (fun o => if o.2.1 = 0 then (if o.2.2 = 0 then some (sL o.1 60 0 0, (0 : Int32)) else some (sL o.1 60 0 1, (0 : Int32))) else wch l o)
def J (x : Option (HS × Int32)) (y : HS → Option (HS × Int32)) : Prop := Ok x (fun o => Ok (y o.1) (fun r => r.1.1 36 36 = o.2 ∧ (o.2 = 0 → r.1.2.1 60 0 = r.2.toInt64) ∧ Inv r.1))
def JB (x : Option (HS × Int32)) (y : HS → Option (HS × Int32)) : Prop := Ok x (fun o => Ok (y o.1) (fun r => r.1.1 36 36 = o.2 ∧ (o.2 = 0 → r.1.2.1 60 0 = r.2.toInt64 ∧ nz r.2 = true) ∧ Inv r.1))
theorem sL_60 {S : HS} {v : Int64} : (sL S 60 0 v).2.1 60 0 = v := by
  unfold sL
  simp [vp_updL]
section
variable {S S1 : HS} {l : List (Nat × Int32)} {x : Option XO} {y : HS → Option (HS × Int32)} {v : Int32}
theorem J_ok (hx : Ok x (fun o => o.2.1 = 0 ∧ Ok (y (sL o.1 60 0 o.2.2.toInt64)) (fun r => r.1.1 36 36 = 0 ∧ r.1.2.1 60 0 = o.2.2.toInt64 ∧ r.2 = o.2.2 ∧ Inv r.1))) : J (wrp l x) y := by
  obtain ⟨o, rfl, h0, r, hy, h1, h2, h3, h4⟩ := hx
  refine ⟨(sL o.1 60 0 o.2.2.toInt64, 0), ?_, r, hy, h1, fun _ => by rw [h3]; exact h2, h4⟩
  unfold wrp
  rw [bsm, if_pos h0]
theorem J_ex {c : Nat} {k w : Int32} (hx : x = some (S1, (c, v))) (hc : c ≠ 0) (hk : k ≠ 0) (hl : ∀ v, wch l (S1, (c, v)) = some (S1, k)) (hy : y S1 = some (sI S1 36 36 k, w)) (hI : Inv S1) : J (wrp l x) y := by
  refine ⟨(S1, k), ?_, (sI S1 36 36 k, w), hy, ?_, fun q => absurd q hk, Inv_q hI (QF_th (by omega))⟩
  · unfold wrp
    rw [hx, bsm, if_neg hc]
    exact hl v
  · show upd (S1.1 36) 36 k 36 = k
    exact upd_at
/-- it answers, and nothing but the notes of what is asked changes -/
theorem J_v (hx : x = some (S, (0, v))) (hI : Inv S) (hy : ∀ T, QF S T → T.1 = S.1 → Ok (y T) (fun r => r.1.1 36 36 = 0 ∧ r.1.2 = T.2 ∧ r.2 = v ∧ QF T r.1)) : J (wrp l x) y := by
  refine J_ok ⟨_, hx, rfl, ?_⟩
  refine Ok.mono (hy _ QF_sL rfl) ?_
  rintro r ⟨h1, h2, h3, h4⟩
  exact ⟨h1, by rw [h2]; exact sL_60, h3, Inv_q hI (QF_sL.tr h4)⟩
theorem JB_v {b : Bool} (hx : x = some (S, (0, bI b))) (hI : Inv S) (hy : ∀ T, QF S T → T.1 = S.1 → Ok (y T) (fun r => r.1.1 36 36 = 0 ∧ r.1.2 = T.2 ∧ r.2 = bI b ∧ QF T r.1)) : JB (wrb l x) y := by
  obtain ⟨r, hr, h1, h2, h3, h4⟩ := hy (sL S 60 0 (bI b).toInt64) QF_sL rfl
  refine ⟨(sL S 60 0 (bI b).toInt64, 0), ?_, r, hr, h1, fun _ => ⟨by rw [h2, h3]; exact sL_60, by rw [h3]; exact nz_bI b⟩, Inv_q hI (QF_sL.tr h4)⟩
  unfold wrb
  rw [hx, bsm, if_pos rfl]
  cases b <;> rfl
theorem JB_ex {c : Nat} {k w : Int32} (hx : x = some (S1, (c, v))) (hc : c ≠ 0) (hk : k ≠ 0) (hl : ∀ v, wch l (S1, (c, v)) = some (S1, k)) (hy : y S1 = some (sI S1 36 36 k, w)) (hI : Inv S1) : JB (wrb l x) y := by
  refine ⟨(S1, k), ?_, (sI S1 36 36 k, w), hy, ?_, fun q => absurd q hk, Inv_q hI (QF_th (by omega))⟩
  · unfold wrb
    rw [hx, bsm, if_neg hc]
    exact hl v
  · show upd (S1.1 36) 36 k 36 = k
    exact upd_at
end
