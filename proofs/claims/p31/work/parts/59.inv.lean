/-! the invariant that holds the class against the model -/
def KK (k : Int32) : Prop := (k = 0 ∨ k = 1 ∨ k = 2 ∨ k = 3 ∨ k = 4 ∨ k = 5) ∨ k = 6
/-- the world: shapes, rules, acts and trees that were made -/
def GW (ns nr na : Nat) (len : Nat → Nat) (kd : Nat → Int32) (fr to : Nat → Nat) (dd : Nat → Int32) (sj : Nat → Nat) (qq : Nat → Nat → Int32) (dr ab st lby : Nat → Nat) : Prop := RW nr ns kd fr to ∧ WA na nr ns kd (lbL len) dd sj qq ∧ TWF na dr ab st ∧ (∀ k, k < nr → KK (kd k) ∧ fr k ≠ to k) ∧ (∀ k, k < nr → lby k < na ∧ dd (lby k) = 3 ∧ sj (lby k) = k) ∧ ∀ v : Nat → Bool, fb_ct (fun a => v a && decide (dd a = 3)) na = fb_ct (fun k => v (lby k)) nr
/-! the class's rows -/
def SC (S : HS) (sp : Nat) (lt : Nat → Nat) : Prop := S.1 0 1 = nI sp ∧ ∀ i, i < sp → S.1 1 i = nI (lt i)
def OC (S : HS) (ns nr na : Nat) (len : Nat → Nat) (trn : Nat → Bool) (txt : Nat → Nat → Nat) (kd : Nat → Int32) (fr to : Nat → Nat) (dd : Nat → Int32) (sj : Nat → Nat) (qq : Nat → Nat → Int32) (dr ab st : Nat → Nat) : Prop := S.1 2 0 = nI ns ∧ S.1 5 0 = nI nr ∧ HS1 S ns len trn txt ∧ RC S nr kd fr to ∧ (∀ a, a < na → TA S a (dd a) (sj a) (qq a)) ∧ CT S na dr ab st
def BC (S : HS) (kd : Nat → Int32) (A : AB) (V : Nat) : Prop := (∃ b b', RB S 16 18 b b' ∧ CB S b kd A) ∧ S.2.1 16 3 = lN V
def BN (S : HS) : Prop := ∃ c c', RB S 17 24 c c'
def EC (S : HS) (ne nm : Nat) (se : Nat → Nat) (T : Nat → List Nat) : Prop := S.1 30 0 = nI ne ∧ S.1 30 1 = nI nm ∧ (∀ e, e < ne → S.2.1 31 e = lN (se e) ∧ S.1 32 e = nI (T e).length ∧ ∀ i, i < (T e).length → S.1 33 (328 * e + i) = nI ((T e).getD i 0)) ∧ (∀ i, ch (S.1 33 i) = true) ∧ ∀ i, ch (S.1 35 i) = true
/-! the model's rows -/
/-- small things: the spelled text, exports -/
def SG (sp ne nm na : Nat) (lt se : Nat → Nat) : Prop := sp ≤ 5 ∧ (∀ i, i < sp → lt i ≤ 26) ∧ nm ≤ ne ∧ ne ≤ 10 ∧ ∀ e, e < ne → ∀ k, (se e).testBit k = true → k < na
/-! what each of them needs of the heap -/
section
variable {S S' : HS} {sp ns nr na ne nm V : Nat} {lt len fr to sj dr ab st lby se : Nat → Nat} {trn : Nat → Bool} {txt : Nat → Nat → Nat} {kd dd : Nat → Int32} {qq : Nat → Nat → Int32} {A : AB} {T : Nat → List Nat} {X : Nat → AB}
theorem SC_fr (f : ∀ x, x < 2 → S'.1 x = S.1 x) (h : SC S sp lt) : SC S' sp lt := by
  unfold SC at h ⊢
  rw [f 0 (by omega), f 1 (by omega)]
  exact h
theorem HS1_fr (f : ∀ x, 2 ≤ x → x < 16 → S'.1 x = S.1 x) (h : HS1 S ns len trn txt) : HS1 S' ns len trn txt := by
  unfold HS1 at h ⊢
  rw [f 2 (by omega) (by omega), f 3 (by omega) (by omega), f 4 (by omega) (by omega)]
  exact h
theorem RC_fr (f : ∀ x, 2 ≤ x → x < 16 → S'.1 x = S.1 x) (h : RC S nr kd fr to) : RC S' nr kd fr to := by
  unfold RC at h ⊢
  rw [f 6 (by omega) (by omega), f 7 (by omega) (by omega), f 8 (by omega) (by omega)]
  exact h
theorem TA_fr {a : Nat} {d : Int32} {s : Nat} {q : Nat → Int32} (f : ∀ x, 2 ≤ x → x < 16 → S'.1 x = S.1 x) (h : TA S a d s q) : TA S' a d s q := by
  unfold TA at h ⊢
  rw [f 10 (by omega) (by omega), f 11 (by omega) (by omega), f 12 (by omega) (by omega)]
  exact h
theorem CT_fr (f : ∀ x, 2 ≤ x → x < 16 → S'.1 x = S.1 x) (h : CT S na dr ab st) : CT S' na dr ab st := by
  unfold CT at h ⊢
  rw [f 9 (by omega) (by omega), f 13 (by omega) (by omega), f 14 (by omega) (by omega), f 15 (by omega) (by omega)]
  exact h
theorem OC_fr (f : ∀ x, 2 ≤ x → x < 16 → S'.1 x = S.1 x) (h : OC S ns nr na len trn txt kd fr to dd sj qq dr ab st) : OC S' ns nr na len trn txt kd fr to dd sj qq dr ab st := by
  obtain ⟨h1, h2, h3, h4, h5, h6⟩ := h
  exact ⟨by rw [f 2 (by omega) (by omega)]; exact h1, by rw [f 5 (by omega) (by omega)]; exact h2, HS1_fr f h3, RC_fr f h4, fun a ha => TA_fr f (h5 a ha), CT_fr f h6⟩
theorem RB_fr {h lo b b' : Nat} (f : S'.2.2 h = S.2.2 h) (hB : RB S h lo b b') : RB S' h lo b b' := by
  unfold RB at hB ⊢
  rw [f]
  exact hB
theorem CB_fr {lo b : Nat} (hb : b = lo ∨ b = lo + 3) (f : ∀ x, lo ≤ x → x < lo + 6 → S'.1 x = S.1 x) (h : CB S b kd A) : CB S' b kd A := by
  unfold CB at h ⊢
  rw [f b (by omega) (by omega), f (b + 1) (by omega) (by omega), f (b + 2) (by omega) (by omega)]
  exact h
theorem RB_lo {h lo b b' : Nat} (hB : RB S h lo b b') : b = lo ∨ b = lo + 3 := by
  have := hB.2.2
  omega
theorem BC_fr (f : ∀ x, 18 ≤ x → x < 24 → S'.1 x = S.1 x) (f1 : S'.2.1 16 = S.2.1 16) (f2 : S'.2.2 16 = S.2.2 16) (h : BC S kd A V) : BC S' kd A V := by
  obtain ⟨⟨b, b', h1, h2⟩, h3⟩ := h
  exact ⟨⟨b, b', RB_fr f2 h1, CB_fr (RB_lo h1) f h2⟩, by rw [f1]; exact h3⟩
theorem BN_fr (f2 : S'.2.2 17 = S.2.2 17) (h : BN S) : BN S' := by
  obtain ⟨c, c', h1⟩ := h
  exact ⟨c, c', RB_fr f2 h1⟩
theorem EC_fr (f : ∀ x, x = 30 ∨ x = 32 ∨ x = 33 → S'.1 x = S.1 x) (f35 : ∀ i, ch (S'.1 35 i) = true) (f1 : S'.2.1 31 = S.2.1 31) (h : EC S ne nm se T) : EC S' ne nm se T := by
  unfold EC at h ⊢
  rw [f 30 (by omega), f 32 (by omega), f 33 (by omega), f1]
  exact ⟨h.1, h.2.1, h.2.2.1, h.2.2.2.1, f35⟩
end
section
variable {S S' : HS} {sp ns nr na ne nm : Nat} {lt len fr to sj dr ab st lby se : Nat → Nat} {trn : Nat → Bool} {txt : Nat → Nat → Nat} {kd dd : Nat → Int32} {qq : Nat → Nat → Int32}
end
/-! a call of the class and the same of the model -/
theorem ib01 : ib (0 : Int32) 1 = true := by decide
theorem cl0 : (0 : Int32).toNatClampNeg = 0 := by decide
def wch : List (Nat × Int32) → XO → Option (HS × Int32)
  | [], _ => none
  | p :: l, o => if o.2.1 = p.1 then some (o.1, p.2) else wch l o
def wrp (l : List (Nat × Int32)) (x : Option XO) : Option (HS × Int32) := x.bind (fun o => if o.2.1 = 0 then some (sL o.1 60 0 o.2.2.toInt64, (0 : Int32)) else wch l o)
def wrb (l : List (Nat × Int32)) (x : Option XO) : Option (HS × Int32) := x.bind (fun o => if o.2.1 = 0 then (if o.2.2 = 0 then some (sL o.1 60 0 0, (0 : Int32)) else some (sL o.1 60 0 1, (0 : Int32))) else wch l o)
theorem sL_60 {S : HS} {v : Int64} : (sL S 60 0 v).2.1 60 0 = v := by
  unfold sL
  simp [vp_updL]
section
variable {S S1 : HS} {l : List (Nat × Int32)} {x : Option XO} {y : HS → Option (HS × Int32)} {v : Int32}
end

/-- all of the class -/
def CI (S : HS) (sp ns nr na ne nm : Nat) (lt len fr to sj dr ab st lby se : Nat → Nat) (trn : Nat → Bool) (txt : Nat → Nat → Nat) (kd dd : Nat → Int32) (qq : Nat → Nat → Int32) : Prop :=
  (SG sp ne nm na lt se ∧ GW ns nr na len kd fr to dd sj qq dr ab st lby) ∧
  (SC S sp lt ∧ OC S ns nr na len trn txt kd fr to dd sj qq dr ab st ∧ BC S kd (rep kd fr to (lbL len) dd sj qq (cset st ab) na).1 (rep kd fr to (lbL len) dd sj qq (cset st ab) na).2 ∧ BN S ∧ EC S ne nm se (fun e => TX (rep kd fr to (lbL len) dd sj qq (se e) na).1 len trn txt))
/-- what calls that only ask may change -/
def QF (S S' : HS) : Prop := (∀ x, x < 24 ∨ 30 ≤ x → x ≠ 34 → x ≠ 35 → S'.1 x = S.1 x) ∧ (∀ x, x ≠ 17 → S'.2.2 x = S.2.2 x) ∧ (∀ x, x ≠ 17 → S'.2.1 x = S.2.1 x) ∧ (BN S → BN S') ∧ ((∀ i, ch (S.1 35 i) = true) → ∀ i, ch (S'.1 35 i) = true)
theorem QF.rf (S : HS) : QF S S := ⟨fun _ _ _ _ => rfl, fun _ _ => rfl, fun _ _ => rfl, id, id⟩
theorem QF.tr {S T U : HS} (h1 : QF S T) (h2 : QF T U) : QF S U := by
  obtain ⟨a1, a3, a4, a5, a6⟩ := h1
  obtain ⟨b1, b3, b4, b5, b6⟩ := h2
  exact ⟨fun x p q r => (b1 x p q r).trans (a1 x p q r), fun x p => (b3 x p).trans (a3 x p), fun x p => (b4 x p).trans (a4 x p), fun h => b5 (a5 h), fun h => b6 (a6 h)⟩
section
variable {S S' : HS} {sp ns nr na ne nm : Nat} {lt len fr to sj dr ab st lby se : Nat → Nat} {trn : Nat → Bool} {txt : Nat → Nat → Nat} {kd dd : Nat → Int32} {qq : Nat → Nat → Int32}
theorem CI_q (h : CI S sp ns nr na ne nm lt len fr to sj dr ab st lby se trn txt kd dd qq) (hQ : QF S S') : CI S' sp ns nr na ne nm lt len fr to sj dr ab st lby se trn txt kd dd qq := by
  obtain ⟨h0, ⟨c1, c2, c3, c4, c5⟩⟩ := h
  obtain ⟨q1, q3, q4, q5, q6⟩ := hQ
  have c5' := c5.2.2.2.2
  exact ⟨h0, ⟨SC_fr (fun x hx => q1 x (by omega) (by omega) (by omega)) c1, OC_fr (fun x _ hx => q1 x (by omega) (by omega) (by omega)) c2, BC_fr (fun x _ hx => q1 x (by omega) (by omega) (by omega)) (q4 16 (by omega)) (q3 16 (by omega)) c3, q5 c4, EC_fr (fun x hx => q1 x (by omega) (by omega) (by omega)) (q6 c5') (q4 31 (by omega)) c5⟩⟩
/-- rows of the law don't matter -/
theorem CI_lw (h : CI S sp ns nr na ne nm lt len fr to sj dr ab st lby se trn txt kd dd qq) (f : ∀ x, x < 36 → S'.1 x = S.1 x) (f2 : S'.2 = S.2) : CI S' sp ns nr na ne nm lt len fr to sj dr ab st lby se trn txt kd dd qq := by
  obtain ⟨h0, ⟨c1, c2, c3, c4, c5⟩⟩ := h
  have c5' := c5.2.2.2.2
  exact ⟨h0, ⟨SC_fr (fun x hx => f x (by omega)) c1, OC_fr (fun x _ hx => f x (by omega)) c2, BC_fr (fun x _ hx => f x (by omega)) (by rw [f2]) (by rw [f2]) c3, BN_fr (by rw [f2]) c4, EC_fr (fun x hx => f x (by omega)) (by rw [f 35 (by omega)]; exact c5') (by rw [f2]) c5⟩⟩
end
