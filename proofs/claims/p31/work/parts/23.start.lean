/-! a board from its entry; the law (by wip/p31/start.py) -/
theorem nw_RL_11 : NWc RL 11 7 9 [.null, .int 0, .null, .null, .null, .null, .null, .null, .null] := ⟨RX7, TX7, tyX7, rfl, lyX7, tyX7_ok, exin (mem_i 11 (by decide +kernel)), exin (mem_i 12 (by decide +kernel)), tb0 (mem_i 1 rfl), fun j hj => by
  match j, hj with
  | 0, _ => rfl
  | 1, _ => rfl
  | 2, _ => rfl
  | 3, _ => rfl
  | 4, _ => rfl
  | 5, _ => rfl
  | 6, _ => rfl
  | 7, _ => rfl
  | 8, _ => rfl
  | j + 9, h => exact absurd h (by omega)⟩
theorem ni_RL_135 : NIc RL 135 yX7_init 0 := ⟨⟨by decide +kernel, by decide +kernel, by decide +kernel⟩, rfl, tb0 (mem_i 24 rfl), tb0 (mem_i 1 rfl), Or.inl (tb0 (mem_i 23 rfl))⟩
def S0 : HS := (fun a => if a = 15 then upd (upd (upd (upd (fun _ => 0) (0 : Int32).toNatClampNeg (-1 : Int32)) (1 : Int32).toNatClampNeg (-1 : Int32)) (2 : Int32).toNatClampNeg (-1 : Int32)) (3 : Int32).toNatClampNeg (-1 : Int32) else if a = 24 then upd (fun _ => 0) 2 1 else if a = 27 then upd (fun _ => 0) 2 1 else fun _ => 0, (fun _ _ => 0, fun a k => if a = 16 then (if k = 1 then some 18 else some 21) else (if k = 1 then some 24 else some 27)))
def adl (l : List Nat) : Nat → Nat := fun k => l.getD k 0
set_option maxHeartbeats 4000000 in
theorem S0_wld (cA : Nat → ClassId) (q1 q2 q3 q4 q5 q6 q7 q8 q9 q10 q11 q12 q13 q14 q15 q16 q17 q18 q19 q20 q21 q22 q23 q24 q25 q26 q27 q28 q29 q30 q31 q32 q33 q34 q35 q36 q37 q38 q39 q40 q41 b : Nat) : ([(q1, .inr (7, [.ref q2, .int (0 : Int32), .ref q3, .ref q6, .ref q10, .ref q17, .ref q24, .ref q31, .ref q35])), (q2, .inl (cA 0, (5, .inl (fun _ => 0)))), (q3, .inr (5, [.int (0 : Int32), .int (0 : Int32), .ref q4, .ref q5])), (q4, .inl (cA 0, (10, .inl (fun _ => 0)))), (q5, .inl (cA 0, (50, .inl (fun _ => 0)))), (q6, .inr (4, [.int (0 : Int32), .ref q7, .ref q8, .ref q9])), (q7, .inl (cA 0, (12, .inl (fun _ => 0)))), (q8, .inl (cA 0, (12, .inl (fun _ => 0)))), (q9, .inl (cA 0, (12, .inl (fun _ => 0)))), (q10, .inr (6, [.int (0 : Int32), .ref q11, .ref q12, .ref q13, .ref q14, .ref q15, .ref q16])), (q11, .inl (cA 0, (60, .inl (fun _ => 0)))), (q12, .inl (cA 0, (60, .inl (fun _ => 0)))), (q13, .inl (cA 0, (240, .inl (fun _ => 0)))), (q14, .inl (cA 0, (60, .inl (fun _ => 0)))), (q15, .inl (cA 0, (60, .inl (fun _ => 0)))), (q16, .inl (cA 0, (4, .inl (upd (upd (upd (upd (fun _ => 0) (0 : Int32).toNatClampNeg (-1 : Int32)) (1 : Int32).toNatClampNeg (-1 : Int32)) (2 : Int32).toNatClampNeg (-1 : Int32)) (3 : Int32).toNatClampNeg (-1 : Int32))))), (q17, .inr (3, [.ref q10, .ref q18, .ref q21, .long 0])), (q24, .inr (3, [.ref q10, .ref q25, .ref q28, .long 0])), (q18, .inr (0, [.ref q3, .ref q6, .int (0 : Int32), .ref q19, .ref q20, .int (0 : Int32), .int (0 : Int32)])), (q19, .inl (cA 0, (40, .inl (fun _ => 0)))), (q20, .inl (cA 0, (24, .inl (fun _ => 0)))), (q21, .inr (0, [.ref q3, .ref q6, .int (0 : Int32), .ref q22, .ref q23, .int (0 : Int32), .int (0 : Int32)])), (q22, .inl (cA 0, (40, .inl (fun _ => 0)))), (q23, .inl (cA 0, (24, .inl (fun _ => 0)))), (q25, .inr (0, [.ref q3, .ref q6, .int (1 : Int32), .ref q26, .ref q27, .int (0 : Int32), .int (0 : Int32)])), (q26, .inl (cA 0, (40, .inl (fun _ => 0)))), (q27, .inl (cA 0, (24, .inl (fun _ => 0)))), (q28, .inr (0, [.ref q3, .ref q6, .int (1 : Int32), .ref q29, .ref q30, .int (0 : Int32), .int (0 : Int32)])), (q29, .inl (cA 0, (40, .inl (fun _ => 0)))), (q30, .inl (cA 0, (24, .inl (fun _ => 0)))), (q31, .inr (2, [.int (0 : Int32), .int (0 : Int32), .ref q32, .ref q33, .ref q34])), (q32, .inl (cA 1, (10, .inr (.inl (fun _ => 0))))), (q33, .inl (cA 0, (10, .inl (fun _ => 0)))), (q34, .inl (cA 2, (3280, .inl (fun _ => 0)))), (q35, .inr (1, [.ref q36, .int (0 : Int32)])), (q36, .inl (cA 2, (328, .inl (fun _ => 0)))), (q37, .inl (cA 0, (60, .inl (fun _ => 0)))), (q38, .inl (cA 0, (12, .inl (fun _ => 0)))), (q39, .inl (cA 0, (5, .inl (fun _ => 0)))), (q40, .inl (cA 0, (4, .inl (fun _ => 0)))), (q41, .inl (cA 0, (40, .inl (fun _ => 0))))] : va_W) = wld cA (adl [q1, q2, q3, q4, q5, q6, q7, q8, q9, q10, q11, q12, q13, q14, q15, q16, q17, q24, q18, q19, q20, q21, q22, q23, q25, q26, q27, q28, q29, q30, q31, q32, q33, q34, q35, q36, q37, q38, q39, q40, q41, b]) S0 := by
  apply List.ext_getElem?
  intro k
  unfold wld
  rw [List.getElem?_mapIdx]
  match k with
  | 0 => rfl
  | 1 => rfl
  | 2 => rfl
  | 3 => rfl
  | 4 => rfl
  | 5 => rfl
  | 6 => rfl
  | 7 => rfl
  | 8 => rfl
  | 9 => rfl
  | 10 => rfl
  | 11 => rfl
  | 12 => rfl
  | 13 => rfl
  | 14 => rfl
  | 15 => rfl
  | 16 => rfl
  | 17 => rfl
  | 18 => rfl
  | 19 => rfl
  | 20 => rfl
  | 21 => rfl
  | 22 => rfl
  | 23 => rfl
  | 24 => rfl
  | 25 => rfl
  | 26 => rfl
  | 27 => rfl
  | 28 => rfl
  | 29 => rfl
  | 30 => rfl
  | 31 => rfl
  | 32 => rfl
  | 33 => rfl
  | 34 => rfl
  | 35 => rfl
  | 36 => rfl
  | 37 => rfl
  | 38 => rfl
  | 39 => rfl
  | 40 => rfl
  | k + 41 => rfl

def zq0 (sz : Nat) (U : State) : Prop := vx_Zq Bundle.tN "UNASSIGNED_STACK" Bundle.steD (fun q : Nat => sz ≤ q) U U.heap ∧ vx_Zq Bundle.tN "SUPPRESSED_SENTINEL" Bundle.listD (fun q : Nat => sz ≤ q) U U.heap
def bPre (D : va_G) (cA : Nat → ClassId) (b : Nat) (xs : Nat → Int32) (L sz : Nat) (U : State) : Prop := U.heap.size = sz ∧ va_X b L xs U U.heap ∧ b < sz ∧ va_K D vwCl (tyl cA) U ∧ NwA U ∧ zq0 sz U
def bQ (sz : Nat) (x : Int32) : Array Value → State → Outcome → State → Prop := fun _ st oc t => oc = .returned (some (.int x)) ∧ va_F (fun q : Nat => sz ≤ q) st t
theorem bPre.blind {D : va_G} {cA : Nat → ClassId} {b sz L : Nat} {xs : Nat → Int32} {as : List Value} : FrameBlind (va_Pc as (bPre D cA b xs L sz)) := by
  intro a U g mk h
  obtain ⟨h1, h2, h3, h4, h5, h6, h7⟩ := h
  exact ⟨h1, h2, va_X.moved (u := U) (U := U.calling g mk a) (Vm.Alike.refl U.vm) h3, h4, va_K.moved (u := U) (U := U.calling g mk a) (Vm.Alike.refl U.vm) h5, h6.blind, vx_Zq.moved (u := U) (U := U.calling g mk a) (Vm.Alike.refl U.vm) h7.1, vx_Zq.moved (u := U) (U := U.calling g mk a) (Vm.Alike.refl U.vm) h7.2⟩
set_option maxRecDepth 100000 in
set_option maxHeartbeats 40000000 in
theorem c_board (l : Launch) (hl9 : l.stackTraces = false) (xs : Nat → Int32) (L : Nat) (p1 : Int32) (out : HS × Int32) (hpure : f_L_board_b41 xs L p1 S0 0 0 = some out) (D : va_G) (cA : Nat → ClassId) (b sz : Nat) : Met l yL_board (.code yL_board cL_board 16 (some .boolean) :: TB) rm_L_board (va_Pc [.ref b, .int p1] (bPre D cA b xs L sz)) (bQ sz out.2) rm_L_board.cells rm_L_board.slots (fun q : Nat => sz ≤ q) := by
  refine Met.ofW (cc := cL_board) (maxL := 16) (ret := some .boolean) (by decide +kernel) rfl ?_
  intro p e s m args below meth c s₁ B hml hv
  obtain ⟨rfl, hsz, hX, hbl, hK, hnw, hz⟩ := hv
  have hx := B.exec
  have hb := B.bytes
  have hr := B.returns
  have hts0 := atoms_spec (ws := .code yL_board cL_board 16 (some .boolean) :: TB) B.pre
  have htb : ∀ w ∈ TB, w.before ([.ref b, .int p1] : List Value).toArray s = true := fun w hw => hts0 w (List.mem_cons_of_mem _ hw)
  have hown : s.vm.findClass RL = some m.cls := findClass_of_methodNamed B.named
  have hlocks := B.notSynchronized
  subst hsz
  have hl := lv_entry ([.ref b, .int p1]) (n := 16) (Nat.le_of_ble_eq_true rfl)
  rw [lg_entry_eq]
  generalize (lg_sl ([.ref b, .int p1]) ++ List.replicate (16 - (lg_sl ([.ref b, .int p1])).length) Slot.unset).toArray = ls at hl ⊢
  have hl : lv_has ls 16 [(0, .ref b), (1, .int p1)] := hl
  have hP : va_P D vwCl [] s.heap := fun k q h => by simp at h
  have hD : va_D (fun q : Nat => s.heap.size ≤ q) [] := ⟨fun i j p q h => by simp at h, fun k q h => by simp at h⟩
  suffices key : ∀ G, OKN l cL_board RL 16 rm_L_board D cA (fun q => s.heap.size ≤ q) False G → (∀ (q1 q2 q3 q4 q5 q6 q7 q8 q9 q10 q11 q12 q13 q14 q15 q16 q17 q18 q19 q20 q21 q22 q23 q24 q25 q26 q27 q28 q29 q30 q31 q32 q33 q34 q35 q36 q37 q38 q39 q40 q41 : Nat), G 41 4657 [(q1, .inr (7, [.ref q2, .int (0 : Int32), .ref q3, .ref q6, .ref q10, .ref q17, .ref q24, .ref q31, .ref q35])), (q2, .inl (cA 0, (5, .inl (fun _ => 0)))), (q3, .inr (5, [.int (0 : Int32), .int (0 : Int32), .ref q4, .ref q5])), (q4, .inl (cA 0, (10, .inl (fun _ => 0)))), (q5, .inl (cA 0, (50, .inl (fun _ => 0)))), (q6, .inr (4, [.int (0 : Int32), .ref q7, .ref q8, .ref q9])), (q7, .inl (cA 0, (12, .inl (fun _ => 0)))), (q8, .inl (cA 0, (12, .inl (fun _ => 0)))), (q9, .inl (cA 0, (12, .inl (fun _ => 0)))), (q10, .inr (6, [.int (0 : Int32), .ref q11, .ref q12, .ref q13, .ref q14, .ref q15, .ref q16])), (q11, .inl (cA 0, (60, .inl (fun _ => 0)))), (q12, .inl (cA 0, (60, .inl (fun _ => 0)))), (q13, .inl (cA 0, (240, .inl (fun _ => 0)))), (q14, .inl (cA 0, (60, .inl (fun _ => 0)))), (q15, .inl (cA 0, (60, .inl (fun _ => 0)))), (q16, .inl (cA 0, (4, .inl (upd (upd (upd (upd (fun _ => 0) (0 : Int32).toNatClampNeg (-1 : Int32)) (1 : Int32).toNatClampNeg (-1 : Int32)) (2 : Int32).toNatClampNeg (-1 : Int32)) (3 : Int32).toNatClampNeg (-1 : Int32))))), (q17, .inr (3, [.ref q10, .ref q18, .ref q21, .long 0])), (q18, .inr (0, [.ref q3, .ref q6, .int (0 : Int32), .ref q19, .ref q20, .int (0 : Int32), .int (0 : Int32)])), (q19, .inl (cA 0, (40, .inl (fun _ => 0)))), (q20, .inl (cA 0, (24, .inl (fun _ => 0)))), (q21, .inr (0, [.ref q3, .ref q6, .int (0 : Int32), .ref q22, .ref q23, .int (0 : Int32), .int (0 : Int32)])), (q22, .inl (cA 0, (40, .inl (fun _ => 0)))), (q23, .inl (cA 0, (24, .inl (fun _ => 0)))), (q24, .inr (3, [.ref q10, .ref q25, .ref q28, .long 0])), (q25, .inr (0, [.ref q3, .ref q6, .int (1 : Int32), .ref q26, .ref q27, .int (0 : Int32), .int (0 : Int32)])), (q26, .inl (cA 0, (40, .inl (fun _ => 0)))), (q27, .inl (cA 0, (24, .inl (fun _ => 0)))), (q28, .inr (0, [.ref q3, .ref q6, .int (1 : Int32), .ref q29, .ref q30, .int (0 : Int32), .int (0 : Int32)])), (q29, .inl (cA 0, (40, .inl (fun _ => 0)))), (q30, .inl (cA 0, (24, .inl (fun _ => 0)))), (q31, .inr (2, [.int (0 : Int32), .int (0 : Int32), .ref q32, .ref q33, .ref q34])), (q32, .inl (cA 1, (10, .inr (.inl (fun _ => 0))))), (q33, .inl (cA 0, (10, .inl (fun _ => 0)))), (q34, .inl (cA 2, (3280, .inl (fun _ => 0)))), (q35, .inr (1, [.ref q36, .int (0 : Int32)])), (q36, .inl (cA 2, (328, .inl (fun _ => 0)))), (q37, .inl (cA 0, (60, .inl (fun _ => 0)))), (q38, .inl (cA 0, (12, .inl (fun _ => 0)))), (q39, .inl (cA 0, (5, .inl (fun _ => 0)))), (q40, .inl (cA 0, (4, .inl (fun _ => 0)))), (q41, .inl (cA 0, (40, .inl (fun _ => 0))))] [(9, .int (0 : Int32)), (8, .int (0 : Int32)), (7, .ref q41), (6, .ref q40), (5, .ref q39), (4, .ref q38), (3, .ref q37), (2, .ref q1), (0, .ref b), (1, .int p1)] 41 []) → G 0 0 [] [(0, .ref b), (1, .int p1)] 0 [] by
    refine key _ ⟨p, e, s, m, ([.ref b, .int p1] : List Value).toArray, below, meth, c, MQ below (bQ s.heap.size out.2) ([.ref b, .int p1] : List Value).toArray s rm_L_board.cells rm_L_board.slots (fun q : Nat => s.heap.size ≤ q), hx, hb, hml, hown, htb, hnw, hK, fun q h => h, fun h => h.elim, rfl⟩ ?_ s.heap [] ls hP hD va_S.rf hl
    intro q1 q2 q3 q4 q5 q6 q7 q8 q9 q10 q11 q12 q13 q14 q15 q16 q17 q18 q19 q20 q21 q22 q23 q24 q25 q26 q27 q28 q29 q30 q31 q32 q33 q34 q35 q36 q37 q38 q39 q40 q41 H locs ls hP hD hS hl
    have hP2 : va_P D vwCl (wld cA (adl [q1, q2, q3, q4, q5, q6, q7, q8, q9, q10, q11, q12, q13, q14, q15, q16, q17, q24, q18, q19, q20, q21, q22, q23, q25, q26, q27, q28, q29, q30, q31, q32, q33, q34, q35, q36, q37, q38, q39, q40, q41, b]) S0) H := by
      rw [← S0_wld]
      exact hP.sub [0, 1, 2, 3, 4, 5, 6, 7, 8, 9, 10, 11, 12, 13, 14, 15, 16, 23, 17, 18, 19, 20, 21, 22, 24, 25, 26, 27, 28, 29, 30, 31, 32, 33, 34, 35, 36, 37, 38, 39, 40] rfl
    have hD2 : va_D (fun q : Nat => s.heap.size ≤ q) (wld cA (adl [q1, q2, q3, q4, q5, q6, q7, q8, q9, q10, q11, q12, q13, q14, q15, q16, q17, q24, q18, q19, q20, q21, q22, q23, q25, q26, q27, q28, q29, q30, q31, q32, q33, q34, q35, q36, q37, q38, q39, q40, q41, b]) S0) := by
      rw [← S0_wld]
      exact hD.sub [0, 1, 2, 3, 4, 5, 6, 7, 8, 9, 10, 11, 12, 13, 14, 15, 16, 23, 17, 18, 19, 20, 21, 22, 24, 25, 26, 27, 28, 29, 30, 31, 32, 33, 34, 35, 36, 37, 38, 39, 40] (by decide +kernel) rfl
    generalize had : adl [q1, q2, q3, q4, q5, q6, q7, q8, q9, q10, q11, q12, q13, q14, q15, q16, q17, q24, q18, q19, q20, q21, q22, q23, q25, q26, q27, q28, q29, q30, q31, q32, q33, q34, q35, q36, q37, q38, q39, q40, q41, b] = ad at hP2 hD2
    have hb41 : ad 41 = b := by rw [← had]; rfl
    have hge : ∀ k, k < nH → s.heap.size ≤ ad k := by
      intro k hk
      have hk2 : k < shp.length := hk
      exact hD2.2 k _ (wld_at (List.getElem?_eq_getElem hk2))
    have hj : Inj ad := by
      intro i j hi hj9 e9
      have hi2 : i < shp.length := hi
      have hj2 : j < shp.length := hj9
      exact hD2.1 i j _ _ (wld_at (List.getElem?_eq_getElem hi2)) (wld_at (List.getElem?_eq_getElem hj2)) e9
    have hfa : ∀ q : Nat, fA ad s.heap.size q → s.heap.size ≤ q := by
      rintro q (⟨k, hk, rfl⟩ | h)
      · exact hge k hk
      · exact h
    have hzw : ZW ad s.heap.size s := ⟨vx_Zq.narrow hz.1 hfa, vx_Zq.narrow hz.2 hfa⟩
    have hS2 : va_S (fA ad s.heap.size) s.heap H locs := ⟨hS.1, fun q h1 h2 => hS.2.1 q h1 (fun h => h2 (Or.inr h)), fun q hq => Or.inr (hS.2.2 q hq)⟩
    have hGL : OKL l cL_board RL 16 rm_L_board (Go p l e rm_L_board s m ([.ref b, .int p1] : List Value).toArray below meth c D.1 D.2 cA ad 16 (MQ below (bQ s.heap.size out.2) ([.ref b, .int p1] : List Value).toArray s rm_L_board.cells rm_L_board.slots (fun q : Nat => s.heap.size ≤ q))) xs L :=
      ⟨p, e, s, m, _, below, meth, c, D.1, D.2, cA, ad, _, hx, hb, hml, hown, htb, hnw, hK, hj, hzw, by rw [hb41]; exact hX, by rw [hb41]; exact hbl, by rw [hb41]; exact fun h => absurd (hfa b h) (Nat.not_le.mpr hbl), rfl⟩
    refine c_loop l hl9 xs L p1 hGL out ⟨fun k n lv pc _ _ h1 => (by cases h1), fun k n lv pc ty x hk9 hn9 h1 hnr h2 hd H locs ls hP hS hl => ?_⟩ 0 0 S0 hpure H locs ls hP2 hS2 ?_
    · have hS9 : va_S (fun q : Nat => s.heap.size ≤ q) s.heap H locs := ⟨hS.1, fun q h1 h2 => hS.2.1 q h1 (fun h => h2 (hfa q h)), fun q hq => hfa _ (hS.2.2 q hq)⟩
      cases h1
      exact W.widen hk9 hn9 (W.zret (v := x) hx hb hr hnr (fun t ht hW => ⟨by rw [Sum.inl.inj (Option.some.inj h2)], hS9.F ht⟩) hS9.2.2 hd)
    · have h0 : gL ad [(0, vR 41), (1, vI p1), (2, vR 0), (3, vR 36), (4, vR 37), (5, vR 38), (6, vR 39), (7, vR 40), (8, vI 0), (9, vI 0)] = [(0, .ref b), (1, .int p1), (2, .ref q1), (3, .ref q37), (4, .ref q38), (5, .ref q39), (6, .ref q40), (7, .ref q41), (8, .int (0 : Int32)), (9, .int (0 : Int32))] := by rw [← had]; rfl
      rw [h0]
      exact lv_sub hl [8, 9, 7, 6, 5, 4, 3, 2, 1, 0] rfl
  intro G hG hend
  refine n_new hG (k' := 1) (n' := 9) dL_board_0 nw_RL_11 ⟨by decide, by decide⟩ rfl rfl (fun q1 => ?_)
  refine n_eq (ws' := [(q1, .inr (7, [.null, .int 0, .null, .null, .null, .null, .null, .null, .null]))]) rfl ?_
  refine n_dup hG dL_board_3 rfl ?_
  refine n_init hG (as := []) (st := [.ref q1]) (wr := []) (e0 := .inr (7, [.null, .int 0, .null, .null, .null, .null, .null, .null, .null])) (rm := rm_X7_init) (k' := 36) (n' := 4536) dL_board_4 ni_RL_135 (tb0 (mem_i 25 rfl)) rfl ⟨by decide, by decide⟩ (Nat.le_of_ble_eq_true rfl) ⟨by decide, by decide⟩ rfl rfl rfl rfl (c_X7_init l D cA q1) (fun w1 hw1 => ?_)
  obtain ⟨q2, q3, q4, q5, q6, q7, q8, q9, q10, q11, q12, q13, q14, q15, q16, q17, q18, q19, q20, q21, q22, q23, q24, q25, q26, q27, q28, q29, q30, q31, q32, q33, q34, q35, q36, rfl⟩ := hw1
  refine n_eq (ws' := [(q1, .inr (7, [.ref q2, .int (0 : Int32), .ref q3, .ref q6, .ref q10, .ref q17, .ref q24, .ref q31, .ref q35])), (q2, .inl (cA 0, (5, .inl (fun _ => 0)))), (q3, .inr (5, [.int (0 : Int32), .int (0 : Int32), .ref q4, .ref q5])), (q4, .inl (cA 0, (10, .inl (fun _ => 0)))), (q5, .inl (cA 0, (50, .inl (fun _ => 0)))), (q6, .inr (4, [.int (0 : Int32), .ref q7, .ref q8, .ref q9])), (q7, .inl (cA 0, (12, .inl (fun _ => 0)))), (q8, .inl (cA 0, (12, .inl (fun _ => 0)))), (q9, .inl (cA 0, (12, .inl (fun _ => 0)))), (q10, .inr (6, [.int (0 : Int32), .ref q11, .ref q12, .ref q13, .ref q14, .ref q15, .ref q16])), (q11, .inl (cA 0, (60, .inl (fun _ => 0)))), (q12, .inl (cA 0, (60, .inl (fun _ => 0)))), (q13, .inl (cA 0, (240, .inl (fun _ => 0)))), (q14, .inl (cA 0, (60, .inl (fun _ => 0)))), (q15, .inl (cA 0, (60, .inl (fun _ => 0)))), (q16, .inl (cA 0, (4, .inl (upd (upd (upd (upd (fun _ => 0) (0 : Int32).toNatClampNeg (-1 : Int32)) (1 : Int32).toNatClampNeg (-1 : Int32)) (2 : Int32).toNatClampNeg (-1 : Int32)) (3 : Int32).toNatClampNeg (-1 : Int32))))), (q17, .inr (3, [.ref q10, .ref q18, .ref q21, .long 0])), (q18, .inr (0, [.ref q3, .ref q6, .int (0 : Int32), .ref q19, .ref q20, .int (0 : Int32), .int (0 : Int32)])), (q19, .inl (cA 0, (40, .inl (fun _ => 0)))), (q20, .inl (cA 0, (24, .inl (fun _ => 0)))), (q21, .inr (0, [.ref q3, .ref q6, .int (0 : Int32), .ref q22, .ref q23, .int (0 : Int32), .int (0 : Int32)])), (q22, .inl (cA 0, (40, .inl (fun _ => 0)))), (q23, .inl (cA 0, (24, .inl (fun _ => 0)))), (q24, .inr (3, [.ref q10, .ref q25, .ref q28, .long 0])), (q25, .inr (0, [.ref q3, .ref q6, .int (1 : Int32), .ref q26, .ref q27, .int (0 : Int32), .int (0 : Int32)])), (q26, .inl (cA 0, (40, .inl (fun _ => 0)))), (q27, .inl (cA 0, (24, .inl (fun _ => 0)))), (q28, .inr (0, [.ref q3, .ref q6, .int (1 : Int32), .ref q29, .ref q30, .int (0 : Int32), .int (0 : Int32)])), (q29, .inl (cA 0, (40, .inl (fun _ => 0)))), (q30, .inl (cA 0, (24, .inl (fun _ => 0)))), (q31, .inr (2, [.int (0 : Int32), .int (0 : Int32), .ref q32, .ref q33, .ref q34])), (q32, .inl (cA 1, (10, .inr (.inl (fun _ => 0))))), (q33, .inl (cA 0, (10, .inl (fun _ => 0)))), (q34, .inl (cA 2, (3280, .inl (fun _ => 0)))), (q35, .inr (1, [.ref q36, .int (0 : Int32)])), (q36, .inl (cA 2, (328, .inl (fun _ => 0))))]) rfl ?_
  refine n_astore_n hG (lv' := [(2, .ref q1), (0, .ref b), (1, .int p1)]) dL_board_7 (by decide) rfl ?_
  refine n_bipush hG (v := (60 : Int32)) dL_board_8 (by decide) ?_
  refine n_arr hG (t := 0) (N := 60) (x := .inl (fun _ => 0)) (ty := .int) (k' := 37) (n' := 4596) dL_board_10 (tb1 (mem_i 9 rfl)) rfl rfl (by simp) (fun _ => rfl) (by decide) rfl (Nat.le_of_ble_eq_true rfl) ⟨Nat.le_of_ble_eq_true rfl, Nat.le_of_ble_eq_true rfl⟩ rfl rfl (fun q37 => ?_)
  refine n_eq (ws' := [(q1, .inr (7, [.ref q2, .int (0 : Int32), .ref q3, .ref q6, .ref q10, .ref q17, .ref q24, .ref q31, .ref q35])), (q2, .inl (cA 0, (5, .inl (fun _ => 0)))), (q3, .inr (5, [.int (0 : Int32), .int (0 : Int32), .ref q4, .ref q5])), (q4, .inl (cA 0, (10, .inl (fun _ => 0)))), (q5, .inl (cA 0, (50, .inl (fun _ => 0)))), (q6, .inr (4, [.int (0 : Int32), .ref q7, .ref q8, .ref q9])), (q7, .inl (cA 0, (12, .inl (fun _ => 0)))), (q8, .inl (cA 0, (12, .inl (fun _ => 0)))), (q9, .inl (cA 0, (12, .inl (fun _ => 0)))), (q10, .inr (6, [.int (0 : Int32), .ref q11, .ref q12, .ref q13, .ref q14, .ref q15, .ref q16])), (q11, .inl (cA 0, (60, .inl (fun _ => 0)))), (q12, .inl (cA 0, (60, .inl (fun _ => 0)))), (q13, .inl (cA 0, (240, .inl (fun _ => 0)))), (q14, .inl (cA 0, (60, .inl (fun _ => 0)))), (q15, .inl (cA 0, (60, .inl (fun _ => 0)))), (q16, .inl (cA 0, (4, .inl (upd (upd (upd (upd (fun _ => 0) (0 : Int32).toNatClampNeg (-1 : Int32)) (1 : Int32).toNatClampNeg (-1 : Int32)) (2 : Int32).toNatClampNeg (-1 : Int32)) (3 : Int32).toNatClampNeg (-1 : Int32))))), (q17, .inr (3, [.ref q10, .ref q18, .ref q21, .long 0])), (q18, .inr (0, [.ref q3, .ref q6, .int (0 : Int32), .ref q19, .ref q20, .int (0 : Int32), .int (0 : Int32)])), (q19, .inl (cA 0, (40, .inl (fun _ => 0)))), (q20, .inl (cA 0, (24, .inl (fun _ => 0)))), (q21, .inr (0, [.ref q3, .ref q6, .int (0 : Int32), .ref q22, .ref q23, .int (0 : Int32), .int (0 : Int32)])), (q22, .inl (cA 0, (40, .inl (fun _ => 0)))), (q23, .inl (cA 0, (24, .inl (fun _ => 0)))), (q24, .inr (3, [.ref q10, .ref q25, .ref q28, .long 0])), (q25, .inr (0, [.ref q3, .ref q6, .int (1 : Int32), .ref q26, .ref q27, .int (0 : Int32), .int (0 : Int32)])), (q26, .inl (cA 0, (40, .inl (fun _ => 0)))), (q27, .inl (cA 0, (24, .inl (fun _ => 0)))), (q28, .inr (0, [.ref q3, .ref q6, .int (1 : Int32), .ref q29, .ref q30, .int (0 : Int32), .int (0 : Int32)])), (q29, .inl (cA 0, (40, .inl (fun _ => 0)))), (q30, .inl (cA 0, (24, .inl (fun _ => 0)))), (q31, .inr (2, [.int (0 : Int32), .int (0 : Int32), .ref q32, .ref q33, .ref q34])), (q32, .inl (cA 1, (10, .inr (.inl (fun _ => 0))))), (q33, .inl (cA 0, (10, .inl (fun _ => 0)))), (q34, .inl (cA 2, (3280, .inl (fun _ => 0)))), (q35, .inr (1, [.ref q36, .int (0 : Int32)])), (q36, .inl (cA 2, (328, .inl (fun _ => 0)))), (q37, .inl (cA 0, (60, .inl (fun _ => 0))))]) rfl ?_
  refine n_astore_n hG (lv' := [(3, .ref q37), (2, .ref q1), (0, .ref b), (1, .int p1)]) dL_board_12 (by decide) rfl ?_
  refine n_bipush hG (v := (12 : Int32)) dL_board_13 (by decide) ?_
  refine n_arr hG (t := 0) (N := 12) (x := .inl (fun _ => 0)) (ty := .int) (k' := 38) (n' := 4608) dL_board_15 (tb1 (mem_i 9 rfl)) rfl rfl (by simp) (fun _ => rfl) (by decide) rfl (Nat.le_of_ble_eq_true rfl) ⟨Nat.le_of_ble_eq_true rfl, Nat.le_of_ble_eq_true rfl⟩ rfl rfl (fun q38 => ?_)
  refine n_eq (ws' := [(q1, .inr (7, [.ref q2, .int (0 : Int32), .ref q3, .ref q6, .ref q10, .ref q17, .ref q24, .ref q31, .ref q35])), (q2, .inl (cA 0, (5, .inl (fun _ => 0)))), (q3, .inr (5, [.int (0 : Int32), .int (0 : Int32), .ref q4, .ref q5])), (q4, .inl (cA 0, (10, .inl (fun _ => 0)))), (q5, .inl (cA 0, (50, .inl (fun _ => 0)))), (q6, .inr (4, [.int (0 : Int32), .ref q7, .ref q8, .ref q9])), (q7, .inl (cA 0, (12, .inl (fun _ => 0)))), (q8, .inl (cA 0, (12, .inl (fun _ => 0)))), (q9, .inl (cA 0, (12, .inl (fun _ => 0)))), (q10, .inr (6, [.int (0 : Int32), .ref q11, .ref q12, .ref q13, .ref q14, .ref q15, .ref q16])), (q11, .inl (cA 0, (60, .inl (fun _ => 0)))), (q12, .inl (cA 0, (60, .inl (fun _ => 0)))), (q13, .inl (cA 0, (240, .inl (fun _ => 0)))), (q14, .inl (cA 0, (60, .inl (fun _ => 0)))), (q15, .inl (cA 0, (60, .inl (fun _ => 0)))), (q16, .inl (cA 0, (4, .inl (upd (upd (upd (upd (fun _ => 0) (0 : Int32).toNatClampNeg (-1 : Int32)) (1 : Int32).toNatClampNeg (-1 : Int32)) (2 : Int32).toNatClampNeg (-1 : Int32)) (3 : Int32).toNatClampNeg (-1 : Int32))))), (q17, .inr (3, [.ref q10, .ref q18, .ref q21, .long 0])), (q18, .inr (0, [.ref q3, .ref q6, .int (0 : Int32), .ref q19, .ref q20, .int (0 : Int32), .int (0 : Int32)])), (q19, .inl (cA 0, (40, .inl (fun _ => 0)))), (q20, .inl (cA 0, (24, .inl (fun _ => 0)))), (q21, .inr (0, [.ref q3, .ref q6, .int (0 : Int32), .ref q22, .ref q23, .int (0 : Int32), .int (0 : Int32)])), (q22, .inl (cA 0, (40, .inl (fun _ => 0)))), (q23, .inl (cA 0, (24, .inl (fun _ => 0)))), (q24, .inr (3, [.ref q10, .ref q25, .ref q28, .long 0])), (q25, .inr (0, [.ref q3, .ref q6, .int (1 : Int32), .ref q26, .ref q27, .int (0 : Int32), .int (0 : Int32)])), (q26, .inl (cA 0, (40, .inl (fun _ => 0)))), (q27, .inl (cA 0, (24, .inl (fun _ => 0)))), (q28, .inr (0, [.ref q3, .ref q6, .int (1 : Int32), .ref q29, .ref q30, .int (0 : Int32), .int (0 : Int32)])), (q29, .inl (cA 0, (40, .inl (fun _ => 0)))), (q30, .inl (cA 0, (24, .inl (fun _ => 0)))), (q31, .inr (2, [.int (0 : Int32), .int (0 : Int32), .ref q32, .ref q33, .ref q34])), (q32, .inl (cA 1, (10, .inr (.inl (fun _ => 0))))), (q33, .inl (cA 0, (10, .inl (fun _ => 0)))), (q34, .inl (cA 2, (3280, .inl (fun _ => 0)))), (q35, .inr (1, [.ref q36, .int (0 : Int32)])), (q36, .inl (cA 2, (328, .inl (fun _ => 0)))), (q37, .inl (cA 0, (60, .inl (fun _ => 0)))), (q38, .inl (cA 0, (12, .inl (fun _ => 0))))]) rfl ?_
  refine n_astore hG (lv' := [(4, .ref q38), (3, .ref q37), (2, .ref q1), (0, .ref b), (1, .int p1)]) dL_board_17 (by decide) rfl ?_
  refine n_iconst hG (v := (5 : Int32)) dL_board_19 (by decide) ?_
  refine n_arr hG (t := 0) (N := 5) (x := .inl (fun _ => 0)) (ty := .int) (k' := 39) (n' := 4613) dL_board_20 (tb1 (mem_i 9 rfl)) rfl rfl (by simp) (fun _ => rfl) (by decide) rfl (Nat.le_of_ble_eq_true rfl) ⟨Nat.le_of_ble_eq_true rfl, Nat.le_of_ble_eq_true rfl⟩ rfl rfl (fun q39 => ?_)
  refine n_eq (ws' := [(q1, .inr (7, [.ref q2, .int (0 : Int32), .ref q3, .ref q6, .ref q10, .ref q17, .ref q24, .ref q31, .ref q35])), (q2, .inl (cA 0, (5, .inl (fun _ => 0)))), (q3, .inr (5, [.int (0 : Int32), .int (0 : Int32), .ref q4, .ref q5])), (q4, .inl (cA 0, (10, .inl (fun _ => 0)))), (q5, .inl (cA 0, (50, .inl (fun _ => 0)))), (q6, .inr (4, [.int (0 : Int32), .ref q7, .ref q8, .ref q9])), (q7, .inl (cA 0, (12, .inl (fun _ => 0)))), (q8, .inl (cA 0, (12, .inl (fun _ => 0)))), (q9, .inl (cA 0, (12, .inl (fun _ => 0)))), (q10, .inr (6, [.int (0 : Int32), .ref q11, .ref q12, .ref q13, .ref q14, .ref q15, .ref q16])), (q11, .inl (cA 0, (60, .inl (fun _ => 0)))), (q12, .inl (cA 0, (60, .inl (fun _ => 0)))), (q13, .inl (cA 0, (240, .inl (fun _ => 0)))), (q14, .inl (cA 0, (60, .inl (fun _ => 0)))), (q15, .inl (cA 0, (60, .inl (fun _ => 0)))), (q16, .inl (cA 0, (4, .inl (upd (upd (upd (upd (fun _ => 0) (0 : Int32).toNatClampNeg (-1 : Int32)) (1 : Int32).toNatClampNeg (-1 : Int32)) (2 : Int32).toNatClampNeg (-1 : Int32)) (3 : Int32).toNatClampNeg (-1 : Int32))))), (q17, .inr (3, [.ref q10, .ref q18, .ref q21, .long 0])), (q18, .inr (0, [.ref q3, .ref q6, .int (0 : Int32), .ref q19, .ref q20, .int (0 : Int32), .int (0 : Int32)])), (q19, .inl (cA 0, (40, .inl (fun _ => 0)))), (q20, .inl (cA 0, (24, .inl (fun _ => 0)))), (q21, .inr (0, [.ref q3, .ref q6, .int (0 : Int32), .ref q22, .ref q23, .int (0 : Int32), .int (0 : Int32)])), (q22, .inl (cA 0, (40, .inl (fun _ => 0)))), (q23, .inl (cA 0, (24, .inl (fun _ => 0)))), (q24, .inr (3, [.ref q10, .ref q25, .ref q28, .long 0])), (q25, .inr (0, [.ref q3, .ref q6, .int (1 : Int32), .ref q26, .ref q27, .int (0 : Int32), .int (0 : Int32)])), (q26, .inl (cA 0, (40, .inl (fun _ => 0)))), (q27, .inl (cA 0, (24, .inl (fun _ => 0)))), (q28, .inr (0, [.ref q3, .ref q6, .int (1 : Int32), .ref q29, .ref q30, .int (0 : Int32), .int (0 : Int32)])), (q29, .inl (cA 0, (40, .inl (fun _ => 0)))), (q30, .inl (cA 0, (24, .inl (fun _ => 0)))), (q31, .inr (2, [.int (0 : Int32), .int (0 : Int32), .ref q32, .ref q33, .ref q34])), (q32, .inl (cA 1, (10, .inr (.inl (fun _ => 0))))), (q33, .inl (cA 0, (10, .inl (fun _ => 0)))), (q34, .inl (cA 2, (3280, .inl (fun _ => 0)))), (q35, .inr (1, [.ref q36, .int (0 : Int32)])), (q36, .inl (cA 2, (328, .inl (fun _ => 0)))), (q37, .inl (cA 0, (60, .inl (fun _ => 0)))), (q38, .inl (cA 0, (12, .inl (fun _ => 0)))), (q39, .inl (cA 0, (5, .inl (fun _ => 0))))]) rfl ?_
  refine n_astore hG (lv' := [(5, .ref q39), (4, .ref q38), (3, .ref q37), (2, .ref q1), (0, .ref b), (1, .int p1)]) dL_board_22 (by decide) rfl ?_
  refine n_iconst hG (v := (4 : Int32)) dL_board_24 (by decide) ?_
  refine n_arr hG (t := 0) (N := 4) (x := .inl (fun _ => 0)) (ty := .int) (k' := 40) (n' := 4617) dL_board_25 (tb1 (mem_i 9 rfl)) rfl rfl (by simp) (fun _ => rfl) (by decide) rfl (Nat.le_of_ble_eq_true rfl) ⟨Nat.le_of_ble_eq_true rfl, Nat.le_of_ble_eq_true rfl⟩ rfl rfl (fun q40 => ?_)
  refine n_eq (ws' := [(q1, .inr (7, [.ref q2, .int (0 : Int32), .ref q3, .ref q6, .ref q10, .ref q17, .ref q24, .ref q31, .ref q35])), (q2, .inl (cA 0, (5, .inl (fun _ => 0)))), (q3, .inr (5, [.int (0 : Int32), .int (0 : Int32), .ref q4, .ref q5])), (q4, .inl (cA 0, (10, .inl (fun _ => 0)))), (q5, .inl (cA 0, (50, .inl (fun _ => 0)))), (q6, .inr (4, [.int (0 : Int32), .ref q7, .ref q8, .ref q9])), (q7, .inl (cA 0, (12, .inl (fun _ => 0)))), (q8, .inl (cA 0, (12, .inl (fun _ => 0)))), (q9, .inl (cA 0, (12, .inl (fun _ => 0)))), (q10, .inr (6, [.int (0 : Int32), .ref q11, .ref q12, .ref q13, .ref q14, .ref q15, .ref q16])), (q11, .inl (cA 0, (60, .inl (fun _ => 0)))), (q12, .inl (cA 0, (60, .inl (fun _ => 0)))), (q13, .inl (cA 0, (240, .inl (fun _ => 0)))), (q14, .inl (cA 0, (60, .inl (fun _ => 0)))), (q15, .inl (cA 0, (60, .inl (fun _ => 0)))), (q16, .inl (cA 0, (4, .inl (upd (upd (upd (upd (fun _ => 0) (0 : Int32).toNatClampNeg (-1 : Int32)) (1 : Int32).toNatClampNeg (-1 : Int32)) (2 : Int32).toNatClampNeg (-1 : Int32)) (3 : Int32).toNatClampNeg (-1 : Int32))))), (q17, .inr (3, [.ref q10, .ref q18, .ref q21, .long 0])), (q18, .inr (0, [.ref q3, .ref q6, .int (0 : Int32), .ref q19, .ref q20, .int (0 : Int32), .int (0 : Int32)])), (q19, .inl (cA 0, (40, .inl (fun _ => 0)))), (q20, .inl (cA 0, (24, .inl (fun _ => 0)))), (q21, .inr (0, [.ref q3, .ref q6, .int (0 : Int32), .ref q22, .ref q23, .int (0 : Int32), .int (0 : Int32)])), (q22, .inl (cA 0, (40, .inl (fun _ => 0)))), (q23, .inl (cA 0, (24, .inl (fun _ => 0)))), (q24, .inr (3, [.ref q10, .ref q25, .ref q28, .long 0])), (q25, .inr (0, [.ref q3, .ref q6, .int (1 : Int32), .ref q26, .ref q27, .int (0 : Int32), .int (0 : Int32)])), (q26, .inl (cA 0, (40, .inl (fun _ => 0)))), (q27, .inl (cA 0, (24, .inl (fun _ => 0)))), (q28, .inr (0, [.ref q3, .ref q6, .int (1 : Int32), .ref q29, .ref q30, .int (0 : Int32), .int (0 : Int32)])), (q29, .inl (cA 0, (40, .inl (fun _ => 0)))), (q30, .inl (cA 0, (24, .inl (fun _ => 0)))), (q31, .inr (2, [.int (0 : Int32), .int (0 : Int32), .ref q32, .ref q33, .ref q34])), (q32, .inl (cA 1, (10, .inr (.inl (fun _ => 0))))), (q33, .inl (cA 0, (10, .inl (fun _ => 0)))), (q34, .inl (cA 2, (3280, .inl (fun _ => 0)))), (q35, .inr (1, [.ref q36, .int (0 : Int32)])), (q36, .inl (cA 2, (328, .inl (fun _ => 0)))), (q37, .inl (cA 0, (60, .inl (fun _ => 0)))), (q38, .inl (cA 0, (12, .inl (fun _ => 0)))), (q39, .inl (cA 0, (5, .inl (fun _ => 0)))), (q40, .inl (cA 0, (4, .inl (fun _ => 0))))]) rfl ?_
  refine n_astore hG (lv' := [(6, .ref q40), (5, .ref q39), (4, .ref q38), (3, .ref q37), (2, .ref q1), (0, .ref b), (1, .int p1)]) dL_board_27 (by decide) rfl ?_
  refine n_bipush hG (v := (40 : Int32)) dL_board_29 (by decide) ?_
  refine n_arr hG (t := 0) (N := 40) (x := .inl (fun _ => 0)) (ty := .int) (k' := 41) (n' := 4657) dL_board_31 (tb1 (mem_i 9 rfl)) rfl rfl (by simp) (fun _ => rfl) (by decide) rfl (Nat.le_of_ble_eq_true rfl) ⟨Nat.le_of_ble_eq_true rfl, Nat.le_of_ble_eq_true rfl⟩ rfl rfl (fun q41 => ?_)
  refine n_eq (ws' := [(q1, .inr (7, [.ref q2, .int (0 : Int32), .ref q3, .ref q6, .ref q10, .ref q17, .ref q24, .ref q31, .ref q35])), (q2, .inl (cA 0, (5, .inl (fun _ => 0)))), (q3, .inr (5, [.int (0 : Int32), .int (0 : Int32), .ref q4, .ref q5])), (q4, .inl (cA 0, (10, .inl (fun _ => 0)))), (q5, .inl (cA 0, (50, .inl (fun _ => 0)))), (q6, .inr (4, [.int (0 : Int32), .ref q7, .ref q8, .ref q9])), (q7, .inl (cA 0, (12, .inl (fun _ => 0)))), (q8, .inl (cA 0, (12, .inl (fun _ => 0)))), (q9, .inl (cA 0, (12, .inl (fun _ => 0)))), (q10, .inr (6, [.int (0 : Int32), .ref q11, .ref q12, .ref q13, .ref q14, .ref q15, .ref q16])), (q11, .inl (cA 0, (60, .inl (fun _ => 0)))), (q12, .inl (cA 0, (60, .inl (fun _ => 0)))), (q13, .inl (cA 0, (240, .inl (fun _ => 0)))), (q14, .inl (cA 0, (60, .inl (fun _ => 0)))), (q15, .inl (cA 0, (60, .inl (fun _ => 0)))), (q16, .inl (cA 0, (4, .inl (upd (upd (upd (upd (fun _ => 0) (0 : Int32).toNatClampNeg (-1 : Int32)) (1 : Int32).toNatClampNeg (-1 : Int32)) (2 : Int32).toNatClampNeg (-1 : Int32)) (3 : Int32).toNatClampNeg (-1 : Int32))))), (q17, .inr (3, [.ref q10, .ref q18, .ref q21, .long 0])), (q18, .inr (0, [.ref q3, .ref q6, .int (0 : Int32), .ref q19, .ref q20, .int (0 : Int32), .int (0 : Int32)])), (q19, .inl (cA 0, (40, .inl (fun _ => 0)))), (q20, .inl (cA 0, (24, .inl (fun _ => 0)))), (q21, .inr (0, [.ref q3, .ref q6, .int (0 : Int32), .ref q22, .ref q23, .int (0 : Int32), .int (0 : Int32)])), (q22, .inl (cA 0, (40, .inl (fun _ => 0)))), (q23, .inl (cA 0, (24, .inl (fun _ => 0)))), (q24, .inr (3, [.ref q10, .ref q25, .ref q28, .long 0])), (q25, .inr (0, [.ref q3, .ref q6, .int (1 : Int32), .ref q26, .ref q27, .int (0 : Int32), .int (0 : Int32)])), (q26, .inl (cA 0, (40, .inl (fun _ => 0)))), (q27, .inl (cA 0, (24, .inl (fun _ => 0)))), (q28, .inr (0, [.ref q3, .ref q6, .int (1 : Int32), .ref q29, .ref q30, .int (0 : Int32), .int (0 : Int32)])), (q29, .inl (cA 0, (40, .inl (fun _ => 0)))), (q30, .inl (cA 0, (24, .inl (fun _ => 0)))), (q31, .inr (2, [.int (0 : Int32), .int (0 : Int32), .ref q32, .ref q33, .ref q34])), (q32, .inl (cA 1, (10, .inr (.inl (fun _ => 0))))), (q33, .inl (cA 0, (10, .inl (fun _ => 0)))), (q34, .inl (cA 2, (3280, .inl (fun _ => 0)))), (q35, .inr (1, [.ref q36, .int (0 : Int32)])), (q36, .inl (cA 2, (328, .inl (fun _ => 0)))), (q37, .inl (cA 0, (60, .inl (fun _ => 0)))), (q38, .inl (cA 0, (12, .inl (fun _ => 0)))), (q39, .inl (cA 0, (5, .inl (fun _ => 0)))), (q40, .inl (cA 0, (4, .inl (fun _ => 0)))), (q41, .inl (cA 0, (40, .inl (fun _ => 0))))]) rfl ?_
  refine n_astore hG (lv' := [(7, .ref q41), (6, .ref q40), (5, .ref q39), (4, .ref q38), (3, .ref q37), (2, .ref q1), (0, .ref b), (1, .int p1)]) dL_board_33 (by decide) rfl ?_
  refine n_iconst hG (v := (0 : Int32)) dL_board_35 (by decide) ?_
  refine n_istore hG (lv' := [(8, .int (0 : Int32)), (7, .ref q41), (6, .ref q40), (5, .ref q39), (4, .ref q38), (3, .ref q37), (2, .ref q1), (0, .ref b), (1, .int p1)]) dL_board_36 (by decide) rfl ?_
  refine n_iconst hG (v := (0 : Int32)) dL_board_38 (by decide) ?_
  refine n_istore hG (lv' := [(9, .int (0 : Int32)), (8, .int (0 : Int32)), (7, .ref q41), (6, .ref q40), (5, .ref q39), (4, .ref q38), (3, .ref q37), (2, .ref q1), (0, .ref b), (1, .int p1)]) dL_board_39 (by decide) rfl ?_
  exact hend q1 q2 q3 q4 q5 q6 q7 q8 q9 q10 q11 q12 q13 q14 q15 q16 q17 q18 q19 q20 q21 q22 q23 q24 q25 q26 q27 q28 q29 q30 q31 q32 q33 q34 q35 q36 q37 q38 q39 q40 q41

theorem dL_law_0 : decode cL_law 0 = .ok (.aload_n 0, 1) := by decide +kernel
theorem dL_law_1 : decode cL_law 1 = .ok (.iconst 0, 1) := by decide +kernel
theorem dL_law_2 : decode cL_law 2 = .ok (.invokestatic 172, 3) := by decide +kernel
theorem dL_law_5 : decode cL_law 5 = .ok (.ifCond .eq 27, 3) := by decide +kernel
theorem dL_law_8 : decode cL_law 8 = .ok (.aload_n 0, 1) := by decide +kernel
theorem dL_law_9 : decode cL_law 9 = .ok (.sipush 205, 3) := by decide +kernel
theorem dL_law_12 : decode cL_law 12 = .ok (.invokestatic 172, 3) := by decide +kernel
theorem dL_law_15 : decode cL_law 15 = .ok (.ifCond .eq 17, 3) := by decide +kernel
theorem dL_law_18 : decode cL_law 18 = .ok (.aload_n 0, 1) := by decide +kernel
theorem dL_law_19 : decode cL_law 19 = .ok (.sipush 410, 3) := by decide +kernel
theorem dL_law_22 : decode cL_law 22 = .ok (.invokestatic 172, 3) := by decide +kernel
theorem dL_law_25 : decode cL_law 25 = .ok (.ifCond .eq 7, 3) := by decide +kernel
theorem dL_law_28 : decode cL_law 28 = .ok (.iconst 1, 1) := by decide +kernel
theorem dL_law_29 : decode cL_law 29 = .ok (.goto 4, 3) := by decide +kernel
theorem dL_law_32 : decode cL_law 32 = .ok (.iconst 0, 1) := by decide +kernel
theorem dL_law_33 : decode cL_law 33 = .ok (.ireturn, 1) := by decide +kernel
theorem call_board {p : Program} {l : Launch} {e : Env} {s : State} {m : MethodId} {below : List Frame} {meth : Method} {c : Code} {b L k n pc : Nat} {xs : Nat → Int32} {Q : State → Prop} {H : Heap} {locs : List Loc} {ls : Array Slot} {D : va_G} {cA : Nat → ClassId} (hl9 : l.stackTraces = false) (hx : p.tables.exec = Jvm.exec) (hb : c.code = cL_law) (hml : c.maxLocals = 1) (hown : s.vm.findClass RL = some m.cls) (htb : ∀ w ∈ TB, w.before #[Value.ref b] s = true) (hnw : NwA s) (hK : va_K D vwCl (tyl cA) s) (hX : va_X b L xs s s.heap) (hbl : b < s.heap.size) (hz : zq0 s.heap.size s) (p1 : Int32) (out : HS × Int32) (hpure : f_L_board_b41 xs L p1 S0 0 0 = some out) (hd : decode cL_law pc = .ok (.invokestatic 172, 3)) (hkn : k + 7981 ≤ room_1.cells ∧ n + 52297 ≤ room_1.slots) (hS : va_S (fun q : Nat => s.heap.size ≤ q) s.heap H locs) (hl : ls.size = 1)
    (kk : ∀ (H1 : Heap) (locs1 : List Loc), va_S (fun q : Nat => s.heap.size ≤ q) s.heap H1 locs1 → W p l e room_1 s m #[Value.ref b] below meth c H1 locs1 (k + 7981) (n + 52297) Q (F0 m (pc + 3) ls [.int out.2])) : W p l e room_1 s m #[Value.ref b] below meth c H locs k n Q (F0 m pc ls [.int p1, .ref b]) := by
  have hM := c_board l hl9 xs L p1 out hpure D cA b H.size
  have hX2 : va_X b L xs s H := hX.kept (hS.2.1 _ hbl (Nat.not_le.mpr hbl))
  have hpre : PreS s H (va_Pc [.ref b, .int p1] (bPre D cA b xs L H.size)) [.ref b, .int p1] := ⟨bPre.blind, fun U hU hW => ⟨rfl, by rw [hU], by rw [hU]; exact va_X.moved hW.alike hX2, Nat.lt_of_lt_of_le hbl hS.1, va_K.moved hW.alike hK, hnw.warm hW, by
    unfold zq0
    rw [hU]
    exact ⟨vx_Zq.moved hW.alike (vx_Zq.narrow (vx_Zq.kept hz.1 hS.2.1) (fun q h => Nat.le_trans hS.1 h)), vx_Zq.moved hW.alike (vx_Zq.narrow (vx_Zq.kept hz.2 hS.2.1) (fun q h => Nat.le_trans hS.1 h))⟩⟩⟩
  have hr := va_runS (Ts := TB) (nL := 1) (R := room_1) (e := e) (below := below) (meth := meth) (locs := locs) (cells := k) (slots := n) (rest := []) (g := F0 m pc ls [.int p1, .ref b]) ⟨hx, hb, hml, hown, htb⟩ hM ⟨callB_of 2 htb (TB_ws (tb0 (mem_i 22 rfl))) rfl rfl rfl (htb _ (tb0 (mem_i 0 rfl))) (htb _ (tb0 (mem_i 20 rfl))) ⟨by decide +kernel, by decide +kernel, by decide +kernel⟩ ⟨Nat.le_of_ble_eq_true rfl, Nat.le_of_ble_eq_true rfl⟩, htb _ (tb0 (mem_i 21 rfl))⟩ hpre rfl rfl hl rfl (lv_room (by simp)) hd hkn
  intro T hT X
  obtain ⟨v, st₀, t, T', L9, h0, X', hL, e1, e2, ⟨hv, hz9, hk9⟩, st⟩ := hr T hT X
  cases hv
  rw [h0] at hz9 hk9
  obtain ⟨t2, a1, b1⟩ := kk T'.heap (locs ++ L9)
    ⟨Nat.le_trans hS.1 (by rw [e1]; exact hz9), fun q h1 h2 => by rw [e1, hk9 q (Nat.lt_of_lt_of_le h1 hS.1) (fun z => h2 (Nat.le_trans hS.1 z))]; exact hS.2.1 q h1 h2, fun q hq => by
      rcases List.mem_append.mp hq with h | h
      · exact hS.2.2 q h
      · exact Nat.le_trans hS.1 (hL q h)⟩ T' rfl X'
  exact ⟨t2, st t2 a1, b1⟩
set_option maxRecDepth 100000 in
set_option maxHeartbeats 4000000 in
/-- the law, once three boards come to 1 -/
theorem start_of {p : Program} {e : Env} {s : State} {m : MethodId} {below : List Frame} {meth : Method} {c : Code} (l : Launch) (hflags : l.flags = flags0) {b L : Nat} {xs : Nat → Int32} (h0 : ∃ S, f_L_board_b41 xs L 0 S0 0 0 = some (S, 1)) (h1 : ∃ S, f_L_board_b41 xs L 205 S0 0 0 = some (S, 1)) (h2 : ∃ S, f_L_board_b41 xs L 410 S0 0 0 = some (S, 1)) (C0 : lw_At p s m meth c b L xs) : W p l e room_1 s m #[Value.ref b] below meth c s.heap [] 0 0 (lw_Z below #[Value.ref b] s) (entryFrame m ([Value.ref b] : List Value).toArray 1) := by
  have hl9 : l.stackTraces = false := by unfold Launch.stackTraces; rw [hflags]; decide +kernel
  obtain ⟨hx, hb, hr, hml, hown, hts, hX, hbl, hlocks, hgv⟩ := id C0
  have htb : ∀ w ∈ TB, w.before #[Value.ref b] s = true := fun w hw => hts w (TB_lw w hw)
  have hnw := NwA_at hts hgv
  obtain ⟨D, cA, hK⟩ := K_at hts
  have hz : zq0 s.heap.size s := Zq_at hts hgv (fun a h => Nat.not_le.mpr h)
  have hl := lv_entry ([.ref b]) (n := 1) (Nat.le_of_ble_eq_true rfl)
  rw [lg_entry_eq]
  generalize (lg_sl ([.ref b]) ++ List.replicate (1 - (lg_sl ([.ref b])).length) Slot.unset).toArray = ls at hl ⊢
  have hl : lv_has ls 1 [(0, .ref b)] := hl
  obtain ⟨B0, h0⟩ := h0
  obtain ⟨B1, h1⟩ := h1
  obtain ⟨B2, h2⟩ := h2
  have hS0 : va_S (fun q : Nat => s.heap.size ≤ q) s.heap s.heap [] := va_S.rf
  refine lv_aload_n hx hb dL_law_0 rfl (lv_at hl 0 rfl) ?_
  refine lv_iconst hx hb dL_law_1 (v := 0) (by decide) ?_
  refine call_board hl9 hx hb hml hown htb hnw hK hX hbl hz 0 (B0, 1) h0 dL_law_2 ⟨Nat.le_of_ble_eq_true rfl, Nat.le_of_ble_eq_true rfl⟩ hS0 hl.1 (fun H1 locs1 hS1 => ?_)
  refine lv_if_eq hx hb dL_law_5 (tgt := 32) (by decide) (fun h => absurd h (show ¬ (1 : Int32) = 0 by decide)) (fun _ => ?_)
  refine lv_aload_n hx hb dL_law_8 rfl (lv_at hl 0 rfl) ?_
  refine lv_sipush hx hb dL_law_9 (v := 205) (by decide) ?_
  refine call_board hl9 hx hb hml hown htb hnw hK hX hbl hz 205 (B1, 1) h1 dL_law_12 ⟨Nat.le_of_ble_eq_true rfl, Nat.le_of_ble_eq_true rfl⟩ hS1 hl.1 (fun H2 locs2 hS2 => ?_)
  refine lv_if_eq hx hb dL_law_15 (tgt := 32) (by decide) (fun h => absurd h (show ¬ (1 : Int32) = 0 by decide)) (fun _ => ?_)
  refine lv_aload_n hx hb dL_law_18 rfl (lv_at hl 0 rfl) ?_
  refine lv_sipush hx hb dL_law_19 (v := 410) (by decide) ?_
  refine call_board hl9 hx hb hml hown htb hnw hK hX hbl hz 410 (B2, 1) h2 dL_law_22 ⟨Nat.le_of_ble_eq_true rfl, Nat.le_of_ble_eq_true rfl⟩ hS2 hl.1 (fun H3 locs3 hS3 => ?_)
  refine lv_if_eq hx hb dL_law_25 (tgt := 32) (by decide) (fun h => absurd h (show ¬ (1 : Int32) = 0 by decide)) (fun _ => ?_)
  refine lv_iconst hx hb dL_law_28 (v := 1) (by decide) ?_
  refine lv_goto hx hb dL_law_29 (tgt := 33) (by decide) ?_
  refine va_forget (fun q hq => hS3.2.2 q hq) ?_
  exact W.widen (Nat.le_of_ble_eq_true rfl) (Nat.le_of_ble_eq_true rfl) (lw_ret hx hb hr hlocks dL_law_33)

