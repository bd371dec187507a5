/-! the law from its entry (by wip/whole/start.py) -/
theorem nw_RL_8 : NWc RL 8 7 9 [.null, .int 0, .null, .null, .null, .null, .null, .null, .null] := ⟨RX7, TX7, tyX7, rfl, lyX7, tyX7_ok, exin (mem_i 11 (by decide +kernel)), exin (mem_i 12 (by decide +kernel)), tb0 (mem_i 1 rfl), fun j hj => by
  match j, hj with
  | 0, _ => rfl
  | 1, _ => rfl
  | 2, _ => rfl
  | 3, _ => rfl
  | 4, _ => rfl
  | 5, _ => rfl
  | 6, _ => rfl
  | 7, _ => rfl
  | 8, _ => rfl
  | j + 9, h => exact absurd h (by omega)⟩
theorem ni_RL_98 : NIc RL 98 yX7_init 0 := ⟨⟨by decide +kernel, by decide +kernel, by decide +kernel⟩, rfl, tb0 (mem_i 22 rfl), tb0 (mem_i 1 rfl), Or.inl (tb0 (mem_i 21 rfl))⟩
theorem nw_RL_99 : NWc RL 99 8 37 [.int 0, .null, .int 0, .null, .null, .null, .null, .int 0, .null, .null, .null, .null, .int 0, .null, .null, .null, .null, .null, .null, .null, .int 0, .null, .int 0, .null, .null, .int 0, .null, .int 0, .int 0, .int 0, .int 0, .null, .null, .null, .int 0, .int 0, .int 0] := ⟨RX8, TX8, tyX8, rfl, lyX8, tyX8_ok, exin (mem_i 177 (by decide +kernel)), exin (mem_i 178 (by decide +kernel)), tb0 (mem_i 9 rfl), fun j hj => by
  match j, hj with
  | 0, _ => rfl
  | 1, _ => rfl
  | 2, _ => rfl
  | 3, _ => rfl
  | 4, _ => rfl
  | 5, _ => rfl
  | 6, _ => rfl
  | 7, _ => rfl
  | 8, _ => rfl
  | 9, _ => rfl
  | 10, _ => rfl
  | 11, _ => rfl
  | 12, _ => rfl
  | 13, _ => rfl
  | 14, _ => rfl
  | 15, _ => rfl
  | 16, _ => rfl
  | 17, _ => rfl
  | 18, _ => rfl
  | 19, _ => rfl
  | 20, _ => rfl
  | 21, _ => rfl
  | 22, _ => rfl
  | 23, _ => rfl
  | 24, _ => rfl
  | 25, _ => rfl
  | 26, _ => rfl
  | 27, _ => rfl
  | 28, _ => rfl
  | 29, _ => rfl
  | 30, _ => rfl
  | 31, _ => rfl
  | 32, _ => rfl
  | 33, _ => rfl
  | 34, _ => rfl
  | 35, _ => rfl
  | 36, _ => rfl
  | j + 37, h => exact absurd h (by omega)⟩
theorem ni_RL_101 : NIc RL 101 yX8_init 0 := ⟨⟨by decide +kernel, by decide +kernel, by decide +kernel⟩, rfl, tb16 (mem_i 2 rfl), tb0 (mem_i 9 rfl), Or.inl (tb16 (mem_i 1 rfl))⟩
def S0 : HS := (fun a => if a = 15 then upd (upd (upd (upd (fun _ => 0) (0 : Int32).toNatClampNeg (-1 : Int32)) (1 : Int32).toNatClampNeg (-1 : Int32)) (2 : Int32).toNatClampNeg (-1 : Int32)) (3 : Int32).toNatClampNeg (-1 : Int32) else if a = 52 then upd (upd (upd (upd (fun _ => 0) (0 : Int32).toNatClampNeg (-1 : Int32)) (1 : Int32).toNatClampNeg (-1 : Int32)) (2 : Int32).toNatClampNeg (-1 : Int32)) (3 : Int32).toNatClampNeg (-1 : Int32) else if a = 24 then upd (fun _ => 0) 2 1 else if a = 27 then upd (fun _ => 0) 2 1 else fun _ => 0, (fun _ _ => 0, fun a k => if a = 16 then (if k = 1 then some 18 else some 21) else (if k = 1 then some 24 else some 27)))
def adl (l : List Nat) : Nat → Nat := fun k => l.getD k 0
theorem S0_m (cA : Nat → ClassId) (q1 q2 q3 q4 q5 q6 q7 q8 q9 q10 q11 q12 q13 q14 q15 q16 q17 q18 q19 q20 q21 q22 q23 q24 q25 q26 q27 q28 q29 q30 q31 q32 q33 q34 q35 q36 q37 q38 q39 q40 q41 q42 q43 q44 q45 q46 q47 q48 q49 q50 q51 q52 q53 q54 q55 q56 q57 q58 q59 q60 q61 b : Nat) : ((q37, .inr (8, [.int 0, .ref q38, .int 0, .ref q39, .ref q40, .ref q41, .ref q42, .int 0, .ref q43, .ref q44, .ref q45, .ref q46, .int 0, .ref q47, .ref q48, .ref q49, .ref q50, .ref q51, .ref q52, .ref q53, .int 0, .ref q54, .int 0, .ref q55, .ref q56, .int 0, .ref q57, .int 0, .int 0, .int 0, .int 0, .ref q58, .ref q59, .ref q60, .int 0, .int 0, .int 0])) : Nat × va_E) = (adl [q1, q2, q3, q4, q5, q6, q7, q8, q9, q10, q11, q12, q13, q14, q15, q16, q17, q24, q18, q19, q20, q21, q22, q23, q25, q26, q27, q28, q29, q30, q31, q32, q33, q34, q35, q36, q37, q38, q39, q40, q41, q42, q43, q44, q45, q46, q47, q48, q49, q50, q51, q52, q53, q54, q55, q56, q57, q58, q59, q60, q61, b] 36, eV cA (adl [q1, q2, q3, q4, q5, q6, q7, q8, q9, q10, q11, q12, q13, q14, q15, q16, q17, q24, q18, q19, q20, q21, q22, q23, q25, q26, q27, q28, q29, q30, q31, q32, q33, q34, q35, q36, q37, q38, q39, q40, q41, q42, q43, q44, q45, q46, q47, q48, q49, q50, q51, q52, q53, q54, q55, q56, q57, q58, q59, q60, q61, b]) S0 36 (.inl (8, [(0, 0), (3, 37), (0, 0), (3, 38), (3, 39), (3, 40), (3, 41), (0, 0), (3, 42), (3, 43), (3, 44), (3, 45), (0, 0), (3, 46), (3, 47), (3, 48), (3, 49), (3, 50), (3, 51), (3, 52), (0, 0), (3, 53), (0, 0), (3, 54), (3, 55), (0, 0), (3, 56), (0, 0), (0, 0), (0, 0), (0, 0), (3, 57), (3, 58), (3, 59), (0, 0), (0, 0), (0, 0)]))) := by
  unfold eV
  simp only [List.mapIdx_cons, List.mapIdx_nil]
  rfl
set_option maxHeartbeats 4000000 in
theorem S0_wld (cA : Nat → ClassId) (q1 q2 q3 q4 q5 q6 q7 q8 q9 q10 q11 q12 q13 q14 q15 q16 q17 q18 q19 q20 q21 q22 q23 q24 q25 q26 q27 q28 q29 q30 q31 q32 q33 q34 q35 q36 q37 q38 q39 q40 q41 q42 q43 q44 q45 q46 q47 q48 q49 q50 q51 q52 q53 q54 q55 q56 q57 q58 q59 q60 q61 b : Nat) : ([(q1, .inr (7, [.ref q2, .int (0 : Int32), .ref q3, .ref q6, .ref q10, .ref q17, .ref q24, .ref q31, .ref q35])), (q2, .inl (cA 0, (5, .inl (fun _ => 0)))), (q3, .inr (5, [.int (0 : Int32), .int (0 : Int32), .ref q4, .ref q5])), (q4, .inl (cA 0, (10, .inl (fun _ => 0)))), (q5, .inl (cA 0, (50, .inl (fun _ => 0)))), (q6, .inr (4, [.int (0 : Int32), .ref q7, .ref q8, .ref q9])), (q7, .inl (cA 0, (12, .inl (fun _ => 0)))), (q8, .inl (cA 0, (12, .inl (fun _ => 0)))), (q9, .inl (cA 0, (12, .inl (fun _ => 0)))), (q10, .inr (6, [.int (0 : Int32), .ref q11, .ref q12, .ref q13, .ref q14, .ref q15, .ref q16])), (q11, .inl (cA 0, (60, .inl (fun _ => 0)))), (q12, .inl (cA 0, (60, .inl (fun _ => 0)))), (q13, .inl (cA 0, (240, .inl (fun _ => 0)))), (q14, .inl (cA 0, (60, .inl (fun _ => 0)))), (q15, .inl (cA 0, (60, .inl (fun _ => 0)))), (q16, .inl (cA 0, (4, .inl (upd (upd (upd (upd (fun _ => 0) (0 : Int32).toNatClampNeg (-1 : Int32)) (1 : Int32).toNatClampNeg (-1 : Int32)) (2 : Int32).toNatClampNeg (-1 : Int32)) (3 : Int32).toNatClampNeg (-1 : Int32))))), (q17, .inr (3, [.ref q10, .ref q18, .ref q21, .long 0])), (q24, .inr (3, [.ref q10, .ref q25, .ref q28, .long 0])), (q18, .inr (0, [.ref q3, .ref q6, .int (0 : Int32), .ref q19, .ref q20, .int (0 : Int32), .int (0 : Int32)])), (q19, .inl (cA 0, (40, .inl (fun _ => 0)))), (q20, .inl (cA 0, (24, .inl (fun _ => 0)))), (q21, .inr (0, [.ref q3, .ref q6, .int (0 : Int32), .ref q22, .ref q23, .int (0 : Int32), .int (0 : Int32)])), (q22, .inl (cA 0, (40, .inl (fun _ => 0)))), (q23, .inl (cA 0, (24, .inl (fun _ => 0)))), (q25, .inr (0, [.ref q3, .ref q6, .int (1 : Int32), .ref q26, .ref q27, .int (0 : Int32), .int (0 : Int32)])), (q26, .inl (cA 0, (40, .inl (fun _ => 0)))), (q27, .inl (cA 0, (24, .inl (fun _ => 0)))), (q28, .inr (0, [.ref q3, .ref q6, .int (1 : Int32), .ref q29, .ref q30, .int (0 : Int32), .int (0 : Int32)])), (q29, .inl (cA 0, (40, .inl (fun _ => 0)))), (q30, .inl (cA 0, (24, .inl (fun _ => 0)))), (q31, .inr (2, [.int (0 : Int32), .int (0 : Int32), .ref q32, .ref q33, .ref q34])), (q32, .inl (cA 1, (10, .inr (.inl (fun _ => 0))))), (q33, .inl (cA 0, (10, .inl (fun _ => 0)))), (q34, .inl (cA 2, (3280, .inl (fun _ => 0)))), (q35, .inr (1, [.ref q36, .int (0 : Int32)])), (q36, .inl (cA 2, (328, .inl (fun _ => 0)))), (q37, .inr (8, [.int 0, .ref q38, .int 0, .ref q39, .ref q40, .ref q41, .ref q42, .int 0, .ref q43, .ref q44, .ref q45, .ref q46, .int 0, .ref q47, .ref q48, .ref q49, .ref q50, .ref q51, .ref q52, .ref q53, .int 0, .ref q54, .int 0, .ref q55, .ref q56, .int 0, .ref q57, .int 0, .int 0, .int 0, .int 0, .ref q58, .ref q59, .ref q60, .int 0, .int 0, .int 0])), (q38, .inl (cA 0, (5, .inl (fun _ => 0)))), (q39, .inl (cA 3, (10, .inl (fun _ => 0)))), (q40, .inl (cA 3, (10, .inl (fun _ => 0)))), (q41, .inl (cA 0, (10, .inl (fun _ => 0)))), (q42, .inl (cA 0, (50, .inl (fun _ => 0)))), (q43, .inl (cA 0, (12, .inl (fun _ => 0)))), (q44, .inl (cA 0, (12, .inl (fun _ => 0)))), (q45, .inl (cA 0, (12, .inl (fun _ => 0)))), (q46, .inl (cA 0, (12, .inl (fun _ => 0)))), (q47, .inl (cA 0, (60, .inl (fun _ => 0)))), (q48, .inl (cA 0, (60, .inl (fun _ => 0)))), (q49, .inl (cA 0, (60, .inl (fun _ => 0)))), (q50, .inl (cA 0, (60, .inl (fun _ => 0)))), (q51, .inl (cA 0, (240, .inl (fun _ => 0)))), (q52, .inl (cA 3, (60, .inl (fun _ => 0)))), (q53, .inl (cA 0, (4, .inl (upd (upd (upd (upd (fun _ => 0) (0 : Int32).toNatClampNeg (-1 : Int32)) (1 : Int32).toNatClampNeg (-1 : Int32)) (2 : Int32).toNatClampNeg (-1 : Int32)) (3 : Int32).toNatClampNeg (-1 : Int32))))), (q54, .inl (cA 0, (40, .inl (fun _ => 0)))), (q55, .inl (cA 0, (12, .inl (fun _ => 0)))), (q56, .inl (cA 0, (12, .inl (fun _ => 0)))), (q57, .inl (cA 0, (40, .inl (fun _ => 0)))), (q58, .inl (cA 0, (10, .inl (fun _ => 0)))), (q59, .inl (cA 0, (400, .inl (fun _ => 0)))), (q60, .inl (cA 0, (10, .inl (fun _ => 0)))), (q61, .inl (cA 1, (1, .inr (.inl (fun _ => 0)))))] : va_W) = wld cA (adl [q1, q2, q3, q4, q5, q6, q7, q8, q9, q10, q11, q12, q13, q14, q15, q16, q17, q24, q18, q19, q20, q21, q22, q23, q25, q26, q27, q28, q29, q30, q31, q32, q33, q34, q35, q36, q37, q38, q39, q40, q41, q42, q43, q44, q45, q46, q47, q48, q49, q50, q51, q52, q53, q54, q55, q56, q57, q58, q59, q60, q61, b]) S0 := by
  apply List.ext_getElem?
  intro k
  unfold wld
  rw [List.getElem?_mapIdx]
  match k with
  | 0 => rfl
  | 1 => rfl
  | 2 => rfl
  | 3 => rfl
  | 4 => rfl
  | 5 => rfl
  | 6 => rfl
  | 7 => rfl
  | 8 => rfl
  | 9 => rfl
  | 10 => rfl
  | 11 => rfl
  | 12 => rfl
  | 13 => rfl
  | 14 => rfl
  | 15 => rfl
  | 16 => rfl
  | 17 => rfl
  | 18 => rfl
  | 19 => rfl
  | 20 => rfl
  | 21 => rfl
  | 22 => rfl
  | 23 => rfl
  | 24 => rfl
  | 25 => rfl
  | 26 => rfl
  | 27 => rfl
  | 28 => rfl
  | 29 => rfl
  | 30 => rfl
  | 31 => rfl
  | 32 => rfl
  | 33 => rfl
  | 34 => rfl
  | 35 => rfl
  | 36 => exact congrArg some (S0_m cA q1 q2 q3 q4 q5 q6 q7 q8 q9 q10 q11 q12 q13 q14 q15 q16 q17 q18 q19 q20 q21 q22 q23 q24 q25 q26 q27 q28 q29 q30 q31 q32 q33 q34 q35 q36 q37 q38 q39 q40 q41 q42 q43 q44 q45 q46 q47 q48 q49 q50 q51 q52 q53 q54 q55 q56 q57 q58 q59 q60 q61 b)
  | 37 => rfl
  | 38 => rfl
  | 39 => rfl
  | 40 => rfl
  | 41 => rfl
  | 42 => rfl
  | 43 => rfl
  | 44 => rfl
  | 45 => rfl
  | 46 => rfl
  | 47 => rfl
  | 48 => rfl
  | 49 => rfl
  | 50 => rfl
  | 51 => rfl
  | 52 => rfl
  | 53 => rfl
  | 54 => rfl
  | 55 => rfl
  | 56 => rfl
  | 57 => rfl
  | 58 => rfl
  | 59 => rfl
  | 60 => rfl
  | k + 61 => rfl

set_option maxRecDepth 100000 in
set_option maxHeartbeats 40000000 in
/-- the law, once its loop's function is known to come to 1 -/
theorem start_of {p : Program} {e : Env} {s : State} {m : MethodId} {below : List Frame} {meth : Method} {c : Code} (l : Launch) (hflags : l.flags = flags0) {b L : Nat} {xs : Nat → Int32} (hpure : fx (F_law xs L) 600 (S0, 0) = some 1) (C0 : lw_At p s m meth c b L xs) : W p l e room_1 s m #[Value.ref b] below meth c s.heap [] 0 0 (lw_Z below #[Value.ref b] s) (entryFrame m ([Value.ref b] : List Value).toArray 7) := by
  have hl9 : l.stackTraces = false := by unfold Launch.stackTraces; rw [hflags]; decide +kernel
  obtain ⟨hx, hb, hr, hml, hown, hts, hX, hbl, hlocks, hgv⟩ := id C0
  have htb : ∀ w ∈ TB, w.before #[Value.ref b] s = true := fun w hw => hts w (TB_lw w hw)
  have hnw := NwA_at hts hgv
  obtain ⟨D, cA, hK⟩ := K_at hts
  have hl := lv_entry ([.ref b]) (n := 7) (Nat.le_of_ble_eq_true rfl)
  rw [lg_entry_eq]
  generalize (lg_sl ([.ref b]) ++ List.replicate (7 - (lg_sl ([.ref b])).length) Slot.unset).toArray = ls at hl ⊢
  have hl : lv_has ls 7 [(0, .ref b)] := hl
  have hP : va_P D vwCl [] s.heap := fun k q h => by simp at h
  have hD : va_D (fun q : Nat => s.heap.size ≤ q) [] := ⟨fun i j p q h => by simp at h, fun k q h => by simp at h⟩
  suffices key : ∀ G, OKN l cL_law RL 7 room_1 D cA (fun q => s.heap.size ≤ q) False G → (∀ (q1 q2 q3 q4 q5 q6 q7 q8 q9 q10 q11 q12 q13 q14 q15 q16 q17 q18 q19 q20 q21 q22 q23 q24 q25 q26 q27 q28 q29 q30 q31 q32 q33 q34 q35 q36 q37 q38 q39 q40 q41 q42 q43 q44 q45 q46 q47 q48 q49 q50 q51 q52 q53 q54 q55 q56 q57 q58 q59 q60 q61 : Nat) (lv : List (Nat × Value)), G 61 5775 [(q1, .inr (7, [.ref q2, .int (0 : Int32), .ref q3, .ref q6, .ref q10, .ref q17, .ref q24, .ref q31, .ref q35])), (q2, .inl (cA 0, (5, .inl (fun _ => 0)))), (q3, .inr (5, [.int (0 : Int32), .int (0 : Int32), .ref q4, .ref q5])), (q4, .inl (cA 0, (10, .inl (fun _ => 0)))), (q5, .inl (cA 0, (50, .inl (fun _ => 0)))), (q6, .inr (4, [.int (0 : Int32), .ref q7, .ref q8, .ref q9])), (q7, .inl (cA 0, (12, .inl (fun _ => 0)))), (q8, .inl (cA 0, (12, .inl (fun _ => 0)))), (q9, .inl (cA 0, (12, .inl (fun _ => 0)))), (q10, .inr (6, [.int (0 : Int32), .ref q11, .ref q12, .ref q13, .ref q14, .ref q15, .ref q16])), (q11, .inl (cA 0, (60, .inl (fun _ => 0)))), (q12, .inl (cA 0, (60, .inl (fun _ => 0)))), (q13, .inl (cA 0, (240, .inl (fun _ => 0)))), (q14, .inl (cA 0, (60, .inl (fun _ => 0)))), (q15, .inl (cA 0, (60, .inl (fun _ => 0)))), (q16, .inl (cA 0, (4, .inl (upd (upd (upd (upd (fun _ => 0) (0 : Int32).toNatClampNeg (-1 : Int32)) (1 : Int32).toNatClampNeg (-1 : Int32)) (2 : Int32).toNatClampNeg (-1 : Int32)) (3 : Int32).toNatClampNeg (-1 : Int32))))), (q17, .inr (3, [.ref q10, .ref q18, .ref q21, .long 0])), (q18, .inr (0, [.ref q3, .ref q6, .int (0 : Int32), .ref q19, .ref q20, .int (0 : Int32), .int (0 : Int32)])), (q19, .inl (cA 0, (40, .inl (fun _ => 0)))), (q20, .inl (cA 0, (24, .inl (fun _ => 0)))), (q21, .inr (0, [.ref q3, .ref q6, .int (0 : Int32), .ref q22, .ref q23, .int (0 : Int32), .int (0 : Int32)])), (q22, .inl (cA 0, (40, .inl (fun _ => 0)))), (q23, .inl (cA 0, (24, .inl (fun _ => 0)))), (q24, .inr (3, [.ref q10, .ref q25, .ref q28, .long 0])), (q25, .inr (0, [.ref q3, .ref q6, .int (1 : Int32), .ref q26, .ref q27, .int (0 : Int32), .int (0 : Int32)])), (q26, .inl (cA 0, (40, .inl (fun _ => 0)))), (q27, .inl (cA 0, (24, .inl (fun _ => 0)))), (q28, .inr (0, [.ref q3, .ref q6, .int (1 : Int32), .ref q29, .ref q30, .int (0 : Int32), .int (0 : Int32)])), (q29, .inl (cA 0, (40, .inl (fun _ => 0)))), (q30, .inl (cA 0, (24, .inl (fun _ => 0)))), (q31, .inr (2, [.int (0 : Int32), .int (0 : Int32), .ref q32, .ref q33, .ref q34])), (q32, .inl (cA 1, (10, .inr (.inl (fun _ => 0))))), (q33, .inl (cA 0, (10, .inl (fun _ => 0)))), (q34, .inl (cA 2, (3280, .inl (fun _ => 0)))), (q35, .inr (1, [.ref q36, .int (0 : Int32)])), (q36, .inl (cA 2, (328, .inl (fun _ => 0)))), (q37, .inr (8, [.int 0, .ref q38, .int 0, .ref q39, .ref q40, .ref q41, .ref q42, .int 0, .ref q43, .ref q44, .ref q45, .ref q46, .int 0, .ref q47, .ref q48, .ref q49, .ref q50, .ref q51, .ref q52, .ref q53, .int 0, .ref q54, .int 0, .ref q55, .ref q56, .int 0, .ref q57, .int 0, .int 0, .int 0, .int 0, .ref q58, .ref q59, .ref q60, .int 0, .int 0, .int 0])), (q38, .inl (cA 0, (5, .inl (fun _ => 0)))), (q39, .inl (cA 3, (10, .inl (fun _ => 0)))), (q40, .inl (cA 3, (10, .inl (fun _ => 0)))), (q41, .inl (cA 0, (10, .inl (fun _ => 0)))), (q42, .inl (cA 0, (50, .inl (fun _ => 0)))), (q43, .inl (cA 0, (12, .inl (fun _ => 0)))), (q44, .inl (cA 0, (12, .inl (fun _ => 0)))), (q45, .inl (cA 0, (12, .inl (fun _ => 0)))), (q46, .inl (cA 0, (12, .inl (fun _ => 0)))), (q47, .inl (cA 0, (60, .inl (fun _ => 0)))), (q48, .inl (cA 0, (60, .inl (fun _ => 0)))), (q49, .inl (cA 0, (60, .inl (fun _ => 0)))), (q50, .inl (cA 0, (60, .inl (fun _ => 0)))), (q51, .inl (cA 0, (240, .inl (fun _ => 0)))), (q52, .inl (cA 3, (60, .inl (fun _ => 0)))), (q53, .inl (cA 0, (4, .inl (upd (upd (upd (upd (fun _ => 0) (0 : Int32).toNatClampNeg (-1 : Int32)) (1 : Int32).toNatClampNeg (-1 : Int32)) (2 : Int32).toNatClampNeg (-1 : Int32)) (3 : Int32).toNatClampNeg (-1 : Int32))))), (q54, .inl (cA 0, (40, .inl (fun _ => 0)))), (q55, .inl (cA 0, (12, .inl (fun _ => 0)))), (q56, .inl (cA 0, (12, .inl (fun _ => 0)))), (q57, .inl (cA 0, (40, .inl (fun _ => 0)))), (q58, .inl (cA 0, (10, .inl (fun _ => 0)))), (q59, .inl (cA 0, (400, .inl (fun _ => 0)))), (q60, .inl (cA 0, (10, .inl (fun _ => 0)))), (q61, .inl (cA 1, (1, .inr (.inl (fun _ => 0)))))] [(4, .int 0), (3, .ref q61), (2, .ref q37), (1, .ref q1), (0, .ref b)] 23 []) → G 0 0 [] [(0, .ref b)] 0 [] by
    refine key _ ⟨p, e, s, m, #[Value.ref b], below, meth, c, lw_Z below #[Value.ref b] s, hx, hb, hml, hown, htb, hnw, hK, fun q h => h, fun h => h.elim, rfl⟩ ?_ s.heap [] ls hP hD va_S.rf hl
    intro q1 q2 q3 q4 q5 q6 q7 q8 q9 q10 q11 q12 q13 q14 q15 q16 q17 q18 q19 q20 q21 q22 q23 q24 q25 q26 q27 q28 q29 q30 q31 q32 q33 q34 q35 q36 q37 q38 q39 q40 q41 q42 q43 q44 q45 q46 q47 q48 q49 q50 q51 q52 q53 q54 q55 q56 q57 q58 q59 q60 q61 lv H locs ls hP hD hS hl
    have hP2 : va_P D vwCl (wld cA (adl [q1, q2, q3, q4, q5, q6, q7, q8, q9, q10, q11, q12, q13, q14, q15, q16, q17, q24, q18, q19, q20, q21, q22, q23, q25, q26, q27, q28, q29, q30, q31, q32, q33, q34, q35, q36, q37, q38, q39, q40, q41, q42, q43, q44, q45, q46, q47, q48, q49, q50, q51, q52, q53, q54, q55, q56, q57, q58, q59, q60, q61, b]) S0) H := by
      rw [← S0_wld]
      exact hP.sub [0, 1, 2, 3, 4, 5, 6, 7, 8, 9, 10, 11, 12, 13, 14, 15, 16, 23, 17, 18, 19, 20, 21, 22, 24, 25, 26, 27, 28, 29, 30, 31, 32, 33, 34, 35, 36, 37, 38, 39, 40, 41, 42, 43, 44, 45, 46, 47, 48, 49, 50, 51, 52, 53, 54, 55, 56, 57, 58, 59, 60] rfl
    have hD2 : va_D (fun q : Nat => s.heap.size ≤ q) (wld cA (adl [q1, q2, q3, q4, q5, q6, q7, q8, q9, q10, q11, q12, q13, q14, q15, q16, q17, q24, q18, q19, q20, q21, q22, q23, q25, q26, q27, q28, q29, q30, q31, q32, q33, q34, q35, q36, q37, q38, q39, q40, q41, q42, q43, q44, q45, q46, q47, q48, q49, q50, q51, q52, q53, q54, q55, q56, q57, q58, q59, q60, q61, b]) S0) := by
      rw [← S0_wld]
      exact hD.sub [0, 1, 2, 3, 4, 5, 6, 7, 8, 9, 10, 11, 12, 13, 14, 15, 16, 23, 17, 18, 19, 20, 21, 22, 24, 25, 26, 27, 28, 29, 30, 31, 32, 33, 34, 35, 36, 37, 38, 39, 40, 41, 42, 43, 44, 45, 46, 47, 48, 49, 50, 51, 52, 53, 54, 55, 56, 57, 58, 59, 60] (by decide +kernel) rfl
    generalize had : adl [q1, q2, q3, q4, q5, q6, q7, q8, q9, q10, q11, q12, q13, q14, q15, q16, q17, q24, q18, q19, q20, q21, q22, q23, q25, q26, q27, q28, q29, q30, q31, q32, q33, q34, q35, q36, q37, q38, q39, q40, q41, q42, q43, q44, q45, q46, q47, q48, q49, q50, q51, q52, q53, q54, q55, q56, q57, q58, q59, q60, q61, b] = ad at hP2 hD2
    have hb61 : ad 61 = b := by rw [← had]; rfl
    have hge : ∀ k, k < nH → s.heap.size ≤ ad k := by
      intro k hk
      have hk2 : k < shp.length := hk
      exact hD2.2 k _ (wld_at (List.getElem?_eq_getElem hk2))
    have hj : Inj ad := by
      intro i j hi hj9 e9
      have hi2 : i < shp.length := hi
      have hj2 : j < shp.length := hj9
      exact hD2.1 i j _ _ (wld_at (List.getElem?_eq_getElem hi2)) (wld_at (List.getElem?_eq_getElem hj2)) e9
    have hnA : ∀ a : Nat, a < s.heap.size → ¬ fA ad s.heap.size a := by
      rintro a ha (⟨k, hk, rfl⟩ | h)
      · exact absurd (hge k hk) (Nat.not_le.mpr ha)
      · exact absurd h (Nat.not_le.mpr ha)
    have hzw : ZW ad s.heap.size s := Zq_at hts hgv hnA
    have hS2 : va_S (fA ad s.heap.size) s.heap H locs := ⟨hS.1, fun q h1 h2 => hS.2.1 q h1 (fun h => h2 (Or.inr h)), fun q hq => Or.inr (hS.2.2 q hq)⟩
    have hGL : OKL l cL_law RL 7 room_1 (Go p l e room_1 s m #[Value.ref b] below meth c D.1 D.2 cA ad 7 (lw_Z below #[Value.ref b] s)) xs L :=
      ⟨p, e, s, m, #[Value.ref b], below, meth, c, D.1, D.2, cA, ad, lw_Z below #[Value.ref b] s, hx, hb, hml, hown, htb, hnw, hK, hj, hzw, by rw [hb61]; exact hX, by rw [hb61]; exact hbl, hnA _ (by rw [hb61]; exact hbl), rfl⟩
    have hfin : ∀ k n S lv pc, k ≤ 1108 → n ≤ 14105 → decode cL_law pc = .ok (.ireturn, 1) → Go p l e room_1 s m #[Value.ref b] below meth c D.1 D.2 cA ad 7 (lw_Z below #[Value.ref b] s) k n S lv pc [vI 1] := by
      intro k n S lv pc h1 h2 hd H locs ls hP hS hl
      refine va_forget (fun q hq => ?_) ?_
      · rcases hS.2.2 q hq with ⟨k9, hk9, h9⟩ | h9
        · rw [h9]; exact hge k9 hk9
        · exact h9
      · exact W.widen h1 h2 (lw_ret hx hb hr hlocks hd)
    have h9 := c_law l hl9 xs L hGL hfin 600 61 5775 S0 0 (by decide) (by decide) hpure
    refine h9 H locs ls hP2 hS2 ?_
    have h0 : gL ad [(0, vR 61), (1, vR 0), (2, vR 36), (3, vR 60), (4, vI 0)] = [(0, .ref b), (1, .ref q1), (2, .ref q37), (3, .ref q61), (4, .int 0)] := by rw [← had]; rfl
    rw [h0]
    exact lv_sub hl [4, 3, 2, 1, 0] rfl
  intro G hG hend
  refine n_new hG (k' := 1) (n' := 9) dL_law_0 nw_RL_8 ⟨by decide, by decide⟩ rfl rfl (fun q1 => ?_)
  refine n_eq (ws' := [(q1, .inr (7, [.null, .int 0, .null, .null, .null, .null, .null, .null, .null]))]) rfl ?_
  refine n_dup hG dL_law_3 rfl ?_
  refine n_init hG (as := []) (st := [.ref q1]) (wr := []) (e0 := .inr (7, [.null, .int 0, .null, .null, .null, .null, .null, .null, .null])) (rm := rm_X7_init) (k' := 36) (n' := 4536) dL_law_4 ni_RL_98 (tb0 (mem_i 23 rfl)) rfl ⟨by decide, by decide⟩ (Nat.le_of_ble_eq_true rfl) ⟨by decide, by decide⟩ rfl rfl rfl rfl (c_X7_init l D cA q1) (fun w1 hw1 => ?_)
  obtain ⟨q2, q3, q4, q5, q6, q7, q8, q9, q10, q11, q12, q13, q14, q15, q16, q17, q18, q19, q20, q21, q22, q23, q24, q25, q26, q27, q28, q29, q30, q31, q32, q33, q34, q35, q36, rfl⟩ := hw1
  refine n_eq (ws' := [(q1, .inr (7, [.ref q2, .int (0 : Int32), .ref q3, .ref q6, .ref q10, .ref q17, .ref q24, .ref q31, .ref q35])), (q2, .inl (cA 0, (5, .inl (fun _ => 0)))), (q3, .inr (5, [.int (0 : Int32), .int (0 : Int32), .ref q4, .ref q5])), (q4, .inl (cA 0, (10, .inl (fun _ => 0)))), (q5, .inl (cA 0, (50, .inl (fun _ => 0)))), (q6, .inr (4, [.int (0 : Int32), .ref q7, .ref q8, .ref q9])), (q7, .inl (cA 0, (12, .inl (fun _ => 0)))), (q8, .inl (cA 0, (12, .inl (fun _ => 0)))), (q9, .inl (cA 0, (12, .inl (fun _ => 0)))), (q10, .inr (6, [.int (0 : Int32), .ref q11, .ref q12, .ref q13, .ref q14, .ref q15, .ref q16])), (q11, .inl (cA 0, (60, .inl (fun _ => 0)))), (q12, .inl (cA 0, (60, .inl (fun _ => 0)))), (q13, .inl (cA 0, (240, .inl (fun _ => 0)))), (q14, .inl (cA 0, (60, .inl (fun _ => 0)))), (q15, .inl (cA 0, (60, .inl (fun _ => 0)))), (q16, .inl (cA 0, (4, .inl (upd (upd (upd (upd (fun _ => 0) (0 : Int32).toNatClampNeg (-1 : Int32)) (1 : Int32).toNatClampNeg (-1 : Int32)) (2 : Int32).toNatClampNeg (-1 : Int32)) (3 : Int32).toNatClampNeg (-1 : Int32))))), (q17, .inr (3, [.ref q10, .ref q18, .ref q21, .long 0])), (q18, .inr (0, [.ref q3, .ref q6, .int (0 : Int32), .ref q19, .ref q20, .int (0 : Int32), .int (0 : Int32)])), (q19, .inl (cA 0, (40, .inl (fun _ => 0)))), (q20, .inl (cA 0, (24, .inl (fun _ => 0)))), (q21, .inr (0, [.ref q3, .ref q6, .int (0 : Int32), .ref q22, .ref q23, .int (0 : Int32), .int (0 : Int32)])), (q22, .inl (cA 0, (40, .inl (fun _ => 0)))), (q23, .inl (cA 0, (24, .inl (fun _ => 0)))), (q24, .inr (3, [.ref q10, .ref q25, .ref q28, .long 0])), (q25, .inr (0, [.ref q3, .ref q6, .int (1 : Int32), .ref q26, .ref q27, .int (0 : Int32), .int (0 : Int32)])), (q26, .inl (cA 0, (40, .inl (fun _ => 0)))), (q27, .inl (cA 0, (24, .inl (fun _ => 0)))), (q28, .inr (0, [.ref q3, .ref q6, .int (1 : Int32), .ref q29, .ref q30, .int (0 : Int32), .int (0 : Int32)])), (q29, .inl (cA 0, (40, .inl (fun _ => 0)))), (q30, .inl (cA 0, (24, .inl (fun _ => 0)))), (q31, .inr (2, [.int (0 : Int32), .int (0 : Int32), .ref q32, .ref q33, .ref q34])), (q32, .inl (cA 1, (10, .inr (.inl (fun _ => 0))))), (q33, .inl (cA 0, (10, .inl (fun _ => 0)))), (q34, .inl (cA 2, (3280, .inl (fun _ => 0)))), (q35, .inr (1, [.ref q36, .int (0 : Int32)])), (q36, .inl (cA 2, (328, .inl (fun _ => 0))))]) rfl ?_
  refine n_astore_n hG (lv' := [(1, .ref q1), (0, .ref b)]) dL_law_7 (by decide) rfl ?_
  refine n_new hG (k' := 37) (n' := 4573) dL_law_8 nw_RL_99 ⟨by decide, by decide⟩ rfl rfl (fun q37 => ?_)
  refine n_eq (ws' := [(q1, .inr (7, [.ref q2, .int (0 : Int32), .ref q3, .ref q6, .ref q10, .ref q17, .ref q24, .ref q31, .ref q35])), (q2, .inl (cA 0, (5, .inl (fun _ => 0)))), (q3, .inr (5, [.int (0 : Int32), .int (0 : Int32), .ref q4, .ref q5])), (q4, .inl (cA 0, (10, .inl (fun _ => 0)))), (q5, .inl (cA 0, (50, .inl (fun _ => 0)))), (q6, .inr (4, [.int (0 : Int32), .ref q7, .ref q8, .ref q9])), (q7, .inl (cA 0, (12, .inl (fun _ => 0)))), (q8, .inl (cA 0, (12, .inl (fun _ => 0)))), (q9, .inl (cA 0, (12, .inl (fun _ => 0)))), (q10, .inr (6, [.int (0 : Int32), .ref q11, .ref q12, .ref q13, .ref q14, .ref q15, .ref q16])), (q11, .inl (cA 0, (60, .inl (fun _ => 0)))), (q12, .inl (cA 0, (60, .inl (fun _ => 0)))), (q13, .inl (cA 0, (240, .inl (fun _ => 0)))), (q14, .inl (cA 0, (60, .inl (fun _ => 0)))), (q15, .inl (cA 0, (60, .inl (fun _ => 0)))), (q16, .inl (cA 0, (4, .inl (upd (upd (upd (upd (fun _ => 0) (0 : Int32).toNatClampNeg (-1 : Int32)) (1 : Int32).toNatClampNeg (-1 : Int32)) (2 : Int32).toNatClampNeg (-1 : Int32)) (3 : Int32).toNatClampNeg (-1 : Int32))))), (q17, .inr (3, [.ref q10, .ref q18, .ref q21, .long 0])), (q18, .inr (0, [.ref q3, .ref q6, .int (0 : Int32), .ref q19, .ref q20, .int (0 : Int32), .int (0 : Int32)])), (q19, .inl (cA 0, (40, .inl (fun _ => 0)))), (q20, .inl (cA 0, (24, .inl (fun _ => 0)))), (q21, .inr (0, [.ref q3, .ref q6, .int (0 : Int32), .ref q22, .ref q23, .int (0 : Int32), .int (0 : Int32)])), (q22, .inl (cA 0, (40, .inl (fun _ => 0)))), (q23, .inl (cA 0, (24, .inl (fun _ => 0)))), (q24, .inr (3, [.ref q10, .ref q25, .ref q28, .long 0])), (q25, .inr (0, [.ref q3, .ref q6, .int (1 : Int32), .ref q26, .ref q27, .int (0 : Int32), .int (0 : Int32)])), (q26, .inl (cA 0, (40, .inl (fun _ => 0)))), (q27, .inl (cA 0, (24, .inl (fun _ => 0)))), (q28, .inr (0, [.ref q3, .ref q6, .int (1 : Int32), .ref q29, .ref q30, .int (0 : Int32), .int (0 : Int32)])), (q29, .inl (cA 0, (40, .inl (fun _ => 0)))), (q30, .inl (cA 0, (24, .inl (fun _ => 0)))), (q31, .inr (2, [.int (0 : Int32), .int (0 : Int32), .ref q32, .ref q33, .ref q34])), (q32, .inl (cA 1, (10, .inr (.inl (fun _ => 0))))), (q33, .inl (cA 0, (10, .inl (fun _ => 0)))), (q34, .inl (cA 2, (3280, .inl (fun _ => 0)))), (q35, .inr (1, [.ref q36, .int (0 : Int32)])), (q36, .inl (cA 2, (328, .inl (fun _ => 0)))), (q37, .inr (8, [.int 0, .null, .int 0, .null, .null, .null, .null, .int 0, .null, .null, .null, .null, .int 0, .null, .null, .null, .null, .null, .null, .null, .int 0, .null, .int 0, .null, .null, .int 0, .null, .int 0, .int 0, .int 0, .int 0, .null, .null, .null, .int 0, .int 0, .int 0]))]) rfl ?_
  refine n_dup hG dL_law_11 rfl ?_
  refine n_init hG (as := []) (st := [.ref q37]) (wr := [(q1, .inr (7, [.ref q2, .int (0 : Int32), .ref q3, .ref q6, .ref q10, .ref q17, .ref q24, .ref q31, .ref q35])), (q2, .inl (cA 0, (5, .inl (fun _ => 0)))), (q3, .inr (5, [.int (0 : Int32), .int (0 : Int32), .ref q4, .ref q5])), (q4, .inl (cA 0, (10, .inl (fun _ => 0)))), (q5, .inl (cA 0, (50, .inl (fun _ => 0)))), (q6, .inr (4, [.int (0 : Int32), .ref q7, .ref q8, .ref q9])), (q7, .inl (cA 0, (12, .inl (fun _ => 0)))), (q8, .inl (cA 0, (12, .inl (fun _ => 0)))), (q9, .inl (cA 0, (12, .inl (fun _ => 0)))), (q10, .inr (6, [.int (0 : Int32), .ref q11, .ref q12, .ref q13, .ref q14, .ref q15, .ref q16])), (q11, .inl (cA 0, (60, .inl (fun _ => 0)))), (q12, .inl (cA 0, (60, .inl (fun _ => 0)))), (q13, .inl (cA 0, (240, .inl (fun _ => 0)))), (q14, .inl (cA 0, (60, .inl (fun _ => 0)))), (q15, .inl (cA 0, (60, .inl (fun _ => 0)))), (q16, .inl (cA 0, (4, .inl (upd (upd (upd (upd (fun _ => 0) (0 : Int32).toNatClampNeg (-1 : Int32)) (1 : Int32).toNatClampNeg (-1 : Int32)) (2 : Int32).toNatClampNeg (-1 : Int32)) (3 : Int32).toNatClampNeg (-1 : Int32))))), (q17, .inr (3, [.ref q10, .ref q18, .ref q21, .long 0])), (q18, .inr (0, [.ref q3, .ref q6, .int (0 : Int32), .ref q19, .ref q20, .int (0 : Int32), .int (0 : Int32)])), (q19, .inl (cA 0, (40, .inl (fun _ => 0)))), (q20, .inl (cA 0, (24, .inl (fun _ => 0)))), (q21, .inr (0, [.ref q3, .ref q6, .int (0 : Int32), .ref q22, .ref q23, .int (0 : Int32), .int (0 : Int32)])), (q22, .inl (cA 0, (40, .inl (fun _ => 0)))), (q23, .inl (cA 0, (24, .inl (fun _ => 0)))), (q24, .inr (3, [.ref q10, .ref q25, .ref q28, .long 0])), (q25, .inr (0, [.ref q3, .ref q6, .int (1 : Int32), .ref q26, .ref q27, .int (0 : Int32), .int (0 : Int32)])), (q26, .inl (cA 0, (40, .inl (fun _ => 0)))), (q27, .inl (cA 0, (24, .inl (fun _ => 0)))), (q28, .inr (0, [.ref q3, .ref q6, .int (1 : Int32), .ref q29, .ref q30, .int (0 : Int32), .int (0 : Int32)])), (q29, .inl (cA 0, (40, .inl (fun _ => 0)))), (q30, .inl (cA 0, (24, .inl (fun _ => 0)))), (q31, .inr (2, [.int (0 : Int32), .int (0 : Int32), .ref q32, .ref q33, .ref q34])), (q32, .inl (cA 1, (10, .inr (.inl (fun _ => 0))))), (q33, .inl (cA 0, (10, .inl (fun _ => 0)))), (q34, .inl (cA 2, (3280, .inl (fun _ => 0)))), (q35, .inr (1, [.ref q36, .int (0 : Int32)])), (q36, .inl (cA 2, (328, .inl (fun _ => 0))))]) (e0 := .inr (8, [.int 0, .null, .int 0, .null, .null, .null, .null, .int 0, .null, .null, .null, .null, .int 0, .null, .null, .null, .null, .null, .null, .null, .int 0, .null, .int 0, .null, .null, .int 0, .null, .int 0, .int 0, .int 0, .int 0, .null, .null, .null, .int 0, .int 0, .int 0])) (rm := rm_X8_init) (k' := 60) (n' := 5774) dL_law_12 ni_RL_101 (tb16 (mem_i 3 rfl)) rfl ⟨by decide, by decide⟩ (Nat.le_of_ble_eq_true rfl) ⟨by decide, by decide⟩ rfl rfl rfl rfl (c_X8_init l D cA q37) (fun w1 hw1 => ?_)
  obtain ⟨q38, q39, q40, q41, q42, q43, q44, q45, q46, q47, q48, q49, q50, q51, q52, q53, q54, q55, q56, q57, q58, q59, q60, rfl⟩ := hw1
  refine n_eq (ws' := [(q1, .inr (7, [.ref q2, .int (0 : Int32), .ref q3, .ref q6, .ref q10, .ref q17, .ref q24, .ref q31, .ref q35])), (q2, .inl (cA 0, (5, .inl (fun _ => 0)))), (q3, .inr (5, [.int (0 : Int32), .int (0 : Int32), .ref q4, .ref q5])), (q4, .inl (cA 0, (10, .inl (fun _ => 0)))), (q5, .inl (cA 0, (50, .inl (fun _ => 0)))), (q6, .inr (4, [.int (0 : Int32), .ref q7, .ref q8, .ref q9])), (q7, .inl (cA 0, (12, .inl (fun _ => 0)))), (q8, .inl (cA 0, (12, .inl (fun _ => 0)))), (q9, .inl (cA 0, (12, .inl (fun _ => 0)))), (q10, .inr (6, [.int (0 : Int32), .ref q11, .ref q12, .ref q13, .ref q14, .ref q15, .ref q16])), (q11, .inl (cA 0, (60, .inl (fun _ => 0)))), (q12, .inl (cA 0, (60, .inl (fun _ => 0)))), (q13, .inl (cA 0, (240, .inl (fun _ => 0)))), (q14, .inl (cA 0, (60, .inl (fun _ => 0)))), (q15, .inl (cA 0, (60, .inl (fun _ => 0)))), (q16, .inl (cA 0, (4, .inl (upd (upd (upd (upd (fun _ => 0) (0 : Int32).toNatClampNeg (-1 : Int32)) (1 : Int32).toNatClampNeg (-1 : Int32)) (2 : Int32).toNatClampNeg (-1 : Int32)) (3 : Int32).toNatClampNeg (-1 : Int32))))), (q17, .inr (3, [.ref q10, .ref q18, .ref q21, .long 0])), (q18, .inr (0, [.ref q3, .ref q6, .int (0 : Int32), .ref q19, .ref q20, .int (0 : Int32), .int (0 : Int32)])), (q19, .inl (cA 0, (40, .inl (fun _ => 0)))), (q20, .inl (cA 0, (24, .inl (fun _ => 0)))), (q21, .inr (0, [.ref q3, .ref q6, .int (0 : Int32), .ref q22, .ref q23, .int (0 : Int32), .int (0 : Int32)])), (q22, .inl (cA 0, (40, .inl (fun _ => 0)))), (q23, .inl (cA 0, (24, .inl (fun _ => 0)))), (q24, .inr (3, [.ref q10, .ref q25, .ref q28, .long 0])), (q25, .inr (0, [.ref q3, .ref q6, .int (1 : Int32), .ref q26, .ref q27, .int (0 : Int32), .int (0 : Int32)])), (q26, .inl (cA 0, (40, .inl (fun _ => 0)))), (q27, .inl (cA 0, (24, .inl (fun _ => 0)))), (q28, .inr (0, [.ref q3, .ref q6, .int (1 : Int32), .ref q29, .ref q30, .int (0 : Int32), .int (0 : Int32)])), (q29, .inl (cA 0, (40, .inl (fun _ => 0)))), (q30, .inl (cA 0, (24, .inl (fun _ => 0)))), (q31, .inr (2, [.int (0 : Int32), .int (0 : Int32), .ref q32, .ref q33, .ref q34])), (q32, .inl (cA 1, (10, .inr (.inl (fun _ => 0))))), (q33, .inl (cA 0, (10, .inl (fun _ => 0)))), (q34, .inl (cA 2, (3280, .inl (fun _ => 0)))), (q35, .inr (1, [.ref q36, .int (0 : Int32)])), (q36, .inl (cA 2, (328, .inl (fun _ => 0)))), (q37, .inr (8, [.int 0, .ref q38, .int 0, .ref q39, .ref q40, .ref q41, .ref q42, .int 0, .ref q43, .ref q44, .ref q45, .ref q46, .int 0, .ref q47, .ref q48, .ref q49, .ref q50, .ref q51, .ref q52, .ref q53, .int 0, .ref q54, .int 0, .ref q55, .ref q56, .int 0, .ref q57, .int 0, .int 0, .int 0, .int 0, .ref q58, .ref q59, .ref q60, .int 0, .int 0, .int 0])), (q38, .inl (cA 0, (5, .inl (fun _ => 0)))), (q39, .inl (cA 3, (10, .inl (fun _ => 0)))), (q40, .inl (cA 3, (10, .inl (fun _ => 0)))), (q41, .inl (cA 0, (10, .inl (fun _ => 0)))), (q42, .inl (cA 0, (50, .inl (fun _ => 0)))), (q43, .inl (cA 0, (12, .inl (fun _ => 0)))), (q44, .inl (cA 0, (12, .inl (fun _ => 0)))), (q45, .inl (cA 0, (12, .inl (fun _ => 0)))), (q46, .inl (cA 0, (12, .inl (fun _ => 0)))), (q47, .inl (cA 0, (60, .inl (fun _ => 0)))), (q48, .inl (cA 0, (60, .inl (fun _ => 0)))), (q49, .inl (cA 0, (60, .inl (fun _ => 0)))), (q50, .inl (cA 0, (60, .inl (fun _ => 0)))), (q51, .inl (cA 0, (240, .inl (fun _ => 0)))), (q52, .inl (cA 3, (60, .inl (fun _ => 0)))), (q53, .inl (cA 0, (4, .inl (upd (upd (upd (upd (fun _ => 0) (0 : Int32).toNatClampNeg (-1 : Int32)) (1 : Int32).toNatClampNeg (-1 : Int32)) (2 : Int32).toNatClampNeg (-1 : Int32)) (3 : Int32).toNatClampNeg (-1 : Int32))))), (q54, .inl (cA 0, (40, .inl (fun _ => 0)))), (q55, .inl (cA 0, (12, .inl (fun _ => 0)))), (q56, .inl (cA 0, (12, .inl (fun _ => 0)))), (q57, .inl (cA 0, (40, .inl (fun _ => 0)))), (q58, .inl (cA 0, (10, .inl (fun _ => 0)))), (q59, .inl (cA 0, (400, .inl (fun _ => 0)))), (q60, .inl (cA 0, (10, .inl (fun _ => 0))))]) rfl ?_
  refine n_astore_n hG (lv' := [(2, .ref q37), (1, .ref q1), (0, .ref b)]) dL_law_15 (by decide) rfl ?_
  refine n_iconst hG (v := (1 : Int32)) dL_law_16 (by decide) ?_
  refine n_arr hG (t := 1) (N := 1) (x := .inr (.inl (fun _ => 0))) (ty := .long) (k' := 61) (n' := 5775) dL_law_17 (tb3 (mem_i 17 rfl)) rfl rfl (by simp) (fun _ => rfl) (by decide) rfl (Nat.le_of_ble_eq_true rfl) ⟨Nat.le_of_ble_eq_true rfl, Nat.le_of_ble_eq_true rfl⟩ rfl rfl (fun q61 => ?_)
  refine n_eq (ws' := [(q1, .inr (7, [.ref q2, .int (0 : Int32), .ref q3, .ref q6, .ref q10, .ref q17, .ref q24, .ref q31, .ref q35])), (q2, .inl (cA 0, (5, .inl (fun _ => 0)))), (q3, .inr (5, [.int (0 : Int32), .int (0 : Int32), .ref q4, .ref q5])), (q4, .inl (cA 0, (10, .inl (fun _ => 0)))), (q5, .inl (cA 0, (50, .inl (fun _ => 0)))), (q6, .inr (4, [.int (0 : Int32), .ref q7, .ref q8, .ref q9])), (q7, .inl (cA 0, (12, .inl (fun _ => 0)))), (q8, .inl (cA 0, (12, .inl (fun _ => 0)))), (q9, .inl (cA 0, (12, .inl (fun _ => 0)))), (q10, .inr (6, [.int (0 : Int32), .ref q11, .ref q12, .ref q13, .ref q14, .ref q15, .ref q16])), (q11, .inl (cA 0, (60, .inl (fun _ => 0)))), (q12, .inl (cA 0, (60, .inl (fun _ => 0)))), (q13, .inl (cA 0, (240, .inl (fun _ => 0)))), (q14, .inl (cA 0, (60, .inl (fun _ => 0)))), (q15, .inl (cA 0, (60, .inl (fun _ => 0)))), (q16, .inl (cA 0, (4, .inl (upd (upd (upd (upd (fun _ => 0) (0 : Int32).toNatClampNeg (-1 : Int32)) (1 : Int32).toNatClampNeg (-1 : Int32)) (2 : Int32).toNatClampNeg (-1 : Int32)) (3 : Int32).toNatClampNeg (-1 : Int32))))), (q17, .inr (3, [.ref q10, .ref q18, .ref q21, .long 0])), (q18, .inr (0, [.ref q3, .ref q6, .int (0 : Int32), .ref q19, .ref q20, .int (0 : Int32), .int (0 : Int32)])), (q19, .inl (cA 0, (40, .inl (fun _ => 0)))), (q20, .inl (cA 0, (24, .inl (fun _ => 0)))), (q21, .inr (0, [.ref q3, .ref q6, .int (0 : Int32), .ref q22, .ref q23, .int (0 : Int32), .int (0 : Int32)])), (q22, .inl (cA 0, (40, .inl (fun _ => 0)))), (q23, .inl (cA 0, (24, .inl (fun _ => 0)))), (q24, .inr (3, [.ref q10, .ref q25, .ref q28, .long 0])), (q25, .inr (0, [.ref q3, .ref q6, .int (1 : Int32), .ref q26, .ref q27, .int (0 : Int32), .int (0 : Int32)])), (q26, .inl (cA 0, (40, .inl (fun _ => 0)))), (q27, .inl (cA 0, (24, .inl (fun _ => 0)))), (q28, .inr (0, [.ref q3, .ref q6, .int (1 : Int32), .ref q29, .ref q30, .int (0 : Int32), .int (0 : Int32)])), (q29, .inl (cA 0, (40, .inl (fun _ => 0)))), (q30, .inl (cA 0, (24, .inl (fun _ => 0)))), (q31, .inr (2, [.int (0 : Int32), .int (0 : Int32), .ref q32, .ref q33, .ref q34])), (q32, .inl (cA 1, (10, .inr (.inl (fun _ => 0))))), (q33, .inl (cA 0, (10, .inl (fun _ => 0)))), (q34, .inl (cA 2, (3280, .inl (fun _ => 0)))), (q35, .inr (1, [.ref q36, .int (0 : Int32)])), (q36, .inl (cA 2, (328, .inl (fun _ => 0)))), (q37, .inr (8, [.int 0, .ref q38, .int 0, .ref q39, .ref q40, .ref q41, .ref q42, .int 0, .ref q43, .ref q44, .ref q45, .ref q46, .int 0, .ref q47, .ref q48, .ref q49, .ref q50, .ref q51, .ref q52, .ref q53, .int 0, .ref q54, .int 0, .ref q55, .ref q56, .int 0, .ref q57, .int 0, .int 0, .int 0, .int 0, .ref q58, .ref q59, .ref q60, .int 0, .int 0, .int 0])), (q38, .inl (cA 0, (5, .inl (fun _ => 0)))), (q39, .inl (cA 3, (10, .inl (fun _ => 0)))), (q40, .inl (cA 3, (10, .inl (fun _ => 0)))), (q41, .inl (cA 0, (10, .inl (fun _ => 0)))), (q42, .inl (cA 0, (50, .inl (fun _ => 0)))), (q43, .inl (cA 0, (12, .inl (fun _ => 0)))), (q44, .inl (cA 0, (12, .inl (fun _ => 0)))), (q45, .inl (cA 0, (12, .inl (fun _ => 0)))), (q46, .inl (cA 0, (12, .inl (fun _ => 0)))), (q47, .inl (cA 0, (60, .inl (fun _ => 0)))), (q48, .inl (cA 0, (60, .inl (fun _ => 0)))), (q49, .inl (cA 0, (60, .inl (fun _ => 0)))), (q50, .inl (cA 0, (60, .inl (fun _ => 0)))), (q51, .inl (cA 0, (240, .inl (fun _ => 0)))), (q52, .inl (cA 3, (60, .inl (fun _ => 0)))), (q53, .inl (cA 0, (4, .inl (upd (upd (upd (upd (fun _ => 0) (0 : Int32).toNatClampNeg (-1 : Int32)) (1 : Int32).toNatClampNeg (-1 : Int32)) (2 : Int32).toNatClampNeg (-1 : Int32)) (3 : Int32).toNatClampNeg (-1 : Int32))))), (q54, .inl (cA 0, (40, .inl (fun _ => 0)))), (q55, .inl (cA 0, (12, .inl (fun _ => 0)))), (q56, .inl (cA 0, (12, .inl (fun _ => 0)))), (q57, .inl (cA 0, (40, .inl (fun _ => 0)))), (q58, .inl (cA 0, (10, .inl (fun _ => 0)))), (q59, .inl (cA 0, (400, .inl (fun _ => 0)))), (q60, .inl (cA 0, (10, .inl (fun _ => 0)))), (q61, .inl (cA 1, (1, .inr (.inl (fun _ => 0)))))]) rfl ?_
  refine n_astore_n hG (lv' := [(3, .ref q61), (2, .ref q37), (1, .ref q1), (0, .ref b)]) dL_law_19 (by decide) rfl ?_
  refine n_iconst hG (v := (0 : Int32)) dL_law_20 (by decide) ?_
  refine n_istore hG (lv' := [(4, .int (0 : Int32)), (3, .ref q61), (2, .ref q37), (1, .ref q1), (0, .ref b)]) dL_law_21 (by decide) rfl ?_
  exact hend q1 q2 q3 q4 q5 q6 q7 q8 q9 q10 q11 q12 q13 q14 q15 q16 q17 q18 q19 q20 q21 q22 q23 q24 q25 q26 q27 q28 q29 q30 q31 q32 q33 q34 q35 q36 q37 q38 q39 q40 q41 q42 q43 q44 q45 q46 q47 q48 q49 q50 q51 q52 q53 q54 q55 q56 q57 q58 q59 q60 q61 []

