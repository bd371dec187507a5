/-! asks: the call, and what it answers where the call throws -/
def awr (x : Option XO) : Option XO := x.bind (fun o => if o.2.1 = 0 then some (o.1, ((0 : Nat), o.2.2)) else if o.2.1 = 1 then some (o.1, ((1 : Nat), (-5007 : Int32))) else if o.2.1 = 3 then some (o.1, ((3 : Nat), (-5008 : Int32))) else if o.2.1 = 4 then some (o.1, ((4 : Nat), (-5004 : Int32))) else none)
theorem awr_0 {S : HS} {v : Int32} : awr (some (S, (0, v))) = some (S, (0, v)) := rfl
theorem awr_1 {S : HS} {v : Int32} : awr (some (S, (1, v))) = some (S, (1, -5007)) := rfl
theorem awr_3 {S : HS} {v : Int32} : awr (some (S, (3, v))) = some (S, (3, -5008)) := rfl
theorem awr_4 {S : HS} {v : Int32} : awr (some (S, (4, v))) = some (S, (4, -5004)) := rfl
theorem awr_ok {x : Option XO} {P : XO → Prop} (h : Ok x (fun o => o.2.1 = 0 ∧ P o)) : Ok (awr x) P := by
  obtain ⟨⟨S, e, v⟩, rfl, h0, hP⟩ := h
  dsimp only at h0
  subst h0
  exact ⟨_, rfl, hP⟩
theorem awr_ok3 {x : Option XO} {P : HS → Prop} (h : Ok x (fun o => o.2.1 = 3 ∧ P o.1)) : Ok (awr x) (fun o => o.2 = (3, -5008) ∧ P o.1) := by
  obtain ⟨⟨S, e, v⟩, rfl, h0, hP⟩ := h
  dsimp only at h0
  subst h0
  exact ⟨_, rfl, rfl, hP⟩
section
variable (a b e i j : Int32) (S : HS)
theorem asks0 : f_L_asks 0 a b e i j S = awr (f_X7_addBox a b e i j S) := by
  unfold f_L_asks
  rw [if_pos rfl]
  rfl
theorem asks1 : f_L_asks 1 a b e i j S = awr (f_X7_addLabel a b e (if i ≤ 0 then 0 else 1) S) := by
  unfold f_L_asks
  rw [if_neg (by decide), if_pos rfl]
  by_cases h : i ≤ 0
  · rw [if_pos h, if_pos h]; rfl
  · rw [if_neg h, if_neg h]; rfl
theorem asks2 : f_L_asks 2 a b e i j S = awr (f_X7_move a b e i S) := by
  unfold f_L_asks
  rw [if_neg (by decide), if_neg (by decide), if_pos rfl]
  rfl
theorem asks3 : f_L_asks 3 a b e i j S = awr (f_X7_resize a b e i S) := by
  unfold f_L_asks
  rw [if_neg (by decide), if_neg (by decide), if_neg (by decide), if_pos rfl]
  rfl
theorem asks4 : f_L_asks 4 a b e i j S = awr (f_X7_lay a b e i S) := by
  unfold f_L_asks
  rw [if_neg (by decide), if_neg (by decide), if_neg (by decide), if_neg (by decide), if_pos rfl]
  rfl
theorem asks5 : f_L_asks 5 a b e i j S = awr (f_X7_drop a b S) := by
  unfold f_L_asks
  rw [if_neg (by decide), if_neg (by decide), if_neg (by decide), if_neg (by decide), if_neg (by decide), if_pos rfl]
  rfl
theorem asks6 : f_L_asks 6 a b e i j S = awr (f_X7_back a S) := by
  unfold f_L_asks
  rw [if_neg (by decide), if_neg (by decide), if_neg (by decide), if_neg (by decide), if_neg (by decide), if_neg (by decide), if_pos rfl]
  rfl
theorem asks7 : f_L_asks 7 a b e i j S = awr (f_X7_on a b S) := by
  unfold f_L_asks
  rw [if_neg (by decide), if_neg (by decide), if_neg (by decide), if_neg (by decide), if_neg (by decide), if_neg (by decide), if_neg (by decide), if_pos rfl]
  rfl
theorem asks8 : f_L_asks 8 a b e i j S = awr (f_X7_spell a S) := by
  unfold f_L_asks
  rw [if_neg (by decide), if_neg (by decide), if_neg (by decide), if_neg (by decide), if_neg (by decide), if_neg (by decide), if_neg (by decide), if_neg (by decide), if_pos rfl]
  rfl
theorem asks9 : f_L_asks 9 a b e i j S = awr (f_X7_number a b S) := by
  unfold f_L_asks
  rw [if_neg (by decide), if_neg (by decide), if_neg (by decide), if_neg (by decide), if_neg (by decide), if_neg (by decide), if_neg (by decide), if_neg (by decide), if_neg (by decide), if_pos rfl]
  rfl
theorem asks10_y {v : Bool} {T : HS} (h : f_X7_holds a S = some (T, (0, bI v))) : f_L_asks 10 a b e i j S = some (T, (0, bI v)) := by
  unfold f_L_asks
  rw [if_neg (by decide), if_neg (by decide), if_neg (by decide), if_neg (by decide), if_neg (by decide), if_neg (by decide), if_neg (by decide), if_neg (by decide), if_neg (by decide), if_neg (by decide), if_pos rfl, h]
  cases v <;> rfl
theorem asks10_n {v : Int32} {T : HS} (h : f_X7_holds a S = some (T, (4, v))) : f_L_asks 10 a b e i j S = some (T, (4, -5004)) := by
  unfold f_L_asks
  rw [if_neg (by decide), if_neg (by decide), if_neg (by decide), if_neg (by decide), if_neg (by decide), if_neg (by decide), if_neg (by decide), if_neg (by decide), if_neg (by decide), if_neg (by decide), if_pos rfl, h]
  rfl
theorem asks11 : f_L_asks 11 a b e i j S = awr (f_X7_part a (if b ≤ 0 then 0 else 1) S) := by
  unfold f_L_asks
  rw [if_neg (by decide), if_neg (by decide), if_neg (by decide), if_neg (by decide), if_neg (by decide), if_neg (by decide), if_neg (by decide), if_neg (by decide), if_neg (by decide), if_neg (by decide), if_neg (by decide), if_pos rfl]
  by_cases h : b ≤ 0
  · rw [if_pos h, if_pos h]; rfl
  · rw [if_neg h, if_neg h]; rfl
theorem asks12 : f_L_asks 12 a b e i j S = awr (f_X7_charAt a b S) := by
  unfold f_L_asks
  rw [if_neg (by decide), if_neg (by decide), if_neg (by decide), if_neg (by decide), if_neg (by decide), if_neg (by decide), if_neg (by decide), if_neg (by decide), if_neg (by decide), if_neg (by decide), if_neg (by decide), if_neg (by decide)]
  rfl
end
