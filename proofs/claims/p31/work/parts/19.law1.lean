/-! 19.law1: by program (wip/p31/gen.py) -/
theorem dL_notes_0 : decode cL_notes 0 = .ok (.iconst 0, 1) := by decide +kernel
theorem dL_notes_1 : decode cL_notes 1 = .ok (.istore_n 3, 1) := by decide +kernel
theorem dL_notes_2 : decode cL_notes 2 = .ok (.iload_n 3, 1) := by decide +kernel
theorem dL_notes_3 : decode cL_notes 3 = .ok (.iconst 4, 1) := by decide +kernel
theorem dL_notes_4 : decode cL_notes 4 = .ok (.aload_n 1, 1) := by decide +kernel
theorem dL_notes_5 : decode cL_notes 5 = .ok (.iconst 1, 1) := by decide +kernel
theorem dL_notes_6 : decode cL_notes 6 = .ok (.iaload, 1) := by decide +kernel
theorem dL_notes_7 : decode cL_notes 7 = .ok (.imul, 1) := by decide +kernel
theorem dL_notes_8 : decode cL_notes 8 = .ok (.if_icmp .ge 40, 3) := by decide +kernel
theorem dL_notes_11 : decode cL_notes 11 = .ok (.aload_n 2, 1) := by decide +kernel
theorem dL_notes_12 : decode cL_notes 12 = .ok (.iload_n 3, 1) := by decide +kernel
theorem dL_notes_13 : decode cL_notes 13 = .ok (.aload_n 0, 1) := by decide +kernel
theorem dL_notes_14 : decode cL_notes 14 = .ok (.iload_n 3, 1) := by decide +kernel
theorem dL_notes_15 : decode cL_notes 15 = .ok (.iconst 4, 1) := by decide +kernel
theorem dL_notes_16 : decode cL_notes 16 = .ok (.idiv, 1) := by decide +kernel
theorem dL_notes_17 : decode cL_notes 17 = .ok (.invokevirtual 65, 3) := by decide +kernel
theorem dL_notes_20 : decode cL_notes 20 = .ok (.ifCond .eq 20, 3) := by decide +kernel
theorem dL_notes_23 : decode cL_notes 23 = .ok (.sipush 5000, 3) := by decide +kernel
theorem dL_notes_26 : decode cL_notes 26 = .ok (.aload_n 0, 1) := by decide +kernel
theorem dL_notes_27 : decode cL_notes 27 = .ok (.iload_n 3, 1) := by decide +kernel
theorem dL_notes_28 : decode cL_notes 28 = .ok (.iconst 4, 1) := by decide +kernel
theorem dL_notes_29 : decode cL_notes 29 = .ok (.idiv, 1) := by decide +kernel
theorem dL_notes_30 : decode cL_notes 30 = .ok (.iload_n 3, 1) := by decide +kernel
theorem dL_notes_31 : decode cL_notes 31 = .ok (.iconst 4, 1) := by decide +kernel
theorem dL_notes_32 : decode cL_notes 32 = .ok (.irem, 1) := by decide +kernel
theorem dL_notes_33 : decode cL_notes 33 = .ok (.invokevirtual 44, 3) := by decide +kernel
theorem dL_notes_36 : decode cL_notes 36 = .ok (.iadd, 1) := by decide +kernel
theorem dL_notes_37 : decode cL_notes 37 = .ok (.goto 4, 3) := by decide +kernel
theorem dL_notes_40 : decode cL_notes 40 = .ok (.iconst 0, 1) := by decide +kernel
theorem dL_notes_41 : decode cL_notes 41 = .ok (.iastore, 1) := by decide +kernel
theorem dL_notes_42 : decode cL_notes 42 = .ok (.iinc 3 1, 3) := by decide +kernel
theorem dL_notes_45 : decode cL_notes 45 = .ok (.goto (-43), 3) := by decide +kernel
theorem dL_notes_48 : decode cL_notes 48 = .ok (.return_, 1) := by decide +kernel
theorem dL_differs_0 : decode cL_differs 0 = .ok (.iconst 0, 1) := by decide +kernel
theorem dL_differs_1 : decode cL_differs 1 = .ok (.istore_n 3, 1) := by decide +kernel
theorem dL_differs_2 : decode cL_differs 2 = .ok (.iconst 0, 1) := by decide +kernel
theorem dL_differs_3 : decode cL_differs 3 = .ok (.istore 4, 2) := by decide +kernel
theorem dL_differs_5 : decode cL_differs 5 = .ok (.iload 4, 2) := by decide +kernel
theorem dL_differs_7 : decode cL_differs 7 = .ok (.aload_n 1, 1) := by decide +kernel
theorem dL_differs_8 : decode cL_differs 8 = .ok (.iconst 1, 1) := by decide +kernel
theorem dL_differs_9 : decode cL_differs 9 = .ok (.iaload, 1) := by decide +kernel
theorem dL_differs_10 : decode cL_differs 10 = .ok (.if_icmp .ge 89, 3) := by decide +kernel
theorem dL_differs_13 : decode cL_differs 13 = .ok (.iconst 1, 1) := by decide +kernel
theorem dL_differs_14 : decode cL_differs 14 = .ok (.istore 5, 2) := by decide +kernel
theorem dL_differs_16 : decode cL_differs 16 = .ok (.iconst 0, 1) := by decide +kernel
theorem dL_differs_17 : decode cL_differs 17 = .ok (.istore 6, 2) := by decide +kernel
theorem dL_differs_19 : decode cL_differs 19 = .ok (.iload 6, 2) := by decide +kernel
theorem dL_differs_21 : decode cL_differs 21 = .ok (.iconst 4, 1) := by decide +kernel
theorem dL_differs_22 : decode cL_differs 22 = .ok (.if_icmp .ge 58, 3) := by decide +kernel
theorem dL_differs_25 : decode cL_differs 25 = .ok (.iload 5, 2) := by decide +kernel
theorem dL_differs_27 : decode cL_differs 27 = .ok (.ifCond .eq 44, 3) := by decide +kernel
theorem dL_differs_30 : decode cL_differs 30 = .ok (.aload_n 2, 1) := by decide +kernel
theorem dL_differs_31 : decode cL_differs 31 = .ok (.iconst 4, 1) := by decide +kernel
theorem dL_differs_32 : decode cL_differs 32 = .ok (.iload 4, 2) := by decide +kernel
theorem dL_differs_34 : decode cL_differs 34 = .ok (.imul, 1) := by decide +kernel
theorem dL_differs_35 : decode cL_differs 35 = .ok (.iload 6, 2) := by decide +kernel
theorem dL_differs_37 : decode cL_differs 37 = .ok (.iadd, 1) := by decide +kernel
theorem dL_differs_38 : decode cL_differs 38 = .ok (.iaload, 1) := by decide +kernel
theorem dL_differs_39 : decode cL_differs 39 = .ok (.aload_n 0, 1) := by decide +kernel
theorem dL_differs_40 : decode cL_differs 40 = .ok (.iload 4, 2) := by decide +kernel
theorem dL_differs_42 : decode cL_differs 42 = .ok (.invokevirtual 65, 3) := by decide +kernel
theorem dL_differs_45 : decode cL_differs 45 = .ok (.ifCond .eq 18, 3) := by decide +kernel
theorem dL_differs_48 : decode cL_differs 48 = .ok (.sipush 5000, 3) := by decide +kernel
theorem dL_differs_51 : decode cL_differs 51 = .ok (.aload_n 0, 1) := by decide +kernel
theorem dL_differs_52 : decode cL_differs 52 = .ok (.iload 4, 2) := by decide +kernel
theorem dL_differs_54 : decode cL_differs 54 = .ok (.iload 6, 2) := by decide +kernel
theorem dL_differs_56 : decode cL_differs 56 = .ok (.invokevirtual 44, 3) := by decide +kernel
theorem dL_differs_59 : decode cL_differs 59 = .ok (.iadd, 1) := by decide +kernel
theorem dL_differs_60 : decode cL_differs 60 = .ok (.goto 4, 3) := by decide +kernel
theorem dL_differs_63 : decode cL_differs 63 = .ok (.iconst 0, 1) := by decide +kernel
theorem dL_differs_64 : decode cL_differs 64 = .ok (.if_icmp .ne 7, 3) := by decide +kernel
theorem dL_differs_67 : decode cL_differs 67 = .ok (.iconst 1, 1) := by decide +kernel
theorem dL_differs_68 : decode cL_differs 68 = .ok (.goto 4, 3) := by decide +kernel
theorem dL_differs_71 : decode cL_differs 71 = .ok (.iconst 0, 1) := by decide +kernel
theorem dL_differs_72 : decode cL_differs 72 = .ok (.istore 5, 2) := by decide +kernel
theorem dL_differs_74 : decode cL_differs 74 = .ok (.iinc 6 1, 3) := by decide +kernel
theorem dL_differs_77 : decode cL_differs 77 = .ok (.goto (-58), 3) := by decide +kernel
theorem dL_differs_80 : decode cL_differs 80 = .ok (.iload_n 3, 1) := by decide +kernel
theorem dL_differs_81 : decode cL_differs 81 = .ok (.iload 5, 2) := by decide +kernel
theorem dL_differs_83 : decode cL_differs 83 = .ok (.ifCond .eq 7, 3) := by decide +kernel
theorem dL_differs_86 : decode cL_differs 86 = .ok (.iconst 0, 1) := by decide +kernel
theorem dL_differs_87 : decode cL_differs 87 = .ok (.goto 4, 3) := by decide +kernel
theorem dL_differs_90 : decode cL_differs 90 = .ok (.iconst 1, 1) := by decide +kernel
theorem dL_differs_91 : decode cL_differs 91 = .ok (.iadd, 1) := by decide +kernel
theorem dL_differs_92 : decode cL_differs 92 = .ok (.istore_n 3, 1) := by decide +kernel
theorem dL_differs_93 : decode cL_differs 93 = .ok (.iinc 4 1, 3) := by decide +kernel
theorem dL_differs_96 : decode cL_differs 96 = .ok (.goto (-91), 3) := by decide +kernel
theorem dL_differs_99 : decode cL_differs 99 = .ok (.iload_n 3, 1) := by decide +kernel
theorem dL_differs_100 : decode cL_differs 100 = .ok (.ireturn, 1) := by decide +kernel
theorem dL_voids_0 : decode cL_voids 0 = .ok (.iconst 0, 1) := by decide +kernel
theorem dL_voids_1 : decode cL_voids 1 = .ok (.istore_n 2, 1) := by decide +kernel
theorem dL_voids_2 : decode cL_voids 2 = .ok (.iconst 0, 1) := by decide +kernel
theorem dL_voids_3 : decode cL_voids 3 = .ok (.istore_n 3, 1) := by decide +kernel
theorem dL_voids_4 : decode cL_voids 4 = .ok (.iload_n 3, 1) := by decide +kernel
theorem dL_voids_5 : decode cL_voids 5 = .ok (.aload_n 1, 1) := by decide +kernel
theorem dL_voids_6 : decode cL_voids 6 = .ok (.iconst 0, 1) := by decide +kernel
theorem dL_voids_7 : decode cL_voids 7 = .ok (.iaload, 1) := by decide +kernel
theorem dL_voids_8 : decode cL_voids 8 = .ok (.if_icmp .ge 25, 3) := by decide +kernel
theorem dL_voids_11 : decode cL_voids 11 = .ok (.iload_n 2, 1) := by decide +kernel
theorem dL_voids_12 : decode cL_voids 12 = .ok (.aload_n 0, 1) := by decide +kernel
theorem dL_voids_13 : decode cL_voids 13 = .ok (.iload_n 3, 1) := by decide +kernel
theorem dL_voids_14 : decode cL_voids 14 = .ok (.invokevirtual 83, 3) := by decide +kernel
theorem dL_voids_17 : decode cL_voids 17 = .ok (.ifCond .eq 7, 3) := by decide +kernel
theorem dL_voids_20 : decode cL_voids 20 = .ok (.iconst 1, 1) := by decide +kernel
theorem dL_voids_21 : decode cL_voids 21 = .ok (.goto 4, 3) := by decide +kernel
theorem dL_voids_24 : decode cL_voids 24 = .ok (.iconst 0, 1) := by decide +kernel
theorem dL_voids_25 : decode cL_voids 25 = .ok (.iadd, 1) := by decide +kernel
theorem dL_voids_26 : decode cL_voids 26 = .ok (.istore_n 2, 1) := by decide +kernel
theorem dL_voids_27 : decode cL_voids 27 = .ok (.iinc 3 1, 3) := by decide +kernel
theorem dL_voids_30 : decode cL_voids 30 = .ok (.goto (-26), 3) := by decide +kernel
theorem dL_voids_33 : decode cL_voids 33 = .ok (.iload_n 2, 1) := by decide +kernel
theorem dL_voids_34 : decode cL_voids 34 = .ok (.ireturn, 1) := by decide +kernel
theorem dL_reads_0 : decode cL_reads 0 = .ok (.iload_n 2, 1) := by decide +kernel
theorem dL_reads_1 : decode cL_reads 1 = .ok (.istore 4, 2) := by decide +kernel
theorem dL_reads_3 : decode cL_reads 3 = .ok (.iload_n 3, 1) := by decide +kernel
theorem dL_reads_4 : decode cL_reads 4 = .ok (.ifCond .ge 8, 3) := by decide +kernel
theorem dL_reads_7 : decode cL_reads 7 = .ok (.iload_n 3, 1) := by decide +kernel
theorem dL_reads_8 : decode cL_reads 8 = .ok (.ineg, 1) := by decide +kernel
theorem dL_reads_9 : decode cL_reads 9 = .ok (.goto 4, 3) := by decide +kernel
theorem dL_reads_12 : decode cL_reads 12 = .ok (.iload_n 3, 1) := by decide +kernel
theorem dL_reads_13 : decode cL_reads 13 = .ok (.istore 5, 2) := by decide +kernel
theorem dL_reads_15 : decode cL_reads 15 = .ok (.iconst 1, 1) := by decide +kernel
theorem dL_reads_16 : decode cL_reads 16 = .ok (.istore 6, 2) := by decide +kernel
theorem dL_reads_18 : decode cL_reads 18 = .ok (.iload_n 3, 1) := by decide +kernel
theorem dL_reads_19 : decode cL_reads 19 = .ok (.ifCond .ge 35, 3) := by decide +kernel
theorem dL_reads_22 : decode cL_reads 22 = .ok (.iload 4, 2) := by decide +kernel
theorem dL_reads_24 : decode cL_reads 24 = .ok (.ifCond .lt 30, 3) := by decide +kernel
theorem dL_reads_27 : decode cL_reads 27 = .ok (.aload_n 0, 1) := by decide +kernel
theorem dL_reads_28 : decode cL_reads 28 = .ok (.bipush 12, 2) := by decide +kernel
theorem dL_reads_30 : decode cL_reads 30 = .ok (.iload_n 1, 1) := by decide +kernel
theorem dL_reads_31 : decode cL_reads 31 = .ok (.iload 4, 2) := by decide +kernel
theorem dL_reads_33 : decode cL_reads 33 = .ok (.iconst 0, 1) := by decide +kernel
theorem dL_reads_34 : decode cL_reads 34 = .ok (.iconst 0, 1) := by decide +kernel
theorem dL_reads_35 : decode cL_reads 35 = .ok (.iconst 0, 1) := by decide +kernel
theorem dL_reads_36 : decode cL_reads 36 = .ok (.invokestatic 68, 3) := by decide +kernel
theorem dL_reads_39 : decode cL_reads 39 = .ok (.bipush 45, 2) := by decide +kernel
theorem dL_reads_41 : decode cL_reads 41 = .ok (.if_icmp .ne 10, 3) := by decide +kernel
theorem dL_reads_44 : decode cL_reads 44 = .ok (.iload 4, 2) := by decide +kernel
theorem dL_reads_46 : decode cL_reads 46 = .ok (.iconst 1, 1) := by decide +kernel
theorem dL_reads_47 : decode cL_reads 47 = .ok (.iadd, 1) := by decide +kernel
theorem dL_reads_48 : decode cL_reads 48 = .ok (.goto 4, 3) := by decide +kernel
theorem dL_reads_51 : decode cL_reads 51 = .ok (.iconst (-1), 1) := by decide +kernel
theorem dL_reads_52 : decode cL_reads 52 = .ok (.istore 4, 2) := by decide +kernel
theorem dL_reads_54 : decode cL_reads 54 = .ok (.iload 5, 2) := by decide +kernel
theorem dL_reads_56 : decode cL_reads 56 = .ok (.iload 6, 2) := by decide +kernel
theorem dL_reads_58 : decode cL_reads 58 = .ok (.idiv, 1) := by decide +kernel
theorem dL_reads_59 : decode cL_reads 59 = .ok (.bipush 9, 2) := by decide +kernel
theorem dL_reads_61 : decode cL_reads 61 = .ok (.if_icmp .le 13, 3) := by decide +kernel
theorem dL_reads_64 : decode cL_reads 64 = .ok (.iload 6, 2) := by decide +kernel
theorem dL_reads_66 : decode cL_reads 66 = .ok (.bipush 10, 2) := by decide +kernel
theorem dL_reads_68 : decode cL_reads 68 = .ok (.imul, 1) := by decide +kernel
theorem dL_reads_69 : decode cL_reads 69 = .ok (.istore 6, 2) := by decide +kernel
theorem dL_reads_71 : decode cL_reads 71 = .ok (.goto (-17), 3) := by decide +kernel
theorem dL_reads_74 : decode cL_reads 74 = .ok (.iload 6, 2) := by decide +kernel
theorem dL_reads_76 : decode cL_reads 76 = .ok (.ifCond .le 54, 3) := by decide +kernel
theorem dL_reads_79 : decode cL_reads 79 = .ok (.iload 4, 2) := by decide +kernel
theorem dL_reads_81 : decode cL_reads 81 = .ok (.ifCond .lt 49, 3) := by decide +kernel
theorem dL_reads_84 : decode cL_reads 84 = .ok (.aload_n 0, 1) := by decide +kernel
theorem dL_reads_85 : decode cL_reads 85 = .ok (.bipush 12, 2) := by decide +kernel
theorem dL_reads_87 : decode cL_reads 87 = .ok (.iload_n 1, 1) := by decide +kernel
theorem dL_reads_88 : decode cL_reads 88 = .ok (.iload 4, 2) := by decide +kernel
theorem dL_reads_90 : decode cL_reads 90 = .ok (.iconst 0, 1) := by decide +kernel
theorem dL_reads_91 : decode cL_reads 91 = .ok (.iconst 0, 1) := by decide +kernel
theorem dL_reads_92 : decode cL_reads 92 = .ok (.iconst 0, 1) := by decide +kernel
theorem dL_reads_93 : decode cL_reads 93 = .ok (.invokestatic 68, 3) := by decide +kernel
theorem dL_reads_96 : decode cL_reads 96 = .ok (.bipush 48, 2) := by decide +kernel
theorem dL_reads_98 : decode cL_reads 98 = .ok (.iload 5, 2) := by decide +kernel
theorem dL_reads_100 : decode cL_reads 100 = .ok (.iload 6, 2) := by decide +kernel
theorem dL_reads_102 : decode cL_reads 102 = .ok (.idiv, 1) := by decide +kernel
theorem dL_reads_103 : decode cL_reads 103 = .ok (.bipush 10, 2) := by decide +kernel
theorem dL_reads_105 : decode cL_reads 105 = .ok (.irem, 1) := by decide +kernel
theorem dL_reads_106 : decode cL_reads 106 = .ok (.iadd, 1) := by decide +kernel
theorem dL_reads_107 : decode cL_reads 107 = .ok (.if_icmp .ne 10, 3) := by decide +kernel
theorem dL_reads_110 : decode cL_reads 110 = .ok (.iload 4, 2) := by decide +kernel
theorem dL_reads_112 : decode cL_reads 112 = .ok (.iconst 1, 1) := by decide +kernel
theorem dL_reads_113 : decode cL_reads 113 = .ok (.iadd, 1) := by decide +kernel
theorem dL_reads_114 : decode cL_reads 114 = .ok (.goto 4, 3) := by decide +kernel
theorem dL_reads_117 : decode cL_reads 117 = .ok (.iconst (-1), 1) := by decide +kernel
theorem dL_reads_118 : decode cL_reads 118 = .ok (.istore 4, 2) := by decide +kernel
theorem dL_reads_120 : decode cL_reads 120 = .ok (.iload 6, 2) := by decide +kernel
theorem dL_reads_122 : decode cL_reads 122 = .ok (.bipush 10, 2) := by decide +kernel
theorem dL_reads_124 : decode cL_reads 124 = .ok (.idiv, 1) := by decide +kernel
theorem dL_reads_125 : decode cL_reads 125 = .ok (.istore 6, 2) := by decide +kernel
theorem dL_reads_127 : decode cL_reads 127 = .ok (.goto (-53), 3) := by decide +kernel
theorem dL_reads_130 : decode cL_reads 130 = .ok (.iload 4, 2) := by decide +kernel
theorem dL_reads_132 : decode cL_reads 132 = .ok (.ireturn, 1) := by decide +kernel
theorem ml_RL_65 : MV RL 65 7 yX7_isThere 1 := ⟨⟨by decide +kernel, by decide +kernel, by decide +kernel⟩, tb11 (mem_i 29 rfl), tb0 (mem_i 1 rfl), Or.inl (tb11 (mem_i 28 rfl)), RX7, TX7, 9, rfl, rfl, tb12 (mem_i 0 rfl)⟩
theorem ml_RL_83 : MV RL 83 7 yX7_isVoid 1 := ⟨⟨by decide +kernel, by decide +kernel, by decide +kernel⟩, tb12 (mem_i 20 rfl), tb0 (mem_i 1 rfl), Or.inl (tb12 (mem_i 19 rfl)), RX7, TX7, 9, rfl, rfl, tb12 (mem_i 21 rfl)⟩
theorem ml_RL_68 : MS RL 68 yL_asks 7 := ⟨⟨by decide +kernel, by decide +kernel, by decide +kernel⟩, tb4 (mem_i 24 rfl), tb0 (mem_i 0 rfl), Or.inl (tb4 (mem_i 23 rfl))⟩
def f_L_notes_b41  (rec2 : HS × Int32 → Option (HS)) (S : HS) (x3 : Int32) (t1 : Int32) (t2 : Int32) : Option (HS) :=
if ib t1 (40) = true then
rec2 ((sI S 40 t1.toNatClampNeg t2), (x3 + (1 : Int32)))
else none
def F_L_notes_b2   (rec2 : HS × Int32 → Option (HS)) : HS × Int32 → Option (HS) := fun q => match q with
  | (S, x3) =>
    if ib (1 : Int32) (5) = true then
    if ((4 : Int32) * (S.1 38 (1 : Int32).toNatClampNeg)) ≤ x3 then
    some S
    else
    if (4 : Int32) = 0 then none else
    (f_X7_isThere (x3 / (4 : Int32)) S).bind (fun o17 => if o17.2.1 = 0 then
    (fun (o17 : XO) =>
    if o17.2.2 = 0 then
    f_L_notes_b41  rec2 o17.1 x3 x3 (0 : Int32)
    else
    if (4 : Int32) = 0 then none else
    if (4 : Int32) = 0 then none else
    (f_X7_number (x3 / (4 : Int32)) (x3 - x3 / (4 : Int32) * (4 : Int32)) o17.1).bind (fun o33 => if o33.2.1 = 0 then
    (fun (o33 : XO) =>
    f_L_notes_b41  rec2 o33.1 x3 x3 ((5000 : Int32) + o33.2.2)) o33
    else none)) o17
    else none)
    else none
def f_L_notes_b2   (S : HS) (x3 : Int32) : Option (HS) := fx (F_L_notes_b2 ) FU (S, x3)
def f_L_notes  (S : HS) : Option (HS) :=
f_L_notes_b2   S (0 : Int32)
def rm_L_notes : Room := { frames := 8, cells := 0, slots := 0, locals := 134 }
set_option maxRecDepth 100000 in
set_option maxHeartbeats 40000000 in
theorem c_L_notes (l : Launch) (hl9 : l.stackTraces = false)  (S : HS) (out : HS) (h : f_L_notes  S = some out) : CtK l yL_notes cL_notes 4 none rm_L_notes [vR 0, vR 38, vR 40] S none out := by
  refine CtK.intro (own := RL) (lv := [(0, vR 0), (1, vR 38), (2, vR 40)]) (by decide +kernel) rfl rfl (Nat.le_of_ble_eq_true rfl) ?_
  intro G hG hR
  have hRc : rm_L_notes.cells = 0 := rfl
  have hRs : rm_L_notes.slots = 0 := rfl
  revert h
  have hb41 : ∀ (m2 : Nat) (rec2 : HS × Int32 → Option (HS)) (hm2 : 0 + 0 ≤ m2) (hrec2 : ∀ (k n : Nat), k + m2 ≤ 0 → n + 6 * m2 ≤ 0 → ∀ (S : HS) (x3 : Int32), rec2 (S, x3) = some out → G k n S [(0, vR 0), (1, vR 38), (2, vR 40), (3, vI x3)] 2 []) (k n : Nat), k + (0 + m2) ≤ 0 → n + 6 * (0 + m2) ≤ 0 → ∀ (S : HS) (x3 : Int32) (t1 : Int32) (t2 : Int32), f_L_notes_b41  rec2 S x3 t1 t2 = some out → G k n S [(0, vR 0), (1, vR 38), (2, vR 40), (3, vI x3)] 41 [vI t2, vI t1, vR 40] := by
    intro m2 rec2 hm2 hrec2 k n hk hn S x3 t1 t2
    unfold f_L_notes_b41
    refine s_iastore hG dL_notes_41 (rfl) ?_
    refine s_iinc hG (v := (x3 + (1 : Int32))) (lv' := [(3, vI (x3 + (1 : Int32))), (0, vR 0), (1, vR 38), (2, vR 40)]) dL_notes_42 rfl rfl (by decide) rfl ?_
    refine s_goto hG (tgt := 2) dL_notes_45 (by decide) ?_
    refine s_lv hG [1, 2, 3, 0] rfl ?_
    exact hrec2 _ _ (by omega) (by omega) _ _
  have hb2 : ∀ (k n : Nat), k + (0 * FU + 0 + 0) ≤ 0 → n + 6 * (0 * FU + 0 + 0) ≤ 0 → ∀ (S : HS) (x3 : Int32), f_L_notes_b2  S x3 = some out → G k n S [(0, vR 0), (1, vR 38), (2, vR 40), (3, vI x3)] 2 [] := by
    suffices H : ∀ (nf k n : Nat), k + (0 * nf + 0 + 0) ≤ 0 → n + 6 * (0 * nf + 0 + 0) ≤ 0 → ∀ (S : HS) (x3 : Int32), fx (F_L_notes_b2 ) nf (S, x3) = some out → G k n S [(0, vR 0), (1, vR 38), (2, vR 40), (3, vI x3)] 2 [] from fun k n hk hn S x3 => H FU k n hk hn S x3
    intro nf
    induction nf with
    | zero => intro k n _ _ S x3 h9; cases h9
    | succ nf hrec2 =>
      intro k n hk0 hn0 S x3
      show F_L_notes_b2  (fx (F_L_notes_b2 ) nf) (S, x3) = some out → _
      generalize fx (F_L_notes_b2 ) nf = rec2 at hrec2
      obtain ⟨m2, hq2⟩ : ∃ m, m = 0 * nf + 0 + 0 := ⟨_, rfl⟩
      rw [← hq2] at hrec2
      have hm2 : 0 + 0 ≤ m2 := by omega
      have hk : k + (0 + m2) ≤ 0 := by omega
      have hn : n + 6 * (0 + m2) ≤ 0 := by omega
      clear hk0 hn0 hq2
      unfold F_L_notes_b2
      dsimp only
      refine s_iload_n hG dL_notes_2 rfl ?_
      refine s_iconst hG (v := (4 : Int32)) dL_notes_3 (by decide) ?_
      refine s_aload_n hG dL_notes_4 rfl ?_
      refine s_iconst hG (v := (1 : Int32)) dL_notes_5 (by decide) ?_
      refine s_iaload hG dL_notes_6 (rfl) ?_
      refine s_imul hG dL_notes_7 ?_
      refine s_icmp_ge hG (tgt := 48) dL_notes_8 (by decide) ?_ ?_
      · exact s_rKV hR (by omega) (by omega) dL_notes_48
      · refine s_aload_n hG dL_notes_11 rfl ?_
        refine s_iload_n hG dL_notes_12 rfl ?_
        refine s_aload_n hG dL_notes_13 rfl ?_
        refine s_iload_n hG dL_notes_14 rfl ?_
        refine s_iconst hG (v := (4 : Int32)) dL_notes_15 (by decide) ?_
        refine s_idiv hG dL_notes_16 ?_
        refine s_dI hG (as := [vI (x3 / (4 : Int32))]) (st := [vI x3, vR 40]) (rm := rm_X7_isThere) (rmT := rmT_X7_isThere) (by decide) dL_notes_17 ml_RL_65 (rfl) (tb12 (mem_i 1 rfl)) rfl ⟨rfl, rfl⟩ ⟨Nat.le_of_ble_eq_true rfl, Nat.le_of_ble_eq_true rfl⟩ (Nat.le_of_ble_eq_true rfl) ⟨by omega, by omega⟩ rfl (fun o h => c_X7_isThere l hl9 _ _ o h) (fun o17 => ?_)
        refine s_if_eq hG (tgt := 40) dL_notes_20 (by decide) ?_ ?_
        · refine s_iconst hG (v := (0 : Int32)) dL_notes_40 (by decide) ?_
          exact hb41 _ _ hm2 hrec2 _ _ (by omega) (by omega) _ _ _ _
        · refine s_sipush hG (v := (5000 : Int32)) dL_notes_23 (by decide) ?_
          refine s_aload_n hG dL_notes_26 rfl ?_
          refine s_iload_n hG dL_notes_27 rfl ?_
          refine s_iconst hG (v := (4 : Int32)) dL_notes_28 (by decide) ?_
          refine s_idiv hG dL_notes_29 ?_
          refine s_iload_n hG dL_notes_30 rfl ?_
          refine s_iconst hG (v := (4 : Int32)) dL_notes_31 (by decide) ?_
          refine s_irem hG dL_notes_32 ?_
          refine s_dI hG (as := [vI (x3 / (4 : Int32)), vI (x3 - x3 / (4 : Int32) * (4 : Int32))]) (st := [vI (5000 : Int32), vI x3, vR 40]) (rm := rm_X7_number) (rmT := rmT_X7_number) (by decide) dL_notes_33 ml_RL_44 (rfl) (tb10 (mem_i 19 rfl)) rfl ⟨rfl, rfl⟩ ⟨Nat.le_of_ble_eq_true rfl, Nat.le_of_ble_eq_true rfl⟩ (Nat.le_of_ble_eq_true rfl) ⟨by omega, by omega⟩ rfl (fun o h => c_X7_number l hl9 _ _ _ o h) (fun o33 => ?_)
          refine s_iadd hG dL_notes_36 ?_
          refine s_goto hG (tgt := 41) dL_notes_37 (by decide) ?_
          exact hb41 _ _ hm2 hrec2 _ _ (by omega) (by omega) _ _ _ _
  unfold f_L_notes
  refine s_iconst hG (v := (0 : Int32)) dL_notes_0 (by decide) ?_
  refine s_istore_n hG (lv' := [(3, vI (0 : Int32)), (0, vR 0), (1, vR 38), (2, vR 40)]) dL_notes_1 (by decide) rfl ?_
  refine s_lv hG [1, 2, 3, 0] rfl ?_
  exact hb2  _ _ (by omega) (by omega) _ _

def f_L_differs_b91  (rec5 : HS × Int32 × Int32 → Option (HS × Int32)) (S : HS) (x4 : Int32) (t0 : Int32) (t1 : Int32) : Option (HS × Int32) :=
rec5 (S, (t0 + t1), (x4 + (1 : Int32)))
def f_L_differs_b72  (rec5 : HS × Int32 × Int32 → Option (HS × Int32)) (rec19 : HS × Int32 × Int32 × Int32 × Int32 → Option (HS × Int32)) (S : HS) (x3 : Int32) (x4 : Int32) (x6 : Int32) (t0 : Int32) : Option (HS × Int32) :=
rec19 (S, x3, x4, t0, (x6 + (1 : Int32)))
def f_L_differs_b71  (rec5 : HS × Int32 × Int32 → Option (HS × Int32)) (rec19 : HS × Int32 × Int32 × Int32 × Int32 → Option (HS × Int32)) (S : HS) (x3 : Int32) (x4 : Int32) (x6 : Int32) : Option (HS × Int32) :=
f_L_differs_b72  rec5 rec19 S x3 x4 x6 (0 : Int32)
def f_L_differs_b64  (rec5 : HS × Int32 × Int32 → Option (HS × Int32)) (rec19 : HS × Int32 × Int32 × Int32 × Int32 → Option (HS × Int32)) (S : HS) (x3 : Int32) (x4 : Int32) (x6 : Int32) (t0 : Int32) (t1 : Int32) : Option (HS × Int32) :=
if t0 = t1 then
f_L_differs_b72  rec5 rec19 S x3 x4 x6 (1 : Int32)
else
f_L_differs_b71  rec5 rec19 S x3 x4 x6
def F_L_differs_b19  (rec5 : HS × Int32 × Int32 → Option (HS × Int32)) (rec19 : HS × Int32 × Int32 × Int32 × Int32 → Option (HS × Int32)) : HS × Int32 × Int32 × Int32 × Int32 → Option (HS × Int32) := fun q => match q with
  | (S, x3, x4, x5, x6) =>
    if (4 : Int32) ≤ x6 then
    if x5 = 0 then
    f_L_differs_b91  rec5 S x4 x3 (1 : Int32)
    else
    f_L_differs_b91  rec5 S x4 x3 (0 : Int32)
    else
    if x5 = 0 then
    f_L_differs_b71  rec5 rec19 S x3 x4 x6
    else
    if ib (((4 : Int32) * x4) + x6) (40) = true then
    (f_X7_isThere x4 S).bind (fun o42 => if o42.2.1 = 0 then
    (fun (o42 : XO) =>
    if o42.2.2 = 0 then
    f_L_differs_b64  rec5 rec19 o42.1 x3 x4 x6 (S.1 40 (((4 : Int32) * x4) + x6).toNatClampNeg) (0 : Int32)
    else
    (f_X7_number x4 x6 o42.1).bind (fun o56 => if o56.2.1 = 0 then
    (fun (o56 : XO) =>
    f_L_differs_b64  rec5 rec19 o56.1 x3 x4 x6 (S.1 40 (((4 : Int32) * x4) + x6).toNatClampNeg) ((5000 : Int32) + o56.2.2)) o56
    else none)) o42
    else none)
    else none
def f_L_differs_b19  (rec5 : HS × Int32 × Int32 → Option (HS × Int32)) (S : HS) (x3 : Int32) (x4 : Int32) (x5 : Int32) (x6 : Int32) : Option (HS × Int32) := fx (F_L_differs_b19  rec5) FU (S, x3, x4, x5, x6)
def F_L_differs_b5   (rec5 : HS × Int32 × Int32 → Option (HS × Int32)) : HS × Int32 × Int32 → Option (HS × Int32) := fun q => match q with
  | (S, x3, x4) =>
    if ib (1 : Int32) (5) = true then
    if (S.1 38 (1 : Int32).toNatClampNeg) ≤ x4 then
    some (S, x3)
    else
    f_L_differs_b19  rec5 S x3 x4 (1 : Int32) (0 : Int32)
    else none
def f_L_differs_b5   (S : HS) (x3 : Int32) (x4 : Int32) : Option (HS × Int32) := fx (F_L_differs_b5 ) FU (S, x3, x4)
def f_L_differs  (S : HS) : Option (HS × Int32) :=
f_L_differs_b5   S (0 : Int32) (0 : Int32)
def rm_L_differs : Room := { frames := 8, cells := 0, slots := 0, locals := 134 }
set_option maxRecDepth 100000 in
set_option maxHeartbeats 40000000 in
theorem c_L_differs (l : Launch) (hl9 : l.stackTraces = false)  (S : HS) (out : HS × Int32) (h : f_L_differs  S = some out) : CtK l yL_differs cL_differs 7 (some .int) rm_L_differs [vR 0, vR 38, vR 40] S (some (vI out.2)) out.1 := by
  refine CtK.intro (own := RL) (lv := [(0, vR 0), (1, vR 38), (2, vR 40)]) (by decide +kernel) rfl rfl (Nat.le_of_ble_eq_true rfl) ?_
  intro G hG hR
  have hRc : rm_L_differs.cells = 0 := rfl
  have hRs : rm_L_differs.slots = 0 := rfl
  revert h
  have hb91 : ∀ (m5 : Nat) (rec5 : HS × Int32 × Int32 → Option (HS × Int32)) (hm5 : 0 + 0 ≤ m5) (hrec5 : ∀ (k n : Nat), k + m5 ≤ 0 → n + 6 * m5 ≤ 0 → ∀ (S : HS) (x3 : Int32) (x4 : Int32), rec5 (S, x3, x4) = some out → G k n S [(0, vR 0), (1, vR 38), (2, vR 40), (3, vI x3), (4, vI x4)] 5 []) (k n : Nat), k + (0 + m5) ≤ 0 → n + 6 * (0 + m5) ≤ 0 → ∀ (S : HS) (x4 : Int32) (t0 : Int32) (t1 : Int32), f_L_differs_b91  rec5 S x4 t0 t1 = some out → G k n S [(0, vR 0), (1, vR 38), (2, vR 40), (4, vI x4)] 91 [vI t1, vI t0] := by
    intro m5 rec5 hm5 hrec5 k n hk hn S x4 t0 t1
    unfold f_L_differs_b91
    refine s_iadd hG dL_differs_91 ?_
    refine s_istore_n hG (lv' := [(3, vI (t0 + t1)), (0, vR 0), (1, vR 38), (2, vR 40), (4, vI x4)]) dL_differs_92 (by decide) rfl ?_
    refine s_iinc hG (v := (x4 + (1 : Int32))) (lv' := [(4, vI (x4 + (1 : Int32))), (3, vI (t0 + t1)), (0, vR 0), (1, vR 38), (2, vR 40)]) dL_differs_93 rfl rfl (by decide) rfl ?_
    refine s_goto hG (tgt := 5) dL_differs_96 (by decide) ?_
    refine s_lv hG [2, 3, 4, 1, 0] rfl ?_
    exact hrec5 _ _ (by omega) (by omega) _ _ _
  have hb72 : ∀ (m5 : Nat) (rec5 : HS × Int32 × Int32 → Option (HS × Int32)) (hm5 : 0 + 0 ≤ m5) (hrec5 : ∀ (k n : Nat), k + m5 ≤ 0 → n + 6 * m5 ≤ 0 → ∀ (S : HS) (x3 : Int32) (x4 : Int32), rec5 (S, x3, x4) = some out → G k n S [(0, vR 0), (1, vR 38), (2, vR 40), (3, vI x3), (4, vI x4)] 5 []) (m19 : Nat) (rec19 : HS × Int32 × Int32 × Int32 × Int32 → Option (HS × Int32)) (hm19 : 0 + m5 ≤ m19) (hrec19 : ∀ (k n : Nat), k + m19 ≤ 0 → n + 6 * m19 ≤ 0 → ∀ (S : HS) (x3 : Int32) (x4 : Int32) (x5 : Int32) (x6 : Int32), rec19 (S, x3, x4, x5, x6) = some out → G k n S [(0, vR 0), (1, vR 38), (2, vR 40), (3, vI x3), (4, vI x4), (5, vI x5), (6, vI x6)] 19 []) (k n : Nat), k + (0 + m19) ≤ 0 → n + 6 * (0 + m19) ≤ 0 → ∀ (S : HS) (x3 : Int32) (x4 : Int32) (x6 : Int32) (t0 : Int32), f_L_differs_b72  rec5 rec19 S x3 x4 x6 t0 = some out → G k n S [(0, vR 0), (1, vR 38), (2, vR 40), (3, vI x3), (4, vI x4), (6, vI x6)] 72 [vI t0] := by
    intro m5 rec5 hm5 hrec5 m19 rec19 hm19 hrec19 k n hk hn S x3 x4 x6 t0
    unfold f_L_differs_b72
    refine s_istore hG (lv' := [(5, vI t0), (0, vR 0), (1, vR 38), (2, vR 40), (3, vI x3), (4, vI x4), (6, vI x6)]) dL_differs_72 (by decide) rfl ?_
    refine s_iinc hG (v := (x6 + (1 : Int32))) (lv' := [(6, vI (x6 + (1 : Int32))), (5, vI t0), (0, vR 0), (1, vR 38), (2, vR 40), (3, vI x3), (4, vI x4)]) dL_differs_74 rfl rfl (by decide) rfl ?_
    refine s_goto hG (tgt := 19) dL_differs_77 (by decide) ?_
    refine s_lv hG [2, 3, 4, 5, 6, 1, 0] rfl ?_
    exact hrec19 _ _ (by omega) (by omega) _ _ _ _ _
  have hb71 : ∀ (m5 : Nat) (rec5 : HS × Int32 × Int32 → Option (HS × Int32)) (hm5 : 0 + 0 ≤ m5) (hrec5 : ∀ (k n : Nat), k + m5 ≤ 0 → n + 6 * m5 ≤ 0 → ∀ (S : HS) (x3 : Int32) (x4 : Int32), rec5 (S, x3, x4) = some out → G k n S [(0, vR 0), (1, vR 38), (2, vR 40), (3, vI x3), (4, vI x4)] 5 []) (m19 : Nat) (rec19 : HS × Int32 × Int32 × Int32 × Int32 → Option (HS × Int32)) (hm19 : 0 + m5 ≤ m19) (hrec19 : ∀ (k n : Nat), k + m19 ≤ 0 → n + 6 * m19 ≤ 0 → ∀ (S : HS) (x3 : Int32) (x4 : Int32) (x5 : Int32) (x6 : Int32), rec19 (S, x3, x4, x5, x6) = some out → G k n S [(0, vR 0), (1, vR 38), (2, vR 40), (3, vI x3), (4, vI x4), (5, vI x5), (6, vI x6)] 19 []) (k n : Nat), k + (0 + m19) ≤ 0 → n + 6 * (0 + m19) ≤ 0 → ∀ (S : HS) (x3 : Int32) (x4 : Int32) (x6 : Int32), f_L_differs_b71  rec5 rec19 S x3 x4 x6 = some out → G k n S [(0, vR 0), (1, vR 38), (2, vR 40), (3, vI x3), (4, vI x4), (6, vI x6)] 71 [] := by
    intro m5 rec5 hm5 hrec5 m19 rec19 hm19 hrec19 k n hk hn S x3 x4 x6
    unfold f_L_differs_b71
    refine s_iconst hG (v := (0 : Int32)) dL_differs_71 (by decide) ?_
    exact hb72 _ _ hm5 hrec5 _ _ hm19 hrec19 _ _ (by omega) (by omega) _ _ _ _ _
  have hb64 : ∀ (m5 : Nat) (rec5 : HS × Int32 × Int32 → Option (HS × Int32)) (hm5 : 0 + 0 ≤ m5) (hrec5 : ∀ (k n : Nat), k + m5 ≤ 0 → n + 6 * m5 ≤ 0 → ∀ (S : HS) (x3 : Int32) (x4 : Int32), rec5 (S, x3, x4) = some out → G k n S [(0, vR 0), (1, vR 38), (2, vR 40), (3, vI x3), (4, vI x4)] 5 []) (m19 : Nat) (rec19 : HS × Int32 × Int32 × Int32 × Int32 → Option (HS × Int32)) (hm19 : 0 + m5 ≤ m19) (hrec19 : ∀ (k n : Nat), k + m19 ≤ 0 → n + 6 * m19 ≤ 0 → ∀ (S : HS) (x3 : Int32) (x4 : Int32) (x5 : Int32) (x6 : Int32), rec19 (S, x3, x4, x5, x6) = some out → G k n S [(0, vR 0), (1, vR 38), (2, vR 40), (3, vI x3), (4, vI x4), (5, vI x5), (6, vI x6)] 19 []) (k n : Nat), k + (0 + m19) ≤ 0 → n + 6 * (0 + m19) ≤ 0 → ∀ (S : HS) (x3 : Int32) (x4 : Int32) (x6 : Int32) (t0 : Int32) (t1 : Int32), f_L_differs_b64  rec5 rec19 S x3 x4 x6 t0 t1 = some out → G k n S [(0, vR 0), (1, vR 38), (2, vR 40), (3, vI x3), (4, vI x4), (6, vI x6)] 64 [vI t1, vI t0] := by
    intro m5 rec5 hm5 hrec5 m19 rec19 hm19 hrec19 k n hk hn S x3 x4 x6 t0 t1
    unfold f_L_differs_b64
    refine s_icmp_ne hG (tgt := 71) dL_differs_64 (by decide) ?_ ?_
    · exact hb71 _ _ hm5 hrec5 _ _ hm19 hrec19 _ _ (by omega) (by omega) _ _ _ _
    · refine s_iconst hG (v := (1 : Int32)) dL_differs_67 (by decide) ?_
      refine s_goto hG (tgt := 72) dL_differs_68 (by decide) ?_
      exact hb72 _ _ hm5 hrec5 _ _ hm19 hrec19 _ _ (by omega) (by omega) _ _ _ _ _
  have hb19 : ∀ (m5 : Nat) (rec5 : HS × Int32 × Int32 → Option (HS × Int32)) (hm5 : 0 + 0 ≤ m5) (hrec5 : ∀ (k n : Nat), k + m5 ≤ 0 → n + 6 * m5 ≤ 0 → ∀ (S : HS) (x3 : Int32) (x4 : Int32), rec5 (S, x3, x4) = some out → G k n S [(0, vR 0), (1, vR 38), (2, vR 40), (3, vI x3), (4, vI x4)] 5 []), ∀ (k n : Nat), k + (0 * FU + 0 + m5) ≤ 0 → n + 6 * (0 * FU + 0 + m5) ≤ 0 → ∀ (S : HS) (x3 : Int32) (x4 : Int32) (x5 : Int32) (x6 : Int32), f_L_differs_b19  rec5 S x3 x4 x5 x6 = some out → G k n S [(0, vR 0), (1, vR 38), (2, vR 40), (3, vI x3), (4, vI x4), (5, vI x5), (6, vI x6)] 19 [] := by
    intro m5 rec5 hm5 hrec5
    suffices H : ∀ (nf k n : Nat), k + (0 * nf + 0 + m5) ≤ 0 → n + 6 * (0 * nf + 0 + m5) ≤ 0 → ∀ (S : HS) (x3 : Int32) (x4 : Int32) (x5 : Int32) (x6 : Int32), fx (F_L_differs_b19  rec5) nf (S, x3, x4, x5, x6) = some out → G k n S [(0, vR 0), (1, vR 38), (2, vR 40), (3, vI x3), (4, vI x4), (5, vI x5), (6, vI x6)] 19 [] from fun k n hk hn S x3 x4 x5 x6 => H FU k n hk hn S x3 x4 x5 x6
    intro nf
    induction nf with
    | zero => intro k n _ _ S x3 x4 x5 x6 h9; cases h9
    | succ nf hrec19 =>
      intro k n hk0 hn0 S x3 x4 x5 x6
      show F_L_differs_b19  rec5 (fx (F_L_differs_b19  rec5) nf) (S, x3, x4, x5, x6) = some out → _
      generalize fx (F_L_differs_b19  rec5) nf = rec19 at hrec19
      obtain ⟨m19, hq19⟩ : ∃ m, m = 0 * nf + 0 + m5 := ⟨_, rfl⟩
      rw [← hq19] at hrec19
      have hm19 : 0 + m5 ≤ m19 := by omega
      have hk : k + (0 + m19) ≤ 0 := by omega
      have hn : n + 6 * (0 + m19) ≤ 0 := by omega
      clear hk0 hn0 hq19
      unfold F_L_differs_b19
      dsimp only
      refine s_iload hG dL_differs_19 rfl ?_
      refine s_iconst hG (v := (4 : Int32)) dL_differs_21 (by decide) ?_
      refine s_icmp_ge hG (tgt := 80) dL_differs_22 (by decide) ?_ ?_
      · refine s_iload_n hG dL_differs_80 rfl ?_
        refine s_iload hG dL_differs_81 rfl ?_
        refine s_if_eq hG (tgt := 90) dL_differs_83 (by decide) ?_ ?_
        · refine s_iconst hG (v := (1 : Int32)) dL_differs_90 (by decide) ?_
          refine s_lv hG [0, 1, 2, 4] rfl ?_
          exact hb91 _ _ hm5 hrec5 _ _ (by omega) (by omega) _ _ _ _
        · refine s_iconst hG (v := (0 : Int32)) dL_differs_86 (by decide) ?_
          refine s_goto hG (tgt := 91) dL_differs_87 (by decide) ?_
          refine s_lv hG [0, 1, 2, 4] rfl ?_
          exact hb91 _ _ hm5 hrec5 _ _ (by omega) (by omega) _ _ _ _
      · refine s_iload hG dL_differs_25 rfl ?_
        refine s_if_eq hG (tgt := 71) dL_differs_27 (by decide) ?_ ?_
        · refine s_lv hG [0, 1, 2, 3, 4, 6] rfl ?_
          exact hb71 _ _ hm5 hrec5 _ _ hm19 hrec19 _ _ (by omega) (by omega) _ _ _ _
        · refine s_aload_n hG dL_differs_30 rfl ?_
          refine s_iconst hG (v := (4 : Int32)) dL_differs_31 (by decide) ?_
          refine s_iload hG dL_differs_32 rfl ?_
          refine s_imul hG dL_differs_34 ?_
          refine s_iload hG dL_differs_35 rfl ?_
          refine s_iadd hG dL_differs_37 ?_
          refine s_iaload hG dL_differs_38 (rfl) ?_
          refine s_aload_n hG dL_differs_39 rfl ?_
          refine s_iload hG dL_differs_40 rfl ?_
          refine s_dI hG (as := [vI x4]) (st := [vI (S.1 40 (((4 : Int32) * x4) + x6).toNatClampNeg)]) (rm := rm_X7_isThere) (rmT := rmT_X7_isThere) (by decide) dL_differs_42 ml_RL_65 (rfl) (tb12 (mem_i 1 rfl)) rfl ⟨rfl, rfl⟩ ⟨Nat.le_of_ble_eq_true rfl, Nat.le_of_ble_eq_true rfl⟩ (Nat.le_of_ble_eq_true rfl) ⟨by omega, by omega⟩ rfl (fun o h => c_X7_isThere l hl9 _ _ o h) (fun o42 => ?_)
          refine s_if_eq hG (tgt := 63) dL_differs_45 (by decide) ?_ ?_
          · refine s_iconst hG (v := (0 : Int32)) dL_differs_63 (by decide) ?_
            refine s_lv hG [0, 1, 2, 3, 4, 6] rfl ?_
            exact hb64 _ _ hm5 hrec5 _ _ hm19 hrec19 _ _ (by omega) (by omega) _ _ _ _ _ _
          · refine s_sipush hG (v := (5000 : Int32)) dL_differs_48 (by decide) ?_
            refine s_aload_n hG dL_differs_51 rfl ?_
            refine s_iload hG dL_differs_52 rfl ?_
            refine s_iload hG dL_differs_54 rfl ?_
            refine s_dI hG (as := [vI x4, vI x6]) (st := [vI (5000 : Int32), vI (S.1 40 (((4 : Int32) * x4) + x6).toNatClampNeg)]) (rm := rm_X7_number) (rmT := rmT_X7_number) (by decide) dL_differs_56 ml_RL_44 (rfl) (tb10 (mem_i 19 rfl)) rfl ⟨rfl, rfl⟩ ⟨Nat.le_of_ble_eq_true rfl, Nat.le_of_ble_eq_true rfl⟩ (Nat.le_of_ble_eq_true rfl) ⟨by omega, by omega⟩ rfl (fun o h => c_X7_number l hl9 _ _ _ o h) (fun o56 => ?_)
            refine s_iadd hG dL_differs_59 ?_
            refine s_goto hG (tgt := 64) dL_differs_60 (by decide) ?_
            refine s_lv hG [0, 1, 2, 3, 4, 6] rfl ?_
            exact hb64 _ _ hm5 hrec5 _ _ hm19 hrec19 _ _ (by omega) (by omega) _ _ _ _ _ _
  have hb5 : ∀ (k n : Nat), k + (0 * FU + 0 + 0) ≤ 0 → n + 6 * (0 * FU + 0 + 0) ≤ 0 → ∀ (S : HS) (x3 : Int32) (x4 : Int32), f_L_differs_b5  S x3 x4 = some out → G k n S [(0, vR 0), (1, vR 38), (2, vR 40), (3, vI x3), (4, vI x4)] 5 [] := by
    suffices H : ∀ (nf k n : Nat), k + (0 * nf + 0 + 0) ≤ 0 → n + 6 * (0 * nf + 0 + 0) ≤ 0 → ∀ (S : HS) (x3 : Int32) (x4 : Int32), fx (F_L_differs_b5 ) nf (S, x3, x4) = some out → G k n S [(0, vR 0), (1, vR 38), (2, vR 40), (3, vI x3), (4, vI x4)] 5 [] from fun k n hk hn S x3 x4 => H FU k n hk hn S x3 x4
    intro nf
    induction nf with
    | zero => intro k n _ _ S x3 x4 h9; cases h9
    | succ nf hrec5 =>
      intro k n hk0 hn0 S x3 x4
      show F_L_differs_b5  (fx (F_L_differs_b5 ) nf) (S, x3, x4) = some out → _
      generalize fx (F_L_differs_b5 ) nf = rec5 at hrec5
      obtain ⟨m5, hq5⟩ : ∃ m, m = 0 * nf + 0 + 0 := ⟨_, rfl⟩
      rw [← hq5] at hrec5
      have hm5 : 0 + 0 ≤ m5 := by omega
      have hk : k + (0 + m5) ≤ 0 := by omega
      have hn : n + 6 * (0 + m5) ≤ 0 := by omega
      clear hk0 hn0 hq5
      unfold F_L_differs_b5
      dsimp only
      refine s_iload hG dL_differs_5 rfl ?_
      refine s_aload_n hG dL_differs_7 rfl ?_
      refine s_iconst hG (v := (1 : Int32)) dL_differs_8 (by decide) ?_
      refine s_iaload hG dL_differs_9 (rfl) ?_
      refine s_icmp_ge hG (tgt := 99) dL_differs_10 (by decide) ?_ ?_
      · refine s_iload_n hG dL_differs_99 rfl ?_
        exact s_rKI hR (by omega) (by omega) dL_differs_100
      · refine s_iconst hG (v := (1 : Int32)) dL_differs_13 (by decide) ?_
        refine s_istore hG (lv' := [(5, vI (1 : Int32)), (0, vR 0), (1, vR 38), (2, vR 40), (3, vI x3), (4, vI x4)]) dL_differs_14 (by decide) rfl ?_
        refine s_iconst hG (v := (0 : Int32)) dL_differs_16 (by decide) ?_
        refine s_istore hG (lv' := [(6, vI (0 : Int32)), (5, vI (1 : Int32)), (0, vR 0), (1, vR 38), (2, vR 40), (3, vI x3), (4, vI x4)]) dL_differs_17 (by decide) rfl ?_
        refine s_lv hG [2, 3, 4, 5, 6, 1, 0] rfl ?_
        exact hb19 _ _ hm5 hrec5 _ _ (by omega) (by omega) _ _ _ _ _
  unfold f_L_differs
  refine s_iconst hG (v := (0 : Int32)) dL_differs_0 (by decide) ?_
  refine s_istore_n hG (lv' := [(3, vI (0 : Int32)), (0, vR 0), (1, vR 38), (2, vR 40)]) dL_differs_1 (by decide) rfl ?_
  refine s_iconst hG (v := (0 : Int32)) dL_differs_2 (by decide) ?_
  refine s_istore hG (lv' := [(4, vI (0 : Int32)), (3, vI (0 : Int32)), (0, vR 0), (1, vR 38), (2, vR 40)]) dL_differs_3 (by decide) rfl ?_
  refine s_lv hG [2, 3, 4, 1, 0] rfl ?_
  exact hb5  _ _ (by omega) (by omega) _ _ _

def f_L_voids_b25  (rec4 : HS × Int32 × Int32 → Option (HS × Int32)) (S : HS) (x3 : Int32) (t0 : Int32) (t1 : Int32) : Option (HS × Int32) :=
rec4 (S, (t0 + t1), (x3 + (1 : Int32)))
def F_L_voids_b4   (rec4 : HS × Int32 × Int32 → Option (HS × Int32)) : HS × Int32 × Int32 → Option (HS × Int32) := fun q => match q with
  | (S, x2, x3) =>
    if ib (0 : Int32) (5) = true then
    if (S.1 38 (0 : Int32).toNatClampNeg) ≤ x3 then
    some (S, x2)
    else
    (f_X7_isVoid x3 S).bind (fun o14 => if o14.2.1 = 0 then
    (fun (o14 : XO) =>
    if o14.2.2 = 0 then
    f_L_voids_b25  rec4 o14.1 x3 x2 (0 : Int32)
    else
    f_L_voids_b25  rec4 o14.1 x3 x2 (1 : Int32)) o14
    else none)
    else none
def f_L_voids_b4   (S : HS) (x2 : Int32) (x3 : Int32) : Option (HS × Int32) := fx (F_L_voids_b4 ) FU (S, x2, x3)
def f_L_voids  (S : HS) : Option (HS × Int32) :=
f_L_voids_b4   S (0 : Int32) (0 : Int32)
def rm_L_voids : Room := { frames := 8, cells := 0, slots := 0, locals := 132 }
set_option maxRecDepth 100000 in
set_option maxHeartbeats 40000000 in
theorem c_L_voids (l : Launch) (hl9 : l.stackTraces = false)  (S : HS) (out : HS × Int32) (h : f_L_voids  S = some out) : CtK l yL_voids cL_voids 4 (some .int) rm_L_voids [vR 0, vR 38] S (some (vI out.2)) out.1 := by
  refine CtK.intro (own := RL) (lv := [(0, vR 0), (1, vR 38)]) (by decide +kernel) rfl rfl (Nat.le_of_ble_eq_true rfl) ?_
  intro G hG hR
  have hRc : rm_L_voids.cells = 0 := rfl
  have hRs : rm_L_voids.slots = 0 := rfl
  revert h
  have hb25 : ∀ (m4 : Nat) (rec4 : HS × Int32 × Int32 → Option (HS × Int32)) (hm4 : 0 + 0 ≤ m4) (hrec4 : ∀ (k n : Nat), k + m4 ≤ 0 → n + 6 * m4 ≤ 0 → ∀ (S : HS) (x2 : Int32) (x3 : Int32), rec4 (S, x2, x3) = some out → G k n S [(0, vR 0), (1, vR 38), (2, vI x2), (3, vI x3)] 4 []) (k n : Nat), k + (0 + m4) ≤ 0 → n + 6 * (0 + m4) ≤ 0 → ∀ (S : HS) (x3 : Int32) (t0 : Int32) (t1 : Int32), f_L_voids_b25  rec4 S x3 t0 t1 = some out → G k n S [(0, vR 0), (1, vR 38), (3, vI x3)] 25 [vI t1, vI t0] := by
    intro m4 rec4 hm4 hrec4 k n hk hn S x3 t0 t1
    unfold f_L_voids_b25
    refine s_iadd hG dL_voids_25 ?_
    refine s_istore_n hG (lv' := [(2, vI (t0 + t1)), (0, vR 0), (1, vR 38), (3, vI x3)]) dL_voids_26 (by decide) rfl ?_
    refine s_iinc hG (v := (x3 + (1 : Int32))) (lv' := [(3, vI (x3 + (1 : Int32))), (2, vI (t0 + t1)), (0, vR 0), (1, vR 38)]) dL_voids_27 rfl rfl (by decide) rfl ?_
    refine s_goto hG (tgt := 4) dL_voids_30 (by decide) ?_
    refine s_lv hG [2, 3, 1, 0] rfl ?_
    exact hrec4 _ _ (by omega) (by omega) _ _ _
  have hb4 : ∀ (k n : Nat), k + (0 * FU + 0 + 0) ≤ 0 → n + 6 * (0 * FU + 0 + 0) ≤ 0 → ∀ (S : HS) (x2 : Int32) (x3 : Int32), f_L_voids_b4  S x2 x3 = some out → G k n S [(0, vR 0), (1, vR 38), (2, vI x2), (3, vI x3)] 4 [] := by
    suffices H : ∀ (nf k n : Nat), k + (0 * nf + 0 + 0) ≤ 0 → n + 6 * (0 * nf + 0 + 0) ≤ 0 → ∀ (S : HS) (x2 : Int32) (x3 : Int32), fx (F_L_voids_b4 ) nf (S, x2, x3) = some out → G k n S [(0, vR 0), (1, vR 38), (2, vI x2), (3, vI x3)] 4 [] from fun k n hk hn S x2 x3 => H FU k n hk hn S x2 x3
    intro nf
    induction nf with
    | zero => intro k n _ _ S x2 x3 h9; cases h9
    | succ nf hrec4 =>
      intro k n hk0 hn0 S x2 x3
      show F_L_voids_b4  (fx (F_L_voids_b4 ) nf) (S, x2, x3) = some out → _
      generalize fx (F_L_voids_b4 ) nf = rec4 at hrec4
      obtain ⟨m4, hq4⟩ : ∃ m, m = 0 * nf + 0 + 0 := ⟨_, rfl⟩
      rw [← hq4] at hrec4
      have hm4 : 0 + 0 ≤ m4 := by omega
      have hk : k + (0 + m4) ≤ 0 := by omega
      have hn : n + 6 * (0 + m4) ≤ 0 := by omega
      clear hk0 hn0 hq4
      unfold F_L_voids_b4
      dsimp only
      refine s_iload_n hG dL_voids_4 rfl ?_
      refine s_aload_n hG dL_voids_5 rfl ?_
      refine s_iconst hG (v := (0 : Int32)) dL_voids_6 (by decide) ?_
      refine s_iaload hG dL_voids_7 (rfl) ?_
      refine s_icmp_ge hG (tgt := 33) dL_voids_8 (by decide) ?_ ?_
      · refine s_iload_n hG dL_voids_33 rfl ?_
        exact s_rKI hR (by omega) (by omega) dL_voids_34
      · refine s_iload_n hG dL_voids_11 rfl ?_
        refine s_aload_n hG dL_voids_12 rfl ?_
        refine s_iload_n hG dL_voids_13 rfl ?_
        refine s_dI hG (as := [vI x3]) (st := [vI x2]) (rm := rm_X7_isVoid) (rmT := rmT_X7_isVoid) (by decide) dL_voids_14 ml_RL_83 (rfl) (tb12 (mem_i 22 rfl)) rfl ⟨rfl, rfl⟩ ⟨Nat.le_of_ble_eq_true rfl, Nat.le_of_ble_eq_true rfl⟩ (Nat.le_of_ble_eq_true rfl) ⟨by omega, by omega⟩ rfl (fun o h => c_X7_isVoid l hl9 _ _ o h) (fun o14 => ?_)
        refine s_if_eq hG (tgt := 24) dL_voids_17 (by decide) ?_ ?_
        · refine s_iconst hG (v := (0 : Int32)) dL_voids_24 (by decide) ?_
          refine s_lv hG [0, 1, 3] rfl ?_
          exact hb25 _ _ hm4 hrec4 _ _ (by omega) (by omega) _ _ _ _
        · refine s_iconst hG (v := (1 : Int32)) dL_voids_20 (by decide) ?_
          refine s_goto hG (tgt := 25) dL_voids_21 (by decide) ?_
          refine s_lv hG [0, 1, 3] rfl ?_
          exact hb25 _ _ hm4 hrec4 _ _ (by omega) (by omega) _ _ _ _
  unfold f_L_voids
  refine s_iconst hG (v := (0 : Int32)) dL_voids_0 (by decide) ?_
  refine s_istore_n hG (lv' := [(2, vI (0 : Int32)), (0, vR 0), (1, vR 38)]) dL_voids_1 (by decide) rfl ?_
  refine s_iconst hG (v := (0 : Int32)) dL_voids_2 (by decide) ?_
  refine s_istore_n hG (lv' := [(3, vI (0 : Int32)), (2, vI (0 : Int32)), (0, vR 0), (1, vR 38)]) dL_voids_3 (by decide) rfl ?_
  refine s_lv hG [2, 3, 1, 0] rfl ?_
  exact hb4  _ _ (by omega) (by omega) _ _ _

def f_L_reads_b130 (p1 : Int32) (p2 : Int32) (p3 : Int32)  (S : HS) (x4 : Int32) : Option (HS × Int32) :=
some (S, x4)
def f_L_reads_b118 (p1 : Int32) (p2 : Int32) (p3 : Int32) (rec74 : HS × Int32 × Int32 × Int32 → Option (HS × Int32)) (S : HS) (x5 : Int32) (x6 : Int32) (t0 : Int32) : Option (HS × Int32) :=
if (10 : Int32) = 0 then none else
rec74 (S, t0, x5, (x6 / (10 : Int32)))
def F_L_reads_b74 (p1 : Int32) (p2 : Int32) (p3 : Int32)  (rec74 : HS × Int32 × Int32 × Int32 → Option (HS × Int32)) : HS × Int32 × Int32 × Int32 → Option (HS × Int32) := fun q => match q with
  | (S, x4, x5, x6) =>
    if x6 ≤ 0 then
    f_L_reads_b130 p1 p2 p3  S x4
    else
    if x4 < 0 then
    f_L_reads_b130 p1 p2 p3  S x4
    else
    (f_L_asks (12 : Int32) p1 x4 (0 : Int32) (0 : Int32) (0 : Int32) S).bind (fun o93 => if o93.2.1 = 0 then
    (fun (o93 : XO) =>
    if x6 = 0 then none else
    if (10 : Int32) = 0 then none else
    if o93.2.2 = ((48 : Int32) + ((x5 / x6) - (x5 / x6) / (10 : Int32) * (10 : Int32))) then
    f_L_reads_b118 p1 p2 p3 rec74 o93.1 x5 x6 (x4 + (1 : Int32))
    else
    f_L_reads_b118 p1 p2 p3 rec74 o93.1 x5 x6 (-1 : Int32)) o93
    else none)
def f_L_reads_b74 (p1 : Int32) (p2 : Int32) (p3 : Int32)  (S : HS) (x4 : Int32) (x5 : Int32) (x6 : Int32) : Option (HS × Int32) := fx (F_L_reads_b74 p1 p2 p3) FU (S, x4, x5, x6)
def F_L_reads_b54 (p1 : Int32) (p2 : Int32) (p3 : Int32)  (rec54 : HS × Int32 × Int32 × Int32 → Option (HS × Int32)) : HS × Int32 × Int32 × Int32 → Option (HS × Int32) := fun q => match q with
  | (S, x4, x5, x6) =>
    if x6 = 0 then none else
    if (x5 / x6) ≤ (9 : Int32) then
    f_L_reads_b74 p1 p2 p3  S x4 x5 x6
    else
    rec54 (S, x4, x5, (x6 * (10 : Int32)))
def f_L_reads_b54 (p1 : Int32) (p2 : Int32) (p3 : Int32)  (S : HS) (x4 : Int32) (x5 : Int32) (x6 : Int32) : Option (HS × Int32) := fx (F_L_reads_b54 p1 p2 p3) FU (S, x4, x5, x6)
def f_L_reads_b52 (p1 : Int32) (p2 : Int32) (p3 : Int32)  (S : HS) (x5 : Int32) (x6 : Int32) (t0 : Int32) : Option (HS × Int32) :=
f_L_reads_b54 p1 p2 p3  S t0 x5 x6
def f_L_reads_b13 (p1 : Int32) (p2 : Int32) (p3 : Int32)  (S : HS) (x4 : Int32) (t0 : Int32) : Option (HS × Int32) :=
if 0 ≤ p3 then
f_L_reads_b54 p1 p2 p3  S x4 t0 (1 : Int32)
else
if x4 < 0 then
f_L_reads_b54 p1 p2 p3  S x4 t0 (1 : Int32)
else
(f_L_asks (12 : Int32) p1 x4 (0 : Int32) (0 : Int32) (0 : Int32) S).bind (fun o36 => if o36.2.1 = 0 then
(fun (o36 : XO) =>
if o36.2.2 = (45 : Int32) then
f_L_reads_b52 p1 p2 p3  o36.1 t0 (1 : Int32) (x4 + (1 : Int32))
else
f_L_reads_b52 p1 p2 p3  o36.1 t0 (1 : Int32) (-1 : Int32)) o36
else none)
def f_L_reads (p1 : Int32) (p2 : Int32) (p3 : Int32) (S : HS) : Option (HS × Int32) :=
if 0 ≤ p3 then
f_L_reads_b13 p1 p2 p3  S p2 p3
else
f_L_reads_b13 p1 p2 p3  S p2 (-p3)
def rm_L_reads : Room := { frames := 9, cells := 0, slots := 0, locals := 237 }
set_option maxRecDepth 100000 in
set_option maxHeartbeats 40000000 in
theorem c_L_reads (l : Launch) (hl9 : l.stackTraces = false) (p1 : Int32) (p2 : Int32) (p3 : Int32) (S : HS) (out : HS × Int32) (h : f_L_reads p1 p2 p3 S = some out) : CtK l yL_reads cL_reads 7 (some .int) rm_L_reads [vR 0, vI p1, vI p2, vI p3] S (some (vI out.2)) out.1 := by
  refine CtK.intro (own := RL) (lv := [(0, vR 0), (1, vI p1), (2, vI p2), (3, vI p3)]) (by decide +kernel) rfl rfl (Nat.le_of_ble_eq_true rfl) ?_
  intro G hG hR
  have hRc : rm_L_reads.cells = 0 := rfl
  have hRs : rm_L_reads.slots = 0 := rfl
  revert h
  have hb130 : ∀ (k n : Nat), k + (0 + 0) ≤ 0 → n + 6 * (0 + 0) ≤ 0 → ∀ (S : HS) (x4 : Int32), f_L_reads_b130 p1 p2 p3 S x4 = some out → G k n S [(4, vI x4)] 130 [] := by
    intro  k n hk hn S x4
    unfold f_L_reads_b130
    refine s_iload hG dL_reads_130 rfl ?_
    exact s_rKI hR (by omega) (by omega) dL_reads_132
  have hb118 : ∀ (m74 : Nat) (rec74 : HS × Int32 × Int32 × Int32 → Option (HS × Int32)) (hm74 : 0 + 0 ≤ m74) (hrec74 : ∀ (k n : Nat), k + m74 ≤ 0 → n + 6 * m74 ≤ 0 → ∀ (S : HS) (x4 : Int32) (x5 : Int32) (x6 : Int32), rec74 (S, x4, x5, x6) = some out → G k n S [(0, vR 0), (1, vI p1), (4, vI x4), (5, vI x5), (6, vI x6)] 74 []) (k n : Nat), k + (0 + m74) ≤ 0 → n + 6 * (0 + m74) ≤ 0 → ∀ (S : HS) (x5 : Int32) (x6 : Int32) (t0 : Int32), f_L_reads_b118 p1 p2 p3 rec74 S x5 x6 t0 = some out → G k n S [(0, vR 0), (1, vI p1), (5, vI x5), (6, vI x6)] 118 [vI t0] := by
    intro m74 rec74 hm74 hrec74 k n hk hn S x5 x6 t0
    unfold f_L_reads_b118
    refine s_istore hG (lv' := [(4, vI t0), (0, vR 0), (1, vI p1), (5, vI x5), (6, vI x6)]) dL_reads_118 (by decide) rfl ?_
    refine s_iload hG dL_reads_120 rfl ?_
    refine s_bipush hG (v := (10 : Int32)) dL_reads_122 (by decide) ?_
    refine s_idiv hG dL_reads_124 ?_
    refine s_istore hG (lv' := [(6, vI (x6 / (10 : Int32))), (4, vI t0), (0, vR 0), (1, vI p1), (5, vI x5)]) dL_reads_125 (by decide) rfl ?_
    refine s_goto hG (tgt := 74) dL_reads_127 (by decide) ?_
    refine s_lv hG [2, 3, 1, 4, 0] rfl ?_
    exact hrec74 _ _ (by omega) (by omega) _ _ _ _
  have hb74 : ∀ (k n : Nat), k + (0 * FU + 0 + 0) ≤ 0 → n + 6 * (0 * FU + 0 + 0) ≤ 0 → ∀ (S : HS) (x4 : Int32) (x5 : Int32) (x6 : Int32), f_L_reads_b74 p1 p2 p3 S x4 x5 x6 = some out → G k n S [(0, vR 0), (1, vI p1), (4, vI x4), (5, vI x5), (6, vI x6)] 74 [] := by
    suffices H : ∀ (nf k n : Nat), k + (0 * nf + 0 + 0) ≤ 0 → n + 6 * (0 * nf + 0 + 0) ≤ 0 → ∀ (S : HS) (x4 : Int32) (x5 : Int32) (x6 : Int32), fx (F_L_reads_b74 p1 p2 p3) nf (S, x4, x5, x6) = some out → G k n S [(0, vR 0), (1, vI p1), (4, vI x4), (5, vI x5), (6, vI x6)] 74 [] from fun k n hk hn S x4 x5 x6 => H FU k n hk hn S x4 x5 x6
    intro nf
    induction nf with
    | zero => intro k n _ _ S x4 x5 x6 h9; cases h9
    | succ nf hrec74 =>
      intro k n hk0 hn0 S x4 x5 x6
      show F_L_reads_b74 p1 p2 p3 (fx (F_L_reads_b74 p1 p2 p3) nf) (S, x4, x5, x6) = some out → _
      generalize fx (F_L_reads_b74 p1 p2 p3) nf = rec74 at hrec74
      obtain ⟨m74, hq74⟩ : ∃ m, m = 0 * nf + 0 + 0 := ⟨_, rfl⟩
      rw [← hq74] at hrec74
      have hm74 : 0 + 0 ≤ m74 := by omega
      have hk : k + (0 + m74) ≤ 0 := by omega
      have hn : n + 6 * (0 + m74) ≤ 0 := by omega
      clear hk0 hn0 hq74
      unfold F_L_reads_b74
      dsimp only
      refine s_iload hG dL_reads_74 rfl ?_
      refine s_if_le hG (tgt := 130) dL_reads_76 (by decide) ?_ ?_
      · refine s_lv hG [2] rfl ?_
        exact hb130  _ _ (by omega) (by omega) _ _
      · refine s_iload hG dL_reads_79 rfl ?_
        refine s_if_lt hG (tgt := 130) dL_reads_81 (by decide) ?_ ?_
        · refine s_lv hG [2] rfl ?_
          exact hb130  _ _ (by omega) (by omega) _ _
        · refine s_aload_n hG dL_reads_84 rfl ?_
          refine s_bipush hG (v := (12 : Int32)) dL_reads_85 (by decide) ?_
          refine s_iload_n hG dL_reads_87 rfl ?_
          refine s_iload hG dL_reads_88 rfl ?_
          refine s_iconst hG (v := (0 : Int32)) dL_reads_90 (by decide) ?_
          refine s_iconst hG (v := (0 : Int32)) dL_reads_91 (by decide) ?_
          refine s_iconst hG (v := (0 : Int32)) dL_reads_92 (by decide) ?_
          refine s_aN hG (as := [vR 0, vI (12 : Int32), vI p1, vI x4, vI (0 : Int32), vI (0 : Int32), vI (0 : Int32)]) (st := []) (rm := rm_L_asks) (hh := hh_L_asks) dL_reads_93 ml_RL_68 (tb4 (mem_i 23 rfl)) (exin (mem_i 45 (by decide +kernel))) rfl ⟨rfl, rfl⟩ ⟨Nat.le_of_ble_eq_true rfl, Nat.le_of_ble_eq_true rfl⟩ (Nat.le_of_ble_eq_true rfl) ⟨by omega, by omega⟩ rfl (fun o mc h01 h => c_L_asks l hl9 _ _ _ _ _ _ _ o mc h01 h) (fun o93 => ?_)
          refine s_bipush hG (v := (48 : Int32)) dL_reads_96 (by decide) ?_
          refine s_iload hG dL_reads_98 rfl ?_
          refine s_iload hG dL_reads_100 rfl ?_
          refine s_idiv hG dL_reads_102 ?_
          refine s_bipush hG (v := (10 : Int32)) dL_reads_103 (by decide) ?_
          refine s_irem hG dL_reads_105 ?_
          refine s_iadd hG dL_reads_106 ?_
          refine s_icmp_ne hG (tgt := 117) dL_reads_107 (by decide) ?_ ?_
          · refine s_iconst hG (v := (-1 : Int32)) dL_reads_117 (by decide) ?_
            refine s_lv hG [0, 1, 3, 4] rfl ?_
            exact hb118 _ _ hm74 hrec74 _ _ (by omega) (by omega) _ _ _ _
          · refine s_iload hG dL_reads_110 rfl ?_
            refine s_iconst hG (v := (1 : Int32)) dL_reads_112 (by decide) ?_
            refine s_iadd hG dL_reads_113 ?_
            refine s_goto hG (tgt := 118) dL_reads_114 (by decide) ?_
            refine s_lv hG [0, 1, 3, 4] rfl ?_
            exact hb118 _ _ hm74 hrec74 _ _ (by omega) (by omega) _ _ _ _
  have hb54 : ∀ (k n : Nat), k + (0 * FU + 0 + 0) ≤ 0 → n + 6 * (0 * FU + 0 + 0) ≤ 0 → ∀ (S : HS) (x4 : Int32) (x5 : Int32) (x6 : Int32), f_L_reads_b54 p1 p2 p3 S x4 x5 x6 = some out → G k n S [(0, vR 0), (1, vI p1), (4, vI x4), (5, vI x5), (6, vI x6)] 54 [] := by
    suffices H : ∀ (nf k n : Nat), k + (0 * nf + 0 + 0) ≤ 0 → n + 6 * (0 * nf + 0 + 0) ≤ 0 → ∀ (S : HS) (x4 : Int32) (x5 : Int32) (x6 : Int32), fx (F_L_reads_b54 p1 p2 p3) nf (S, x4, x5, x6) = some out → G k n S [(0, vR 0), (1, vI p1), (4, vI x4), (5, vI x5), (6, vI x6)] 54 [] from fun k n hk hn S x4 x5 x6 => H FU k n hk hn S x4 x5 x6
    intro nf
    induction nf with
    | zero => intro k n _ _ S x4 x5 x6 h9; cases h9
    | succ nf hrec54 =>
      intro k n hk0 hn0 S x4 x5 x6
      show F_L_reads_b54 p1 p2 p3 (fx (F_L_reads_b54 p1 p2 p3) nf) (S, x4, x5, x6) = some out → _
      generalize fx (F_L_reads_b54 p1 p2 p3) nf = rec54 at hrec54
      obtain ⟨m54, hq54⟩ : ∃ m, m = 0 * nf + 0 + 0 := ⟨_, rfl⟩
      rw [← hq54] at hrec54
      have hm54 : 0 + 0 ≤ m54 := by omega
      have hk : k + (0 + m54) ≤ 0 := by omega
      have hn : n + 6 * (0 + m54) ≤ 0 := by omega
      clear hk0 hn0 hq54
      unfold F_L_reads_b54
      dsimp only
      refine s_iload hG dL_reads_54 rfl ?_
      refine s_iload hG dL_reads_56 rfl ?_
      refine s_idiv hG dL_reads_58 ?_
      refine s_bipush hG (v := (9 : Int32)) dL_reads_59 (by decide) ?_
      refine s_icmp_le hG (tgt := 74) dL_reads_61 (by decide) ?_ ?_
      · exact hb74  _ _ (by omega) (by omega) _ _ _ _
      · refine s_iload hG dL_reads_64 rfl ?_
        refine s_bipush hG (v := (10 : Int32)) dL_reads_66 (by decide) ?_
        refine s_imul hG dL_reads_68 ?_
        refine s_istore hG (lv' := [(6, vI (x6 * (10 : Int32))), (0, vR 0), (1, vI p1), (4, vI x4), (5, vI x5)]) dL_reads_69 (by decide) rfl ?_
        refine s_goto hG (tgt := 54) dL_reads_71 (by decide) ?_
        refine s_lv hG [1, 2, 3, 4, 0] rfl ?_
        exact hrec54 _ _ (by omega) (by omega) _ _ _ _
  have hb52 : ∀ (k n : Nat), k + (0 + 0) ≤ 0 → n + 6 * (0 + 0) ≤ 0 → ∀ (S : HS) (x5 : Int32) (x6 : Int32) (t0 : Int32), f_L_reads_b52 p1 p2 p3 S x5 x6 t0 = some out → G k n S [(0, vR 0), (1, vI p1), (5, vI x5), (6, vI x6)] 52 [vI t0] := by
    intro  k n hk hn S x5 x6 t0
    unfold f_L_reads_b52
    refine s_istore hG (lv' := [(4, vI t0), (0, vR 0), (1, vI p1), (5, vI x5), (6, vI x6)]) dL_reads_52 (by decide) rfl ?_
    refine s_lv hG [1, 2, 0, 3, 4] rfl ?_
    exact hb54  _ _ (by omega) (by omega) _ _ _ _
  have hb13 : ∀ (k n : Nat), k + (0 + 0) ≤ 0 → n + 6 * (0 + 0) ≤ 0 → ∀ (S : HS) (x4 : Int32) (t0 : Int32), f_L_reads_b13 p1 p2 p3 S x4 t0 = some out → G k n S [(0, vR 0), (1, vI p1), (3, vI p3), (4, vI x4)] 13 [vI t0] := by
    intro  k n hk hn S x4 t0
    unfold f_L_reads_b13
    refine s_istore hG (lv' := [(5, vI t0), (0, vR 0), (1, vI p1), (3, vI p3), (4, vI x4)]) dL_reads_13 (by decide) rfl ?_
    refine s_iconst hG (v := (1 : Int32)) dL_reads_15 (by decide) ?_
    refine s_istore hG (lv' := [(6, vI (1 : Int32)), (5, vI t0), (0, vR 0), (1, vI p1), (3, vI p3), (4, vI x4)]) dL_reads_16 (by decide) rfl ?_
    refine s_iload_n hG dL_reads_18 rfl ?_
    refine s_if_ge hG (tgt := 54) dL_reads_19 (by decide) ?_ ?_
    · refine s_lv hG [2, 3, 5, 1, 0] rfl ?_
      exact hb54  _ _ (by omega) (by omega) _ _ _ _
    · refine s_iload hG dL_reads_22 rfl ?_
      refine s_if_lt hG (tgt := 54) dL_reads_24 (by decide) ?_ ?_
      · refine s_lv hG [2, 3, 5, 1, 0] rfl ?_
        exact hb54  _ _ (by omega) (by omega) _ _ _ _
      · refine s_aload_n hG dL_reads_27 rfl ?_
        refine s_bipush hG (v := (12 : Int32)) dL_reads_28 (by decide) ?_
        refine s_iload_n hG dL_reads_30 rfl ?_
        refine s_iload hG dL_reads_31 rfl ?_
        refine s_iconst hG (v := (0 : Int32)) dL_reads_33 (by decide) ?_
        refine s_iconst hG (v := (0 : Int32)) dL_reads_34 (by decide) ?_
        refine s_iconst hG (v := (0 : Int32)) dL_reads_35 (by decide) ?_
        refine s_aN hG (as := [vR 0, vI (12 : Int32), vI p1, vI x4, vI (0 : Int32), vI (0 : Int32), vI (0 : Int32)]) (st := []) (rm := rm_L_asks) (hh := hh_L_asks) dL_reads_36 ml_RL_68 (tb4 (mem_i 23 rfl)) (exin (mem_i 45 (by decide +kernel))) rfl ⟨rfl, rfl⟩ ⟨Nat.le_of_ble_eq_true rfl, Nat.le_of_ble_eq_true rfl⟩ (Nat.le_of_ble_eq_true rfl) ⟨by omega, by omega⟩ rfl (fun o mc h01 h => c_L_asks l hl9 _ _ _ _ _ _ _ o mc h01 h) (fun o36 => ?_)
        refine s_bipush hG (v := (45 : Int32)) dL_reads_39 (by decide) ?_
        refine s_icmp_ne hG (tgt := 51) dL_reads_41 (by decide) ?_ ?_
        · refine s_iconst hG (v := (-1 : Int32)) dL_reads_51 (by decide) ?_
          refine s_lv hG [2, 3, 1, 0] rfl ?_
          exact hb52  _ _ (by omega) (by omega) _ _ _ _
        · refine s_iload hG dL_reads_44 rfl ?_
          refine s_iconst hG (v := (1 : Int32)) dL_reads_46 (by decide) ?_
          refine s_iadd hG dL_reads_47 ?_
          refine s_goto hG (tgt := 52) dL_reads_48 (by decide) ?_
          refine s_lv hG [2, 3, 1, 0] rfl ?_
          exact hb52  _ _ (by omega) (by omega) _ _ _ _
  unfold f_L_reads
  refine s_iload_n hG dL_reads_0 rfl ?_
  refine s_istore hG (lv' := [(4, vI p2), (0, vR 0), (1, vI p1), (2, vI p2), (3, vI p3)]) dL_reads_1 (by decide) rfl ?_
  refine s_iload_n hG dL_reads_3 rfl ?_
  refine s_if_ge hG (tgt := 12) dL_reads_4 (by decide) ?_ ?_
  · refine s_iload_n hG dL_reads_12 rfl ?_
    refine s_lv hG [1, 2, 4, 0] rfl ?_
    exact hb13  _ _ (by omega) (by omega) _ _ _
  · refine s_iload_n hG dL_reads_7 rfl ?_
    refine s_ineg hG dL_reads_8 ?_
    refine s_goto hG (tgt := 13) dL_reads_9 (by decide) ?_
    refine s_lv hG [1, 2, 4, 0] rfl ?_
    exact hb13  _ _ (by omega) (by omega) _ _ _
