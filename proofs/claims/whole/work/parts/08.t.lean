theorem dX8_has_0 : decode cX8_has 0 = .ok (.iload_n 0, 1) := by decide +kernel
theorem dX8_has_1 : decode cX8_has 1 = .ok (.iload_n 1, 1) := by decide +kernel
theorem dX8_has_2 : decode cX8_has 2 = .ok (.ishr, 1) := by decide +kernel
theorem dX8_has_3 : decode cX8_has 3 = .ok (.iconst 1, 1) := by decide +kernel
theorem dX8_has_4 : decode cX8_has 4 = .ok (.iand, 1) := by decide +kernel
theorem dX8_has_5 : decode cX8_has 5 = .ok (.iconst 1, 1) := by decide +kernel
theorem dX8_has_6 : decode cX8_has 6 = .ok (.if_icmp .ne 7, 3) := by decide +kernel
theorem dX8_has_9 : decode cX8_has 9 = .ok (.iconst 1, 1) := by decide +kernel
theorem dX8_has_10 : decode cX8_has 10 = .ok (.goto 4, 3) := by decide +kernel
theorem dX8_has_13 : decode cX8_has 13 = .ok (.iconst 0, 1) := by decide +kernel
theorem dX8_has_14 : decode cX8_has 14 = .ok (.ireturn, 1) := by decide +kernel
theorem dX8_joins_0 : decode cX8_joins 0 = .ok (.iload_n 1, 1) := by decide +kernel
theorem dX8_joins_1 : decode cX8_joins 1 = .ok (.ifCond .ne 25, 3) := by decide +kernel
theorem dX8_joins_4 : decode cX8_joins 4 = .ok (.iload_n 0, 1) := by decide +kernel
theorem dX8_joins_5 : decode cX8_joins 5 = .ok (.iconst 2, 1) := by decide +kernel
theorem dX8_joins_6 : decode cX8_joins 6 = .ok (.if_icmp .eq 14, 3) := by decide +kernel
theorem dX8_joins_9 : decode cX8_joins 9 = .ok (.iload_n 0, 1) := by decide +kernel
theorem dX8_joins_10 : decode cX8_joins 10 = .ok (.iconst 3, 1) := by decide +kernel
theorem dX8_joins_11 : decode cX8_joins 11 = .ok (.if_icmp .eq 9, 3) := by decide +kernel
theorem dX8_joins_14 : decode cX8_joins 14 = .ok (.iload_n 0, 1) := by decide +kernel
theorem dX8_joins_15 : decode cX8_joins 15 = .ok (.bipush 6, 2) := by decide +kernel
theorem dX8_joins_17 : decode cX8_joins 17 = .ok (.if_icmp .ne 7, 3) := by decide +kernel
theorem dX8_joins_20 : decode cX8_joins 20 = .ok (.iconst 1, 1) := by decide +kernel
theorem dX8_joins_21 : decode cX8_joins 21 = .ok (.goto 4, 3) := by decide +kernel
theorem dX8_joins_24 : decode cX8_joins 24 = .ok (.iconst 0, 1) := by decide +kernel
theorem dX8_joins_25 : decode cX8_joins 25 = .ok (.ireturn, 1) := by decide +kernel
theorem dX8_joins_26 : decode cX8_joins 26 = .ok (.iload_n 1, 1) := by decide +kernel
theorem dX8_joins_27 : decode cX8_joins 27 = .ok (.iconst 1, 1) := by decide +kernel
theorem dX8_joins_28 : decode cX8_joins 28 = .ok (.if_icmp .ne 27, 3) := by decide +kernel
theorem dX8_joins_31 : decode cX8_joins 31 = .ok (.iload_n 0, 1) := by decide +kernel
theorem dX8_joins_32 : decode cX8_joins 32 = .ok (.iconst 4, 1) := by decide +kernel
theorem dX8_joins_33 : decode cX8_joins 33 = .ok (.if_icmp .eq 14, 3) := by decide +kernel
theorem dX8_joins_36 : decode cX8_joins 36 = .ok (.iload_n 0, 1) := by decide +kernel
theorem dX8_joins_37 : decode cX8_joins 37 = .ok (.iconst 5, 1) := by decide +kernel
theorem dX8_joins_38 : decode cX8_joins 38 = .ok (.if_icmp .eq 9, 3) := by decide +kernel
theorem dX8_joins_41 : decode cX8_joins 41 = .ok (.iload_n 0, 1) := by decide +kernel
theorem dX8_joins_42 : decode cX8_joins 42 = .ok (.bipush 6, 2) := by decide +kernel
theorem dX8_joins_44 : decode cX8_joins 44 = .ok (.if_icmp .ne 7, 3) := by decide +kernel
theorem dX8_joins_47 : decode cX8_joins 47 = .ok (.iconst 1, 1) := by decide +kernel
theorem dX8_joins_48 : decode cX8_joins 48 = .ok (.goto 26, 3) := by decide +kernel
theorem dX8_joins_51 : decode cX8_joins 51 = .ok (.iconst 0, 1) := by decide +kernel
theorem dX8_joins_52 : decode cX8_joins 52 = .ok (.goto 22, 3) := by decide +kernel
theorem dX8_joins_55 : decode cX8_joins 55 = .ok (.iload_n 0, 1) := by decide +kernel
theorem dX8_joins_56 : decode cX8_joins 56 = .ok (.iload_n 1, 1) := by decide +kernel
theorem dX8_joins_57 : decode cX8_joins 57 = .ok (.iconst 2, 1) := by decide +kernel
theorem dX8_joins_58 : decode cX8_joins 58 = .ok (.if_icmp .ne 7, 3) := by decide +kernel
theorem dX8_joins_61 : decode cX8_joins 61 = .ok (.iconst 0, 1) := by decide +kernel
theorem dX8_joins_62 : decode cX8_joins 62 = .ok (.goto 4, 3) := by decide +kernel
theorem dX8_joins_65 : decode cX8_joins 65 = .ok (.iconst 1, 1) := by decide +kernel
theorem dX8_joins_66 : decode cX8_joins 66 = .ok (.if_icmp .ne 7, 3) := by decide +kernel
theorem dX8_joins_69 : decode cX8_joins 69 = .ok (.iconst 1, 1) := by decide +kernel
theorem dX8_joins_70 : decode cX8_joins 70 = .ok (.goto 4, 3) := by decide +kernel
theorem dX8_joins_73 : decode cX8_joins 73 = .ok (.iconst 0, 1) := by decide +kernel
theorem dX8_joins_74 : decode cX8_joins 74 = .ok (.ireturn, 1) := by decide +kernel
theorem dX8_partOf_0 : decode cX8_partOf 0 = .ok (.iconst 1, 1) := by decide +kernel
theorem dX8_partOf_1 : decode cX8_partOf 1 = .ok (.iload_n 1, 1) := by decide +kernel
theorem dX8_partOf_2 : decode cX8_partOf 2 = .ok (.ishl, 1) := by decide +kernel
theorem dX8_partOf_3 : decode cX8_partOf 3 = .ok (.istore 4, 2) := by decide +kernel
theorem dX8_partOf_5 : decode cX8_partOf 5 = .ok (.iconst 0, 1) := by decide +kernel
theorem dX8_partOf_6 : decode cX8_partOf 6 = .ok (.istore 5, 2) := by decide +kernel
theorem dX8_partOf_8 : decode cX8_partOf 8 = .ok (.iload 4, 2) := by decide +kernel
theorem dX8_partOf_10 : decode cX8_partOf 10 = .ok (.iload 5, 2) := by decide +kernel
theorem dX8_partOf_12 : decode cX8_partOf 12 = .ok (.if_icmp .eq 105, 3) := by decide +kernel
theorem dX8_partOf_15 : decode cX8_partOf 15 = .ok (.iload 4, 2) := by decide +kernel
theorem dX8_partOf_17 : decode cX8_partOf 17 = .ok (.istore 5, 2) := by decide +kernel
theorem dX8_partOf_19 : decode cX8_partOf 19 = .ok (.iconst 0, 1) := by decide +kernel
theorem dX8_partOf_20 : decode cX8_partOf 20 = .ok (.istore 6, 2) := by decide +kernel
theorem dX8_partOf_22 : decode cX8_partOf 22 = .ok (.iload 6, 2) := by decide +kernel
theorem dX8_partOf_24 : decode cX8_partOf 24 = .ok (.aload_n 0, 1) := by decide +kernel
theorem dX8_partOf_25 : decode cX8_partOf 25 = .ok (.getfield 91, 3) := by decide +kernel
theorem dX8_partOf_28 : decode cX8_partOf 28 = .ok (.if_icmp .ge 86, 3) := by decide +kernel
theorem dX8_partOf_31 : decode cX8_partOf 31 = .ok (.iload_n 3, 1) := by decide +kernel
theorem dX8_partOf_32 : decode cX8_partOf 32 = .ok (.iload 6, 2) := by decide +kernel
theorem dX8_partOf_34 : decode cX8_partOf 34 = .ok (.invokestatic 104, 3) := by decide +kernel
theorem dX8_partOf_37 : decode cX8_partOf 37 = .ok (.ifCond .eq 71, 3) := by decide +kernel
theorem dX8_partOf_40 : decode cX8_partOf 40 = .ok (.aload_n 0, 1) := by decide +kernel
theorem dX8_partOf_41 : decode cX8_partOf 41 = .ok (.getfield 26, 3) := by decide +kernel
theorem dX8_partOf_44 : decode cX8_partOf 44 = .ok (.iload 6, 2) := by decide +kernel
theorem dX8_partOf_46 : decode cX8_partOf 46 = .ok (.iaload, 1) := by decide +kernel
theorem dX8_partOf_47 : decode cX8_partOf 47 = .ok (.iload_n 2, 1) := by decide +kernel
theorem dX8_partOf_48 : decode cX8_partOf 48 = .ok (.invokestatic 108, 3) := by decide +kernel
theorem dX8_partOf_51 : decode cX8_partOf 51 = .ok (.ifCond .eq 57, 3) := by decide +kernel
theorem dX8_partOf_54 : decode cX8_partOf 54 = .ok (.iload 4, 2) := by decide +kernel
theorem dX8_partOf_56 : decode cX8_partOf 56 = .ok (.aload_n 0, 1) := by decide +kernel
theorem dX8_partOf_57 : decode cX8_partOf 57 = .ok (.getfield 29, 3) := by decide +kernel
theorem dX8_partOf_60 : decode cX8_partOf 60 = .ok (.iload 6, 2) := by decide +kernel
theorem dX8_partOf_62 : decode cX8_partOf 62 = .ok (.iaload, 1) := by decide +kernel
theorem dX8_partOf_63 : decode cX8_partOf 63 = .ok (.invokestatic 104, 3) := by decide +kernel
theorem dX8_partOf_66 : decode cX8_partOf 66 = .ok (.ifCond .ne 18, 3) := by decide +kernel
theorem dX8_partOf_69 : decode cX8_partOf 69 = .ok (.iload 4, 2) := by decide +kernel
theorem dX8_partOf_71 : decode cX8_partOf 71 = .ok (.aload_n 0, 1) := by decide +kernel
theorem dX8_partOf_72 : decode cX8_partOf 72 = .ok (.getfield 32, 3) := by decide +kernel
theorem dX8_partOf_75 : decode cX8_partOf 75 = .ok (.iload 6, 2) := by decide +kernel
theorem dX8_partOf_77 : decode cX8_partOf 77 = .ok (.iaload, 1) := by decide +kernel
theorem dX8_partOf_78 : decode cX8_partOf 78 = .ok (.invokestatic 104, 3) := by decide +kernel
theorem dX8_partOf_81 : decode cX8_partOf 81 = .ok (.ifCond .eq 27, 3) := by decide +kernel
theorem dX8_partOf_84 : decode cX8_partOf 84 = .ok (.iload 4, 2) := by decide +kernel
theorem dX8_partOf_86 : decode cX8_partOf 86 = .ok (.iconst 1, 1) := by decide +kernel
theorem dX8_partOf_87 : decode cX8_partOf 87 = .ok (.aload_n 0, 1) := by decide +kernel
theorem dX8_partOf_88 : decode cX8_partOf 88 = .ok (.getfield 29, 3) := by decide +kernel
theorem dX8_partOf_91 : decode cX8_partOf 91 = .ok (.iload 6, 2) := by decide +kernel
theorem dX8_partOf_93 : decode cX8_partOf 93 = .ok (.iaload, 1) := by decide +kernel
theorem dX8_partOf_94 : decode cX8_partOf 94 = .ok (.ishl, 1) := by decide +kernel
theorem dX8_partOf_95 : decode cX8_partOf 95 = .ok (.iconst 1, 1) := by decide +kernel
theorem dX8_partOf_96 : decode cX8_partOf 96 = .ok (.aload_n 0, 1) := by decide +kernel
theorem dX8_partOf_97 : decode cX8_partOf 97 = .ok (.getfield 32, 3) := by decide +kernel
theorem dX8_partOf_100 : decode cX8_partOf 100 = .ok (.iload 6, 2) := by decide +kernel
theorem dX8_partOf_102 : decode cX8_partOf 102 = .ok (.iaload, 1) := by decide +kernel
theorem dX8_partOf_103 : decode cX8_partOf 103 = .ok (.ishl, 1) := by decide +kernel
theorem dX8_partOf_104 : decode cX8_partOf 104 = .ok (.ior, 1) := by decide +kernel
theorem dX8_partOf_105 : decode cX8_partOf 105 = .ok (.ior, 1) := by decide +kernel
theorem dX8_partOf_106 : decode cX8_partOf 106 = .ok (.istore 4, 2) := by decide +kernel
theorem dX8_partOf_108 : decode cX8_partOf 108 = .ok (.iinc 6 1, 3) := by decide +kernel
theorem dX8_partOf_111 : decode cX8_partOf 111 = .ok (.goto (-89), 3) := by decide +kernel
theorem dX8_partOf_114 : decode cX8_partOf 114 = .ok (.goto (-106), 3) := by decide +kernel
theorem dX8_partOf_117 : decode cX8_partOf 117 = .ok (.iload 4, 2) := by decide +kernel
theorem dX8_partOf_119 : decode cX8_partOf 119 = .ok (.ireturn, 1) := by decide +kernel
theorem fl_RX8_29 : FL RX8 29 8 9 (tyX8 9) := ⟨RX8, TX8, 37, tyX8, rfl, by decide, lyX8, tyX8_ok, nmX8, rfl, Or.inl (tb16 (mem_i 14 rfl))⟩
theorem fl_RX8_32 : FL RX8 32 8 10 (tyX8 10) := ⟨RX8, TX8, 37, tyX8, rfl, by decide, lyX8, tyX8_ok, nmX8, rfl, Or.inl (tb16 (mem_i 15 rfl))⟩
theorem fl_RX8_91 : FL RX8 91 8 7 .int := ⟨RX8, TX8, 37, tyX8, rfl, by decide, lyX8, tyX8_ok, nmX8, rfl, Or.inl (tb16 (mem_i 12 rfl))⟩
theorem ml_RX8_104 : MS RX8 104 yX8_has 2 := ⟨⟨by decide +kernel, by decide +kernel, by decide +kernel⟩, tb20 (mem_i 1 rfl), tb0 (mem_i 9 rfl), Or.inl (tb20 (mem_i 0 rfl))⟩
theorem fl_RX8_26 : FL RX8 26 8 8 (tyX8 8) := ⟨RX8, TX8, 37, tyX8, rfl, by decide, lyX8, tyX8_ok, nmX8, rfl, Or.inl (tb16 (mem_i 13 rfl))⟩
theorem ml_RX8_108 : MS RX8 108 yX8_joins 2 := ⟨⟨by decide +kernel, by decide +kernel, by decide +kernel⟩, tb20 (mem_i 10 rfl), tb0 (mem_i 9 rfl), Or.inl (tb20 (mem_i 9 rfl))⟩
def f_X8_has_b14 (p0 : Int32) (p1 : Int32)  (S : HS) (t0 : Int32) : Option (Int32) :=
if nz t0 = true then some t0 else none
def f_X8_has (p0 : Int32) (p1 : Int32) (S : HS) : Option (Int32) :=
if ((p0 >>> (p1 &&& 31)) &&& (1 : Int32)) = (1 : Int32) then
f_X8_has_b14 p0 p1  S (1 : Int32)
else
f_X8_has_b14 p0 p1  S (0 : Int32)
def rm_X8_has : Room := { frames := 0, cells := 0, slots := 0, locals := 0 }
set_option maxRecDepth 100000 in
set_option maxHeartbeats 4000000 in
theorem c_X8_has (l : Launch) (p0 : Int32) (p1 : Int32)  (S : HS) (out : Int32) (h : f_X8_has p0 p1 S = some out) : Ct l yX8_has cX8_has 2 (some .boolean) rm_X8_has [vI p0, vI p1] S (some (vI out)) S := by
  refine Ct.intro (own := RX8) (lv := [(0, vI p0), (1, vI p1)]) (by decide +kernel) rfl ⟨rfl, rfl⟩ rfl (Nat.le_of_ble_eq_true rfl) ?_
  intro G hG hR
  revert h
  have hb14 : ∀ (t0 : Int32), f_X8_has_b14 p0 p1 S t0 = some out → G 0 0 S [] 14 [vI t0] := by
    intro t0
    unfold f_X8_has_b14
    exact s_rzP hR dX8_has_14
  unfold f_X8_has
  refine s_iload_n hG dX8_has_0 rfl ?_
  refine s_iload_n hG dX8_has_1 rfl ?_
  refine s_ishr hG dX8_has_2 ?_
  refine s_iconst hG (v := (1 : Int32)) dX8_has_3 (by decide) ?_
  refine s_iand hG dX8_has_4 ?_
  refine s_iconst hG (v := (1 : Int32)) dX8_has_5 (by decide) ?_
  refine s_icmp_ne hG (tgt := 13) dX8_has_6 (by decide) ?_ ?_
  · refine s_iconst hG (v := (0 : Int32)) dX8_has_13 (by decide) ?_
    refine s_lv hG [] rfl ?_
    exact hb14 _
  · refine s_iconst hG (v := (1 : Int32)) dX8_has_9 (by decide) ?_
    refine s_goto hG (tgt := 14) dX8_has_10 (by decide) ?_
    refine s_lv hG [] rfl ?_
    exact hb14 _

def f_X8_joins_b74 (p0 : Int32) (p1 : Int32)  (S : HS) (t0 : Int32) : Option (Int32) :=
if nz t0 = true then some t0 else none
def f_X8_joins_b66 (p0 : Int32) (p1 : Int32)  (S : HS) (t0 : Int32) (t1 : Int32) : Option (Int32) :=
if t0 = t1 then
f_X8_joins_b74 p0 p1  S (1 : Int32)
else
f_X8_joins_b74 p0 p1  S (0 : Int32)
def f_X8_joins_b47 (p0 : Int32) (p1 : Int32)  (S : HS)  : Option (Int32) :=
f_X8_joins_b74 p0 p1  S (1 : Int32)
def f_X8_joins_b25 (p0 : Int32) (p1 : Int32)  (S : HS) (t0 : Int32) : Option (Int32) :=
if nz t0 = true then some t0 else none
def f_X8_joins_b20 (p0 : Int32) (p1 : Int32)  (S : HS)  : Option (Int32) :=
f_X8_joins_b25 p0 p1  S (1 : Int32)
def f_X8_joins (p0 : Int32) (p1 : Int32) (S : HS) : Option (Int32) :=
if p1 = 0 then
if p0 = (2 : Int32) then
f_X8_joins_b20 p0 p1  S
else
if p0 = (3 : Int32) then
f_X8_joins_b20 p0 p1  S
else
if p0 = (6 : Int32) then
f_X8_joins_b20 p0 p1  S
else
f_X8_joins_b25 p0 p1  S (0 : Int32)
else
if p1 = (1 : Int32) then
if p0 = (4 : Int32) then
f_X8_joins_b47 p0 p1  S
else
if p0 = (5 : Int32) then
f_X8_joins_b47 p0 p1  S
else
if p0 = (6 : Int32) then
f_X8_joins_b47 p0 p1  S
else
f_X8_joins_b74 p0 p1  S (0 : Int32)
else
if p1 = (2 : Int32) then
f_X8_joins_b66 p0 p1  S p0 (0 : Int32)
else
f_X8_joins_b66 p0 p1  S p0 (1 : Int32)
def rm_X8_joins : Room := { frames := 0, cells := 0, slots := 0, locals := 0 }
set_option maxRecDepth 100000 in
set_option maxHeartbeats 4000000 in
theorem c_X8_joins (l : Launch) (p0 : Int32) (p1 : Int32)  (S : HS) (out : Int32) (h : f_X8_joins p0 p1 S = some out) : Ct l yX8_joins cX8_joins 2 (some .boolean) rm_X8_joins [vI p0, vI p1] S (some (vI out)) S := by
  refine Ct.intro (own := RX8) (lv := [(0, vI p0), (1, vI p1)]) (by decide +kernel) rfl ⟨rfl, rfl⟩ rfl (Nat.le_of_ble_eq_true rfl) ?_
  intro G hG hR
  revert h
  have hb74 : ∀ (t0 : Int32), f_X8_joins_b74 p0 p1 S t0 = some out → G 0 0 S [] 74 [vI t0] := by
    intro t0
    unfold f_X8_joins_b74
    exact s_rzP hR dX8_joins_74
  have hb66 : ∀ (t0 : Int32) (t1 : Int32), f_X8_joins_b66 p0 p1 S t0 t1 = some out → G 0 0 S [] 66 [vI t1, vI t0] := by
    intro t0 t1
    unfold f_X8_joins_b66
    refine s_icmp_ne hG (tgt := 73) dX8_joins_66 (by decide) ?_ ?_
    · refine s_iconst hG (v := (0 : Int32)) dX8_joins_73 (by decide) ?_
      exact hb74 _
    · refine s_iconst hG (v := (1 : Int32)) dX8_joins_69 (by decide) ?_
      refine s_goto hG (tgt := 74) dX8_joins_70 (by decide) ?_
      exact hb74 _
  have hb47 :  f_X8_joins_b47 p0 p1 S  = some out → G 0 0 S [] 47 [] := by
    skip
    unfold f_X8_joins_b47
    refine s_iconst hG (v := (1 : Int32)) dX8_joins_47 (by decide) ?_
    refine s_goto hG (tgt := 74) dX8_joins_48 (by decide) ?_
    exact hb74 _
  have hb25 : ∀ (t0 : Int32), f_X8_joins_b25 p0 p1 S t0 = some out → G 0 0 S [] 25 [vI t0] := by
    intro t0
    unfold f_X8_joins_b25
    exact s_rzP hR dX8_joins_25
  have hb20 :  f_X8_joins_b20 p0 p1 S  = some out → G 0 0 S [] 20 [] := by
    skip
    unfold f_X8_joins_b20
    refine s_iconst hG (v := (1 : Int32)) dX8_joins_20 (by decide) ?_
    refine s_goto hG (tgt := 25) dX8_joins_21 (by decide) ?_
    exact hb25 _
  unfold f_X8_joins
  refine s_iload_n hG dX8_joins_0 rfl ?_
  refine s_if_ne hG (tgt := 26) dX8_joins_1 (by decide) ?_ ?_
  · refine s_iload_n hG dX8_joins_26 rfl ?_
    refine s_iconst hG (v := (1 : Int32)) dX8_joins_27 (by decide) ?_
    refine s_icmp_ne hG (tgt := 55) dX8_joins_28 (by decide) ?_ ?_
    · refine s_iload_n hG dX8_joins_55 rfl ?_
      refine s_iload_n hG dX8_joins_56 rfl ?_
      refine s_iconst hG (v := (2 : Int32)) dX8_joins_57 (by decide) ?_
      refine s_icmp_ne hG (tgt := 65) dX8_joins_58 (by decide) ?_ ?_
      · refine s_iconst hG (v := (1 : Int32)) dX8_joins_65 (by decide) ?_
        refine s_lv hG [] rfl ?_
        exact hb66 _ _
      · refine s_iconst hG (v := (0 : Int32)) dX8_joins_61 (by decide) ?_
        refine s_goto hG (tgt := 66) dX8_joins_62 (by decide) ?_
        refine s_lv hG [] rfl ?_
        exact hb66 _ _
    · refine s_iload_n hG dX8_joins_31 rfl ?_
      refine s_iconst hG (v := (4 : Int32)) dX8_joins_32 (by decide) ?_
      refine s_icmp_eq hG (tgt := 47) dX8_joins_33 (by decide) ?_ ?_
      · refine s_lv hG [] rfl ?_
        exact hb47 
      · refine s_iload_n hG dX8_joins_36 rfl ?_
        refine s_iconst hG (v := (5 : Int32)) dX8_joins_37 (by decide) ?_
        refine s_icmp_eq hG (tgt := 47) dX8_joins_38 (by decide) ?_ ?_
        · refine s_lv hG [] rfl ?_
          exact hb47 
        · refine s_iload_n hG dX8_joins_41 rfl ?_
          refine s_bipush hG (v := (6 : Int32)) dX8_joins_42 (by decide) ?_
          refine s_icmp_ne hG (tgt := 51) dX8_joins_44 (by decide) ?_ ?_
          · refine s_iconst hG (v := (0 : Int32)) dX8_joins_51 (by decide) ?_
            refine s_goto hG (tgt := 74) dX8_joins_52 (by decide) ?_
            refine s_lv hG [] rfl ?_
            exact hb74 _
          · refine s_lv hG [] rfl ?_
            exact hb47 
  · refine s_iload_n hG dX8_joins_4 rfl ?_
    refine s_iconst hG (v := (2 : Int32)) dX8_joins_5 (by decide) ?_
    refine s_icmp_eq hG (tgt := 20) dX8_joins_6 (by decide) ?_ ?_
    · refine s_lv hG [] rfl ?_
      exact hb20 
    · refine s_iload_n hG dX8_joins_9 rfl ?_
      refine s_iconst hG (v := (3 : Int32)) dX8_joins_10 (by decide) ?_
      refine s_icmp_eq hG (tgt := 20) dX8_joins_11 (by decide) ?_ ?_
      · refine s_lv hG [] rfl ?_
        exact hb20 
      · refine s_iload_n hG dX8_joins_14 rfl ?_
        refine s_bipush hG (v := (6 : Int32)) dX8_joins_15 (by decide) ?_
        refine s_icmp_ne hG (tgt := 24) dX8_joins_17 (by decide) ?_ ?_
        · refine s_iconst hG (v := (0 : Int32)) dX8_joins_24 (by decide) ?_
          refine s_lv hG [] rfl ?_
          exact hb25 _
        · refine s_lv hG [] rfl ?_
          exact hb20 

def f_X8_partOf_b108 (p1 : Int32) (p2 : Int32) (p3 : Int32) (rec8 : Int32 × Int32 → Option (Int32)) (rec22 : Int32 × Int32 × Int32 → Option (Int32)) (S : HS) (x4 : Int32) (x5 : Int32) (x6 : Int32) : Option (Int32) :=
rec22 (x4, x5, (x6 + (1 : Int32)))
def f_X8_partOf_b84 (p1 : Int32) (p2 : Int32) (p3 : Int32) (rec8 : Int32 × Int32 → Option (Int32)) (rec22 : Int32 × Int32 × Int32 → Option (Int32)) (S : HS) (x4 : Int32) (x5 : Int32) (x6 : Int32) : Option (Int32) :=
if ib x6 (12) = true then
if ib x6 (12) = true then
f_X8_partOf_b108 p1 p2 p3 rec8 rec22 S (x4 ||| (((1 : Int32) <<< ((S.1 43 x6.toNatClampNeg) &&& 31)) ||| ((1 : Int32) <<< ((S.1 44 x6.toNatClampNeg) &&& 31)))) x5 x6
else none
else none
def F_X8_partOf_b22 (p1 : Int32) (p2 : Int32) (p3 : Int32) (rec8 : Int32 × Int32 → Option (Int32)) (S : HS) (rec22 : Int32 × Int32 × Int32 → Option (Int32)) : Int32 × Int32 × Int32 → Option (Int32) := fun q => match q with
  | (x4, x5, x6) =>
    if (S.1 36 7) ≤ x6 then
    rec8 (x4, x5)
    else
    (f_X8_has p3 x6 S).bind (fun o34 =>
    if o34 = 0 then
    f_X8_partOf_b108 p1 p2 p3 rec8 rec22 S x4 x5 x6
    else
    if ib x6 (12) = true then
    (f_X8_joins (S.1 42 x6.toNatClampNeg) p2 S).bind (fun o48 =>
    if o48 = 0 then
    f_X8_partOf_b108 p1 p2 p3 rec8 rec22 S x4 x5 x6
    else
    if ib x6 (12) = true then
    (f_X8_has x4 (S.1 43 x6.toNatClampNeg) S).bind (fun o63 =>
    if o63 = 0 then
    if ib x6 (12) = true then
    (f_X8_has x4 (S.1 44 x6.toNatClampNeg) S).bind (fun o78 =>
    if o78 = 0 then
    f_X8_partOf_b108 p1 p2 p3 rec8 rec22 S x4 x5 x6
    else
    f_X8_partOf_b84 p1 p2 p3 rec8 rec22 S x4 x5 x6)
    else none
    else
    f_X8_partOf_b84 p1 p2 p3 rec8 rec22 S x4 x5 x6)
    else none)
    else none)
def f_X8_partOf_b22 (p1 : Int32) (p2 : Int32) (p3 : Int32) (rec8 : Int32 × Int32 → Option (Int32)) (S : HS) (x4 : Int32) (x5 : Int32) (x6 : Int32) : Option (Int32) := fx (F_X8_partOf_b22 p1 p2 p3 rec8 S) FU (x4, x5, x6)
def F_X8_partOf_b8 (p1 : Int32) (p2 : Int32) (p3 : Int32)  (S : HS) (rec8 : Int32 × Int32 → Option (Int32)) : Int32 × Int32 → Option (Int32) := fun q => match q with
  | (x4, x5) =>
    if x4 = x5 then
    some x4
    else
    f_X8_partOf_b22 p1 p2 p3 rec8 S x4 x4 (0 : Int32)
def f_X8_partOf_b8 (p1 : Int32) (p2 : Int32) (p3 : Int32)  (S : HS) (x4 : Int32) (x5 : Int32) : Option (Int32) := fx (F_X8_partOf_b8 p1 p2 p3 S) FU (x4, x5)
def f_X8_partOf (p1 : Int32) (p2 : Int32) (p3 : Int32) (S : HS) : Option (Int32) :=
f_X8_partOf_b8 p1 p2 p3  S ((1 : Int32) <<< (p1 &&& 31)) (0 : Int32)
def rm_X8_partOf : Room := { frames := 1, cells := 0, slots := 0, locals := 21 }
set_option maxRecDepth 100000 in
set_option maxHeartbeats 4000000 in
theorem c_X8_partOf (l : Launch) (p1 : Int32) (p2 : Int32) (p3 : Int32)  (S : HS) (out : Int32) (h : f_X8_partOf p1 p2 p3 S = some out) : Ct l yX8_partOf cX8_partOf 7 (some .int) rm_X8_partOf [vR 36, vI p1, vI p2, vI p3] S (some (vI out)) S := by
  refine Ct.intro (own := RX8) (lv := [(0, vR 36), (1, vI p1), (2, vI p2), (3, vI p3)]) (by decide +kernel) rfl ⟨rfl, rfl⟩ rfl (Nat.le_of_ble_eq_true rfl) ?_
  intro G hG hR
  revert h
  have hb108 : ∀ (rec8 : Int32 × Int32 → Option (Int32)) (hrec8 : ∀ (x4 : Int32) (x5 : Int32), rec8 (x4, x5) = some out → G 0 0 S [(0, vR 36), (2, vI p2), (3, vI p3), (4, vI x4), (5, vI x5)] 8 []) (rec22 : Int32 × Int32 × Int32 → Option (Int32)) (hrec22 : ∀ (x4 : Int32) (x5 : Int32) (x6 : Int32), rec22 (x4, x5, x6) = some out → G 0 0 S [(0, vR 36), (2, vI p2), (3, vI p3), (4, vI x4), (5, vI x5), (6, vI x6)] 22 []) (x4 : Int32) (x5 : Int32) (x6 : Int32), f_X8_partOf_b108 p1 p2 p3 rec8 rec22 S x4 x5 x6 = some out → G 0 0 S [(0, vR 36), (2, vI p2), (3, vI p3), (4, vI x4), (5, vI x5), (6, vI x6)] 108 [] := by
    intro rec8 hrec8 rec22 hrec22 x4 x5 x6
    unfold f_X8_partOf_b108
    refine s_iinc hG (v := (x6 + (1 : Int32))) (lv' := [(6, vI (x6 + (1 : Int32))), (0, vR 36), (2, vI p2), (3, vI p3), (4, vI x4), (5, vI x5)]) dX8_partOf_108 rfl rfl (by decide) rfl ?_
    refine s_goto hG (tgt := 22) dX8_partOf_111 (by decide) ?_
    refine s_lv hG [1, 2, 3, 4, 5, 0] rfl ?_
    exact hrec22 _ _ _
  have hb84 : ∀ (rec8 : Int32 × Int32 → Option (Int32)) (hrec8 : ∀ (x4 : Int32) (x5 : Int32), rec8 (x4, x5) = some out → G 0 0 S [(0, vR 36), (2, vI p2), (3, vI p3), (4, vI x4), (5, vI x5)] 8 []) (rec22 : Int32 × Int32 × Int32 → Option (Int32)) (hrec22 : ∀ (x4 : Int32) (x5 : Int32) (x6 : Int32), rec22 (x4, x5, x6) = some out → G 0 0 S [(0, vR 36), (2, vI p2), (3, vI p3), (4, vI x4), (5, vI x5), (6, vI x6)] 22 []) (x4 : Int32) (x5 : Int32) (x6 : Int32), f_X8_partOf_b84 p1 p2 p3 rec8 rec22 S x4 x5 x6 = some out → G 0 0 S [(0, vR 36), (2, vI p2), (3, vI p3), (4, vI x4), (5, vI x5), (6, vI x6)] 84 [] := by
    intro rec8 hrec8 rec22 hrec22 x4 x5 x6
    unfold f_X8_partOf_b84
    refine s_iload hG dX8_partOf_84 rfl ?_
    refine s_iconst hG (v := (1 : Int32)) dX8_partOf_86 (by decide) ?_
    refine s_aload_n hG dX8_partOf_87 rfl ?_
    refine s_getC hG dX8_partOf_88 fl_RX8_29 (rfl) ?_
    refine s_iload hG dX8_partOf_91 rfl ?_
    refine s_iaload hG dX8_partOf_93 (rfl) ?_
    refine s_ishl hG dX8_partOf_94 ?_
    refine s_iconst hG (v := (1 : Int32)) dX8_partOf_95 (by decide) ?_
    refine s_aload_n hG dX8_partOf_96 rfl ?_
    refine s_getC hG dX8_partOf_97 fl_RX8_32 (rfl) ?_
    refine s_iload hG dX8_partOf_100 rfl ?_
    refine s_iaload hG dX8_partOf_102 (rfl) ?_
    refine s_ishl hG dX8_partOf_103 ?_
    refine s_ior hG dX8_partOf_104 ?_
    refine s_ior hG dX8_partOf_105 ?_
    refine s_istore hG (lv' := [(4, vI (x4 ||| (((1 : Int32) <<< ((S.1 43 x6.toNatClampNeg) &&& 31)) ||| ((1 : Int32) <<< ((S.1 44 x6.toNatClampNeg) &&& 31))))), (0, vR 36), (2, vI p2), (3, vI p3), (5, vI x5), (6, vI x6)]) dX8_partOf_106 (by decide) rfl ?_
    refine s_lv hG [1, 2, 3, 0, 4, 5] rfl ?_
    exact hb108 _ hrec8 _ hrec22 _ _ _
  have hb22 : ∀ (rec8 : Int32 × Int32 → Option (Int32)) (hrec8 : ∀ (x4 : Int32) (x5 : Int32), rec8 (x4, x5) = some out → G 0 0 S [(0, vR 36), (2, vI p2), (3, vI p3), (4, vI x4), (5, vI x5)] 8 []) (x4 : Int32) (x5 : Int32) (x6 : Int32), f_X8_partOf_b22 p1 p2 p3 rec8 S x4 x5 x6 = some out → G 0 0 S [(0, vR 36), (2, vI p2), (3, vI p3), (4, vI x4), (5, vI x5), (6, vI x6)] 22 [] := by
    intro rec8 hrec8 x4 x5 x6
    unfold f_X8_partOf_b22
    generalize FU = nf
    revert x4 x5 x6
    induction nf with
    | zero => intro x4 x5 x6 h9; cases h9
    | succ nf hrec22 =>
      intro x4 x5 x6
      show F_X8_partOf_b22 p1 p2 p3 rec8 S (fx (F_X8_partOf_b22 p1 p2 p3 rec8 S) nf) (x4, x5, x6) = some out → _
      generalize fx (F_X8_partOf_b22 p1 p2 p3 rec8 S) nf = rec22 at hrec22
      unfold F_X8_partOf_b22
      dsimp only
      refine s_iload hG dX8_partOf_22 rfl ?_
      refine s_aload_n hG dX8_partOf_24 rfl ?_
      refine s_getI hG dX8_partOf_25 fl_RX8_91 (rfl) ?_
      refine s_icmp_ge hG (tgt := 114) dX8_partOf_28 (by decide) ?_ ?_
      · refine s_goto hG (tgt := 8) dX8_partOf_114 (by decide) ?_
        refine s_lv hG [0, 1, 2, 3, 4] rfl ?_
        exact hrec8 _ _
      · refine s_iload_n hG dX8_partOf_31 rfl ?_
        refine s_iload hG dX8_partOf_32 rfl ?_
        refine s_csP hG (as := [vI p3, vI x6]) (st := []) (rm := rm_X8_has) dX8_partOf_34 ml_RX8_104 (tb20 (mem_i 2 rfl)) rfl ⟨rfl, rfl⟩ ⟨by decide, by decide⟩ (Nat.le_of_ble_eq_true rfl) ⟨Nat.zero_le _, Nat.zero_le _⟩ rfl (fun o h => c_X8_has l _ _ _ o h) (fun o34 => ?_)
        refine s_if_eq hG (tgt := 108) dX8_partOf_37 (by decide) ?_ ?_
        · exact hb108 _ hrec8 _ hrec22 _ _ _
        · refine s_aload_n hG dX8_partOf_40 rfl ?_
          refine s_getC hG dX8_partOf_41 fl_RX8_26 (rfl) ?_
          refine s_iload hG dX8_partOf_44 rfl ?_
          refine s_iaload hG dX8_partOf_46 (rfl) ?_
          refine s_iload_n hG dX8_partOf_47 rfl ?_
          refine s_csP hG (as := [vI (S.1 42 x6.toNatClampNeg), vI p2]) (st := []) (rm := rm_X8_joins) dX8_partOf_48 ml_RX8_108 (tb20 (mem_i 11 rfl)) rfl ⟨rfl, rfl⟩ ⟨by decide, by decide⟩ (Nat.le_of_ble_eq_true rfl) ⟨Nat.zero_le _, Nat.zero_le _⟩ rfl (fun o h => c_X8_joins l _ _ _ o h) (fun o48 => ?_)
          refine s_if_eq hG (tgt := 108) dX8_partOf_51 (by decide) ?_ ?_
          · exact hb108 _ hrec8 _ hrec22 _ _ _
          · refine s_iload hG dX8_partOf_54 rfl ?_
            refine s_aload_n hG dX8_partOf_56 rfl ?_
            refine s_getC hG dX8_partOf_57 fl_RX8_29 (rfl) ?_
            refine s_iload hG dX8_partOf_60 rfl ?_
            refine s_iaload hG dX8_partOf_62 (rfl) ?_
            refine s_csP hG (as := [vI x4, vI (S.1 43 x6.toNatClampNeg)]) (st := []) (rm := rm_X8_has) dX8_partOf_63 ml_RX8_104 (tb20 (mem_i 2 rfl)) rfl ⟨rfl, rfl⟩ ⟨by decide, by decide⟩ (Nat.le_of_ble_eq_true rfl) ⟨Nat.zero_le _, Nat.zero_le _⟩ rfl (fun o h => c_X8_has l _ _ _ o h) (fun o63 => ?_)
            refine s_if_ne hG (tgt := 84) dX8_partOf_66 (by decide) ?_ ?_
            · exact hb84 _ hrec8 _ hrec22 _ _ _
            · refine s_iload hG dX8_partOf_69 rfl ?_
              refine s_aload_n hG dX8_partOf_71 rfl ?_
              refine s_getC hG dX8_partOf_72 fl_RX8_32 (rfl) ?_
              refine s_iload hG dX8_partOf_75 rfl ?_
              refine s_iaload hG dX8_partOf_77 (rfl) ?_
              refine s_csP hG (as := [vI x4, vI (S.1 44 x6.toNatClampNeg)]) (st := []) (rm := rm_X8_has) dX8_partOf_78 ml_RX8_104 (tb20 (mem_i 2 rfl)) rfl ⟨rfl, rfl⟩ ⟨by decide, by decide⟩ (Nat.le_of_ble_eq_true rfl) ⟨Nat.zero_le _, Nat.zero_le _⟩ rfl (fun o h => c_X8_has l _ _ _ o h) (fun o78 => ?_)
              refine s_if_eq hG (tgt := 108) dX8_partOf_81 (by decide) ?_ ?_
              · exact hb108 _ hrec8 _ hrec22 _ _ _
              · exact hb84 _ hrec8 _ hrec22 _ _ _
  have hb8 : ∀ (x4 : Int32) (x5 : Int32), f_X8_partOf_b8 p1 p2 p3 S x4 x5 = some out → G 0 0 S [(0, vR 36), (2, vI p2), (3, vI p3), (4, vI x4), (5, vI x5)] 8 [] := by
    intro  x4 x5
    unfold f_X8_partOf_b8
    generalize FU = nf
    revert x4 x5
    induction nf with
    | zero => intro x4 x5 h9; cases h9
    | succ nf hrec8 =>
      intro x4 x5
      show F_X8_partOf_b8 p1 p2 p3 S (fx (F_X8_partOf_b8 p1 p2 p3 S) nf) (x4, x5) = some out → _
      generalize fx (F_X8_partOf_b8 p1 p2 p3 S) nf = rec8 at hrec8
      unfold F_X8_partOf_b8
      dsimp only
      refine s_iload hG dX8_partOf_8 rfl ?_
      refine s_iload hG dX8_partOf_10 rfl ?_
      refine s_icmp_eq hG (tgt := 117) dX8_partOf_12 (by decide) ?_ ?_
      · refine s_iload hG dX8_partOf_117 rfl ?_
        exact s_riP hR dX8_partOf_119
      · refine s_iload hG dX8_partOf_15 rfl ?_
        refine s_istore hG (lv' := [(5, vI x4), (0, vR 36), (2, vI p2), (3, vI p3), (4, vI x4)]) dX8_partOf_17 (by decide) rfl ?_
        refine s_iconst hG (v := (0 : Int32)) dX8_partOf_19 (by decide) ?_
        refine s_istore hG (lv' := [(6, vI (0 : Int32)), (5, vI x4), (0, vR 36), (2, vI p2), (3, vI p3), (4, vI x4)]) dX8_partOf_20 (by decide) rfl ?_
        refine s_lv hG [2, 3, 4, 5, 1, 0] rfl ?_
        exact hb22 _ hrec8 _ _ _
  unfold f_X8_partOf
  refine s_iconst hG (v := (1 : Int32)) dX8_partOf_0 (by decide) ?_
  refine s_iload_n hG dX8_partOf_1 rfl ?_
  refine s_ishl hG dX8_partOf_2 ?_
  refine s_istore hG (lv' := [(4, vI ((1 : Int32) <<< (p1 &&& 31))), (0, vR 36), (1, vI p1), (2, vI p2), (3, vI p3)]) dX8_partOf_3 (by decide) rfl ?_
  refine s_iconst hG (v := (0 : Int32)) dX8_partOf_5 (by decide) ?_
  refine s_istore hG (lv' := [(5, vI (0 : Int32)), (4, vI ((1 : Int32) <<< (p1 &&& 31))), (0, vR 36), (1, vI p1), (2, vI p2), (3, vI p3)]) dX8_partOf_6 (by decide) rfl ?_
  refine s_lv hG [2, 4, 5, 1, 0] rfl ?_
  exact hb8 _ _
