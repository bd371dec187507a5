/-! 09.leaf: by program (wip/p31/gen.py) -/
theorem dX7_has_0 : decode cX7_has 0 = .ok (.iload_n 2, 1) := by decide +kernel
theorem dX7_has_1 : decode cX7_has 1 = .ok (.ifCond .lt 23, 3) := by decide +kernel
theorem dX7_has_4 : decode cX7_has 4 = .ok (.iload_n 2, 1) := by decide +kernel
theorem dX7_has_5 : decode cX7_has 5 = .ok (.bipush 64, 2) := by decide +kernel
theorem dX7_has_7 : decode cX7_has 7 = .ok (.if_icmp .ge 17, 3) := by decide +kernel
theorem dX7_has_10 : decode cX7_has 10 = .ok (.lload_n 0, 1) := by decide +kernel
theorem dX7_has_11 : decode cX7_has 11 = .ok (.iload_n 2, 1) := by decide +kernel
theorem dX7_has_12 : decode cX7_has 12 = .ok (.lshr, 1) := by decide +kernel
theorem dX7_has_13 : decode cX7_has 13 = .ok (.lconst 1, 1) := by decide +kernel
theorem dX7_has_14 : decode cX7_has 14 = .ok (.land, 1) := by decide +kernel
theorem dX7_has_15 : decode cX7_has 15 = .ok (.lconst 0, 1) := by decide +kernel
theorem dX7_has_16 : decode cX7_has 16 = .ok (.lcmp, 1) := by decide +kernel
theorem dX7_has_17 : decode cX7_has 17 = .ok (.ifCond .eq 7, 3) := by decide +kernel
theorem dX7_has_20 : decode cX7_has 20 = .ok (.iconst 1, 1) := by decide +kernel
theorem dX7_has_21 : decode cX7_has 21 = .ok (.goto 4, 3) := by decide +kernel
theorem dX7_has_24 : decode cX7_has 24 = .ok (.iconst 0, 1) := by decide +kernel
theorem dX7_has_25 : decode cX7_has 25 = .ok (.ireturn, 1) := by decide +kernel
theorem dX7_isInRange_0 : decode cX7_isInRange 0 = .ok (.iload_n 1, 1) := by decide +kernel
theorem dX7_isInRange_1 : decode cX7_isInRange 1 = .ok (.iconst 2, 1) := by decide +kernel
theorem dX7_isInRange_2 : decode cX7_isInRange 2 = .ok (.if_icmp .ge 23, 3) := by decide +kernel
theorem dX7_isInRange_5 : decode cX7_isInRange 5 = .ok (.iload_n 0, 1) := by decide +kernel
theorem dX7_isInRange_6 : decode cX7_isInRange 6 = .ok (.sipush (-999), 3) := by decide +kernel
theorem dX7_isInRange_9 : decode cX7_isInRange 9 = .ok (.if_icmp .lt 14, 3) := by decide +kernel
theorem dX7_isInRange_12 : decode cX7_isInRange 12 = .ok (.iload_n 0, 1) := by decide +kernel
theorem dX7_isInRange_13 : decode cX7_isInRange 13 = .ok (.sipush 999, 3) := by decide +kernel
theorem dX7_isInRange_16 : decode cX7_isInRange 16 = .ok (.if_icmp .gt 7, 3) := by decide +kernel
theorem dX7_isInRange_19 : decode cX7_isInRange 19 = .ok (.iconst 1, 1) := by decide +kernel
theorem dX7_isInRange_20 : decode cX7_isInRange 20 = .ok (.goto 4, 3) := by decide +kernel
theorem dX7_isInRange_23 : decode cX7_isInRange 23 = .ok (.iconst 0, 1) := by decide +kernel
theorem dX7_isInRange_24 : decode cX7_isInRange 24 = .ok (.ireturn, 1) := by decide +kernel
theorem dX7_isInRange_25 : decode cX7_isInRange 25 = .ok (.iload_n 0, 1) := by decide +kernel
theorem dX7_isInRange_26 : decode cX7_isInRange 26 = .ok (.iconst 1, 1) := by decide +kernel
theorem dX7_isInRange_27 : decode cX7_isInRange 27 = .ok (.if_icmp .lt 13, 3) := by decide +kernel
theorem dX7_isInRange_30 : decode cX7_isInRange 30 = .ok (.iload_n 0, 1) := by decide +kernel
theorem dX7_isInRange_31 : decode cX7_isInRange 31 = .ok (.bipush 99, 2) := by decide +kernel
theorem dX7_isInRange_33 : decode cX7_isInRange 33 = .ok (.if_icmp .gt 7, 3) := by decide +kernel
theorem dX7_isInRange_36 : decode cX7_isInRange 36 = .ok (.iconst 1, 1) := by decide +kernel
theorem dX7_isInRange_37 : decode cX7_isInRange 37 = .ok (.goto 4, 3) := by decide +kernel
theorem dX7_isInRange_40 : decode cX7_isInRange 40 = .ok (.iconst 0, 1) := by decide +kernel
theorem dX7_isInRange_41 : decode cX7_isInRange 41 = .ok (.ireturn, 1) := by decide +kernel
theorem dX7_isAbout_0 : decode cX7_isAbout 0 = .ok (.iload_n 1, 1) := by decide +kernel
theorem dX7_isAbout_1 : decode cX7_isAbout 1 = .ok (.tableswitch 96 0 3 #[31, 53, 75, 85], 31) := by decide +kernel
theorem dX7_isAbout_32 : decode cX7_isAbout 32 = .ok (.iload_n 0, 1) := by decide +kernel
theorem dX7_isAbout_33 : decode cX7_isAbout 33 = .ok (.iconst 2, 1) := by decide +kernel
theorem dX7_isAbout_34 : decode cX7_isAbout 34 = .ok (.if_icmp .eq 14, 3) := by decide +kernel
theorem dX7_isAbout_37 : decode cX7_isAbout 37 = .ok (.iload_n 0, 1) := by decide +kernel
theorem dX7_isAbout_38 : decode cX7_isAbout 38 = .ok (.iconst 3, 1) := by decide +kernel
theorem dX7_isAbout_39 : decode cX7_isAbout 39 = .ok (.if_icmp .eq 9, 3) := by decide +kernel
theorem dX7_isAbout_42 : decode cX7_isAbout 42 = .ok (.iload_n 0, 1) := by decide +kernel
theorem dX7_isAbout_43 : decode cX7_isAbout 43 = .ok (.bipush 6, 2) := by decide +kernel
theorem dX7_isAbout_45 : decode cX7_isAbout 45 = .ok (.if_icmp .ne 7, 3) := by decide +kernel
theorem dX7_isAbout_48 : decode cX7_isAbout 48 = .ok (.iconst 1, 1) := by decide +kernel
theorem dX7_isAbout_49 : decode cX7_isAbout 49 = .ok (.goto 4, 3) := by decide +kernel
theorem dX7_isAbout_52 : decode cX7_isAbout 52 = .ok (.iconst 0, 1) := by decide +kernel
theorem dX7_isAbout_53 : decode cX7_isAbout 53 = .ok (.ireturn, 1) := by decide +kernel
theorem dX7_isAbout_54 : decode cX7_isAbout 54 = .ok (.iload_n 0, 1) := by decide +kernel
theorem dX7_isAbout_55 : decode cX7_isAbout 55 = .ok (.iconst 4, 1) := by decide +kernel
theorem dX7_isAbout_56 : decode cX7_isAbout 56 = .ok (.if_icmp .eq 14, 3) := by decide +kernel
theorem dX7_isAbout_59 : decode cX7_isAbout 59 = .ok (.iload_n 0, 1) := by decide +kernel
theorem dX7_isAbout_60 : decode cX7_isAbout 60 = .ok (.iconst 5, 1) := by decide +kernel
theorem dX7_isAbout_61 : decode cX7_isAbout 61 = .ok (.if_icmp .eq 9, 3) := by decide +kernel
theorem dX7_isAbout_64 : decode cX7_isAbout 64 = .ok (.iload_n 0, 1) := by decide +kernel
theorem dX7_isAbout_65 : decode cX7_isAbout 65 = .ok (.bipush 6, 2) := by decide +kernel
theorem dX7_isAbout_67 : decode cX7_isAbout 67 = .ok (.if_icmp .ne 7, 3) := by decide +kernel
theorem dX7_isAbout_70 : decode cX7_isAbout 70 = .ok (.iconst 1, 1) := by decide +kernel
theorem dX7_isAbout_71 : decode cX7_isAbout 71 = .ok (.goto 4, 3) := by decide +kernel
theorem dX7_isAbout_74 : decode cX7_isAbout 74 = .ok (.iconst 0, 1) := by decide +kernel
theorem dX7_isAbout_75 : decode cX7_isAbout 75 = .ok (.ireturn, 1) := by decide +kernel
theorem dX7_isAbout_76 : decode cX7_isAbout 76 = .ok (.iload_n 0, 1) := by decide +kernel
theorem dX7_isAbout_77 : decode cX7_isAbout 77 = .ok (.ifCond .ne 7, 3) := by decide +kernel
theorem dX7_isAbout_80 : decode cX7_isAbout 80 = .ok (.iconst 1, 1) := by decide +kernel
theorem dX7_isAbout_81 : decode cX7_isAbout 81 = .ok (.goto 4, 3) := by decide +kernel
theorem dX7_isAbout_84 : decode cX7_isAbout 84 = .ok (.iconst 0, 1) := by decide +kernel
theorem dX7_isAbout_85 : decode cX7_isAbout 85 = .ok (.ireturn, 1) := by decide +kernel
theorem dX7_isAbout_86 : decode cX7_isAbout 86 = .ok (.iload_n 0, 1) := by decide +kernel
theorem dX7_isAbout_87 : decode cX7_isAbout 87 = .ok (.iconst 1, 1) := by decide +kernel
theorem dX7_isAbout_88 : decode cX7_isAbout 88 = .ok (.if_icmp .ne 7, 3) := by decide +kernel
theorem dX7_isAbout_91 : decode cX7_isAbout 91 = .ok (.iconst 1, 1) := by decide +kernel
theorem dX7_isAbout_92 : decode cX7_isAbout 92 = .ok (.goto 4, 3) := by decide +kernel
theorem dX7_isAbout_95 : decode cX7_isAbout 95 = .ok (.iconst 0, 1) := by decide +kernel
theorem dX7_isAbout_96 : decode cX7_isAbout 96 = .ok (.ireturn, 1) := by decide +kernel
theorem dX7_isAbout_97 : decode cX7_isAbout 97 = .ok (.iconst 0, 1) := by decide +kernel
theorem dX7_isAbout_98 : decode cX7_isAbout 98 = .ok (.ireturn, 1) := by decide +kernel
theorem dX7_read_0 : decode cX7_read 0 = .ok (.iload_n 1, 1) := by decide +kernel
theorem dX7_read_1 : decode cX7_read 1 = .ok (.ifCond .lt 15, 3) := by decide +kernel
theorem dX7_read_4 : decode cX7_read 4 = .ok (.iload_n 1, 1) := by decide +kernel
theorem dX7_read_5 : decode cX7_read 5 = .ok (.aload_n 0, 1) := by decide +kernel
theorem dX7_read_6 : decode cX7_read 6 = .ok (.arraylength, 1) := by decide +kernel
theorem dX7_read_7 : decode cX7_read 7 = .ok (.if_icmp .ge 9, 3) := by decide +kernel
theorem dX7_read_10 : decode cX7_read 10 = .ok (.aload_n 0, 1) := by decide +kernel
theorem dX7_read_11 : decode cX7_read 11 = .ok (.iload_n 1, 1) := by decide +kernel
theorem dX7_read_12 : decode cX7_read 12 = .ok (.iaload, 1) := by decide +kernel
theorem dX7_read_13 : decode cX7_read 13 = .ok (.goto 4, 3) := by decide +kernel
theorem dX7_read_16 : decode cX7_read 16 = .ok (.iconst 0, 1) := by decide +kernel
theorem dX7_read_17 : decode cX7_read 17 = .ok (.ireturn, 1) := by decide +kernel
theorem dX7_put_0 : decode cX7_put 0 = .ok (.iload_n 1, 1) := by decide +kernel
theorem dX7_put_1 : decode cX7_put 1 = .ok (.ifCond .lt 13, 3) := by decide +kernel
theorem dX7_put_4 : decode cX7_put 4 = .ok (.iload_n 1, 1) := by decide +kernel
theorem dX7_put_5 : decode cX7_put 5 = .ok (.aload_n 0, 1) := by decide +kernel
theorem dX7_put_6 : decode cX7_put 6 = .ok (.arraylength, 1) := by decide +kernel
theorem dX7_put_7 : decode cX7_put 7 = .ok (.if_icmp .ge 7, 3) := by decide +kernel
theorem dX7_put_10 : decode cX7_put 10 = .ok (.aload_n 0, 1) := by decide +kernel
theorem dX7_put_11 : decode cX7_put 11 = .ok (.iload_n 1, 1) := by decide +kernel
theorem dX7_put_12 : decode cX7_put 12 = .ok (.iload_n 2, 1) := by decide +kernel
theorem dX7_put_13 : decode cX7_put 13 = .ok (.iastore, 1) := by decide +kernel
theorem dX7_put_14 : decode cX7_put 14 = .ok (.return_, 1) := by decide +kernel
def f_X7_has_b25 (p0 : Int64) (p2 : Int32)  (S : HS) (t0 : Int32) : Option (Int32) :=
if nz t0 = true then some t0 else none
def f_X7_has_b24 (p0 : Int64) (p2 : Int32)  (S : HS)  : Option (Int32) :=
f_X7_has_b25 p0 p2  S (0 : Int32)
def f_X7_has (p0 : Int64) (p2 : Int32) (S : HS) : Option (Int32) :=
if p2 < 0 then
f_X7_has_b24 p0 p2  S
else
if (64 : Int32) ≤ p2 then
f_X7_has_b24 p0 p2  S
else
if (lg_cmp ((p0 >>> (p2.toInt64 &&& 63)) &&& (1 : Int64)) (0 : Int64)) = 0 then
f_X7_has_b24 p0 p2  S
else
f_X7_has_b25 p0 p2  S (1 : Int32)
def rm_X7_has : Room := { frames := 0, cells := 0, slots := 0, locals := 0 }
set_option maxRecDepth 100000 in
set_option maxHeartbeats 4000000 in
theorem c_X7_has (l : Launch) (p0 : Int64) (p2 : Int32)  (S : HS) (out : Int32) (h : f_X7_has p0 p2 S = some out) : Ct l yX7_has cX7_has 3 (some .boolean) rm_X7_has [vL p0, vI p2] S (some (vI out)) S := by
  refine Ct.intro (own := RX7) (lv := [(0, vL p0), (2, vI p2)]) (by decide +kernel) rfl ⟨rfl, rfl⟩ rfl (Nat.le_of_ble_eq_true rfl) ?_
  intro G hG hR
  revert h
  have hb25 : ∀ (t0 : Int32), f_X7_has_b25 p0 p2 S t0 = some out → G 0 0 S [] 25 [vI t0] := by
    intro t0
    unfold f_X7_has_b25
    exact s_rzP hR dX7_has_25
  have hb24 :  f_X7_has_b24 p0 p2 S  = some out → G 0 0 S [] 24 [] := by
    skip
    unfold f_X7_has_b24
    refine s_iconst hG (v := (0 : Int32)) dX7_has_24 (by decide) ?_
    exact hb25 _
  unfold f_X7_has
  refine s_iload_n hG dX7_has_0 rfl ?_
  refine s_if_lt hG (tgt := 24) dX7_has_1 (by decide) ?_ ?_
  · refine s_lv hG [] rfl ?_
    exact hb24 
  · refine s_iload_n hG dX7_has_4 rfl ?_
    refine s_bipush hG (v := (64 : Int32)) dX7_has_5 (by decide) ?_
    refine s_icmp_ge hG (tgt := 24) dX7_has_7 (by decide) ?_ ?_
    · refine s_lv hG [] rfl ?_
      exact hb24 
    · refine s_lload_n hG dX7_has_10 rfl ?_
      refine s_iload_n hG dX7_has_11 rfl ?_
      refine s_lshr hG dX7_has_12 ?_
      refine s_lconst hG (v := (1 : Int64)) dX7_has_13 (by decide) ?_
      refine s_land hG dX7_has_14 ?_
      refine s_lconst hG (v := (0 : Int64)) dX7_has_15 (by decide) ?_
      refine s_lcmp hG dX7_has_16 ?_
      refine s_if_eq hG (tgt := 24) dX7_has_17 (by decide) ?_ ?_
      · refine s_lv hG [] rfl ?_
        exact hb24 
      · refine s_iconst hG (v := (1 : Int32)) dX7_has_20 (by decide) ?_
        refine s_goto hG (tgt := 25) dX7_has_21 (by decide) ?_
        refine s_lv hG [] rfl ?_
        exact hb25 _

def f_X7_isInRange_b41 (p0 : Int32) (p1 : Int32)  (S : HS) (t0 : Int32) : Option (Int32) :=
if nz t0 = true then some t0 else none
def f_X7_isInRange_b40 (p0 : Int32) (p1 : Int32)  (S : HS)  : Option (Int32) :=
f_X7_isInRange_b41 p0 p1  S (0 : Int32)
def f_X7_isInRange_b24 (p0 : Int32) (p1 : Int32)  (S : HS) (t0 : Int32) : Option (Int32) :=
if nz t0 = true then some t0 else none
def f_X7_isInRange_b23 (p0 : Int32) (p1 : Int32)  (S : HS)  : Option (Int32) :=
f_X7_isInRange_b24 p0 p1  S (0 : Int32)
def f_X7_isInRange (p0 : Int32) (p1 : Int32) (S : HS) : Option (Int32) :=
if (2 : Int32) ≤ p1 then
if p0 < (1 : Int32) then
f_X7_isInRange_b40 p0 p1  S
else
if (99 : Int32) < p0 then
f_X7_isInRange_b40 p0 p1  S
else
f_X7_isInRange_b41 p0 p1  S (1 : Int32)
else
if p0 < (-999 : Int32) then
f_X7_isInRange_b23 p0 p1  S
else
if (999 : Int32) < p0 then
f_X7_isInRange_b23 p0 p1  S
else
f_X7_isInRange_b24 p0 p1  S (1 : Int32)
def rm_X7_isInRange : Room := { frames := 0, cells := 0, slots := 0, locals := 0 }
set_option maxRecDepth 100000 in
set_option maxHeartbeats 4000000 in
theorem c_X7_isInRange (l : Launch) (p0 : Int32) (p1 : Int32)  (S : HS) (out : Int32) (h : f_X7_isInRange p0 p1 S = some out) : Ct l yX7_isInRange cX7_isInRange 2 (some .boolean) rm_X7_isInRange [vI p0, vI p1] S (some (vI out)) S := by
  refine Ct.intro (own := RX7) (lv := [(0, vI p0), (1, vI p1)]) (by decide +kernel) rfl ⟨rfl, rfl⟩ rfl (Nat.le_of_ble_eq_true rfl) ?_
  intro G hG hR
  revert h
  have hb41 : ∀ (t0 : Int32), f_X7_isInRange_b41 p0 p1 S t0 = some out → G 0 0 S [] 41 [vI t0] := by
    intro t0
    unfold f_X7_isInRange_b41
    exact s_rzP hR dX7_isInRange_41
  have hb40 :  f_X7_isInRange_b40 p0 p1 S  = some out → G 0 0 S [] 40 [] := by
    skip
    unfold f_X7_isInRange_b40
    refine s_iconst hG (v := (0 : Int32)) dX7_isInRange_40 (by decide) ?_
    exact hb41 _
  have hb24 : ∀ (t0 : Int32), f_X7_isInRange_b24 p0 p1 S t0 = some out → G 0 0 S [] 24 [vI t0] := by
    intro t0
    unfold f_X7_isInRange_b24
    exact s_rzP hR dX7_isInRange_24
  have hb23 :  f_X7_isInRange_b23 p0 p1 S  = some out → G 0 0 S [] 23 [] := by
    skip
    unfold f_X7_isInRange_b23
    refine s_iconst hG (v := (0 : Int32)) dX7_isInRange_23 (by decide) ?_
    exact hb24 _
  unfold f_X7_isInRange
  refine s_iload_n hG dX7_isInRange_0 rfl ?_
  refine s_iconst hG (v := (2 : Int32)) dX7_isInRange_1 (by decide) ?_
  refine s_icmp_ge hG (tgt := 25) dX7_isInRange_2 (by decide) ?_ ?_
  · refine s_iload_n hG dX7_isInRange_25 rfl ?_
    refine s_iconst hG (v := (1 : Int32)) dX7_isInRange_26 (by decide) ?_
    refine s_icmp_lt hG (tgt := 40) dX7_isInRange_27 (by decide) ?_ ?_
    · refine s_lv hG [] rfl ?_
      exact hb40 
    · refine s_iload_n hG dX7_isInRange_30 rfl ?_
      refine s_bipush hG (v := (99 : Int32)) dX7_isInRange_31 (by decide) ?_
      refine s_icmp_gt hG (tgt := 40) dX7_isInRange_33 (by decide) ?_ ?_
      · refine s_lv hG [] rfl ?_
        exact hb40 
      · refine s_iconst hG (v := (1 : Int32)) dX7_isInRange_36 (by decide) ?_
        refine s_goto hG (tgt := 41) dX7_isInRange_37 (by decide) ?_
        refine s_lv hG [] rfl ?_
        exact hb41 _
  · refine s_iload_n hG dX7_isInRange_5 rfl ?_
    refine s_sipush hG (v := (-999 : Int32)) dX7_isInRange_6 (by decide) ?_
    refine s_icmp_lt hG (tgt := 23) dX7_isInRange_9 (by decide) ?_ ?_
    · refine s_lv hG [] rfl ?_
      exact hb23 
    · refine s_iload_n hG dX7_isInRange_12 rfl ?_
      refine s_sipush hG (v := (999 : Int32)) dX7_isInRange_13 (by decide) ?_
      refine s_icmp_gt hG (tgt := 23) dX7_isInRange_16 (by decide) ?_ ?_
      · refine s_lv hG [] rfl ?_
        exact hb23 
      · refine s_iconst hG (v := (1 : Int32)) dX7_isInRange_19 (by decide) ?_
        refine s_goto hG (tgt := 24) dX7_isInRange_20 (by decide) ?_
        refine s_lv hG [] rfl ?_
        exact hb24 _

def f_X7_isAbout_b53 (p0 : Int32) (p1 : Int32)  (S : HS) (t0 : Int32) : Option (Int32) :=
if nz t0 = true then some t0 else none
def f_X7_isAbout_b48 (p0 : Int32) (p1 : Int32)  (S : HS)  : Option (Int32) :=
f_X7_isAbout_b53 p0 p1  S (1 : Int32)
def f_X7_isAbout_b75 (p0 : Int32) (p1 : Int32)  (S : HS) (t0 : Int32) : Option (Int32) :=
if nz t0 = true then some t0 else none
def f_X7_isAbout_b70 (p0 : Int32) (p1 : Int32)  (S : HS)  : Option (Int32) :=
f_X7_isAbout_b75 p0 p1  S (1 : Int32)
def f_X7_isAbout_b85 (p0 : Int32) (p1 : Int32)  (S : HS) (t0 : Int32) : Option (Int32) :=
if nz t0 = true then some t0 else none
def f_X7_isAbout_b96 (p0 : Int32) (p1 : Int32)  (S : HS) (t0 : Int32) : Option (Int32) :=
if nz t0 = true then some t0 else none
def f_X7_isAbout (p0 : Int32) (p1 : Int32) (S : HS) : Option (Int32) :=
if p1 = (0 : Int32) then
if p0 = (2 : Int32) then
f_X7_isAbout_b48 p0 p1  S
else
if p0 = (3 : Int32) then
f_X7_isAbout_b48 p0 p1  S
else
if p0 = (6 : Int32) then
f_X7_isAbout_b48 p0 p1  S
else
f_X7_isAbout_b53 p0 p1  S (0 : Int32)
else if p1 = (1 : Int32) then
if p0 = (4 : Int32) then
f_X7_isAbout_b70 p0 p1  S
else
if p0 = (5 : Int32) then
f_X7_isAbout_b70 p0 p1  S
else
if p0 = (6 : Int32) then
f_X7_isAbout_b70 p0 p1  S
else
f_X7_isAbout_b75 p0 p1  S (0 : Int32)
else if p1 = (2 : Int32) then
if p0 = 0 then
f_X7_isAbout_b85 p0 p1  S (1 : Int32)
else
f_X7_isAbout_b85 p0 p1  S (0 : Int32)
else if p1 = (3 : Int32) then
if p0 = (1 : Int32) then
f_X7_isAbout_b96 p0 p1  S (1 : Int32)
else
f_X7_isAbout_b96 p0 p1  S (0 : Int32)
else 
if nz (0 : Int32) = true then some (0 : Int32) else none
def rm_X7_isAbout : Room := { frames := 0, cells := 0, slots := 0, locals := 0 }
set_option maxRecDepth 100000 in
set_option maxHeartbeats 4000000 in
theorem c_X7_isAbout (l : Launch) (p0 : Int32) (p1 : Int32)  (S : HS) (out : Int32) (h : f_X7_isAbout p0 p1 S = some out) : Ct l yX7_isAbout cX7_isAbout 2 (some .boolean) rm_X7_isAbout [vI p0, vI p1] S (some (vI out)) S := by
  refine Ct.intro (own := RX7) (lv := [(0, vI p0), (1, vI p1)]) (by decide +kernel) rfl ⟨rfl, rfl⟩ rfl (Nat.le_of_ble_eq_true rfl) ?_
  intro G hG hR
  revert h
  have hb53 : ∀ (t0 : Int32), f_X7_isAbout_b53 p0 p1 S t0 = some out → G 0 0 S [] 53 [vI t0] := by
    intro t0
    unfold f_X7_isAbout_b53
    exact s_rzP hR dX7_isAbout_53
  have hb48 :  f_X7_isAbout_b48 p0 p1 S  = some out → G 0 0 S [] 48 [] := by
    skip
    unfold f_X7_isAbout_b48
    refine s_iconst hG (v := (1 : Int32)) dX7_isAbout_48 (by decide) ?_
    refine s_goto hG (tgt := 53) dX7_isAbout_49 (by decide) ?_
    exact hb53 _
  have hb75 : ∀ (t0 : Int32), f_X7_isAbout_b75 p0 p1 S t0 = some out → G 0 0 S [] 75 [vI t0] := by
    intro t0
    unfold f_X7_isAbout_b75
    exact s_rzP hR dX7_isAbout_75
  have hb70 :  f_X7_isAbout_b70 p0 p1 S  = some out → G 0 0 S [] 70 [] := by
    skip
    unfold f_X7_isAbout_b70
    refine s_iconst hG (v := (1 : Int32)) dX7_isAbout_70 (by decide) ?_
    refine s_goto hG (tgt := 75) dX7_isAbout_71 (by decide) ?_
    exact hb75 _
  have hb85 : ∀ (t0 : Int32), f_X7_isAbout_b85 p0 p1 S t0 = some out → G 0 0 S [] 85 [vI t0] := by
    intro t0
    unfold f_X7_isAbout_b85
    exact s_rzP hR dX7_isAbout_85
  have hb96 : ∀ (t0 : Int32), f_X7_isAbout_b96 p0 p1 S t0 = some out → G 0 0 S [] 96 [vI t0] := by
    intro t0
    unfold f_X7_isAbout_b96
    exact s_rzP hR dX7_isAbout_96
  unfold f_X7_isAbout
  refine s_iload_n hG dX7_isAbout_0 rfl ?_
  refine s_tsw1 hG (v := (0 : Int32)) (tgt := 32) dX7_isAbout_1 (by decide) (by decide) rfl (by decide) ?_ (fun n1_0 => ?_)
  · refine s_iload_n hG dX7_isAbout_32 rfl ?_
    refine s_iconst hG (v := (2 : Int32)) dX7_isAbout_33 (by decide) ?_
    refine s_icmp_eq hG (tgt := 48) dX7_isAbout_34 (by decide) ?_ ?_
    · refine s_lv hG [] rfl ?_
      exact hb48 
    · refine s_iload_n hG dX7_isAbout_37 rfl ?_
      refine s_iconst hG (v := (3 : Int32)) dX7_isAbout_38 (by decide) ?_
      refine s_icmp_eq hG (tgt := 48) dX7_isAbout_39 (by decide) ?_ ?_
      · refine s_lv hG [] rfl ?_
        exact hb48 
      · refine s_iload_n hG dX7_isAbout_42 rfl ?_
        refine s_bipush hG (v := (6 : Int32)) dX7_isAbout_43 (by decide) ?_
        refine s_icmp_ne hG (tgt := 52) dX7_isAbout_45 (by decide) ?_ ?_
        · refine s_iconst hG (v := (0 : Int32)) dX7_isAbout_52 (by decide) ?_
          refine s_lv hG [] rfl ?_
          exact hb53 _
        · refine s_lv hG [] rfl ?_
          exact hb48 
  refine s_tsw1 hG (v := (1 : Int32)) (tgt := 54) dX7_isAbout_1 (by decide) (by decide) rfl (by decide) ?_ (fun n1_1 => ?_)
  · refine s_iload_n hG dX7_isAbout_54 rfl ?_
    refine s_iconst hG (v := (4 : Int32)) dX7_isAbout_55 (by decide) ?_
    refine s_icmp_eq hG (tgt := 70) dX7_isAbout_56 (by decide) ?_ ?_
    · refine s_lv hG [] rfl ?_
      exact hb70 
    · refine s_iload_n hG dX7_isAbout_59 rfl ?_
      refine s_iconst hG (v := (5 : Int32)) dX7_isAbout_60 (by decide) ?_
      refine s_icmp_eq hG (tgt := 70) dX7_isAbout_61 (by decide) ?_ ?_
      · refine s_lv hG [] rfl ?_
        exact hb70 
      · refine s_iload_n hG dX7_isAbout_64 rfl ?_
        refine s_bipush hG (v := (6 : Int32)) dX7_isAbout_65 (by decide) ?_
        refine s_icmp_ne hG (tgt := 74) dX7_isAbout_67 (by decide) ?_ ?_
        · refine s_iconst hG (v := (0 : Int32)) dX7_isAbout_74 (by decide) ?_
          refine s_lv hG [] rfl ?_
          exact hb75 _
        · refine s_lv hG [] rfl ?_
          exact hb70 
  refine s_tsw1 hG (v := (2 : Int32)) (tgt := 76) dX7_isAbout_1 (by decide) (by decide) rfl (by decide) ?_ (fun n1_2 => ?_)
  · refine s_iload_n hG dX7_isAbout_76 rfl ?_
    refine s_if_ne hG (tgt := 84) dX7_isAbout_77 (by decide) ?_ ?_
    · refine s_iconst hG (v := (0 : Int32)) dX7_isAbout_84 (by decide) ?_
      refine s_lv hG [] rfl ?_
      exact hb85 _
    · refine s_iconst hG (v := (1 : Int32)) dX7_isAbout_80 (by decide) ?_
      refine s_goto hG (tgt := 85) dX7_isAbout_81 (by decide) ?_
      refine s_lv hG [] rfl ?_
      exact hb85 _
  refine s_tsw1 hG (v := (3 : Int32)) (tgt := 86) dX7_isAbout_1 (by decide) (by decide) rfl (by decide) ?_ (fun n1_3 => ?_)
  · refine s_iload_n hG dX7_isAbout_86 rfl ?_
    refine s_iconst hG (v := (1 : Int32)) dX7_isAbout_87 (by decide) ?_
    refine s_icmp_ne hG (tgt := 95) dX7_isAbout_88 (by decide) ?_ ?_
    · refine s_iconst hG (v := (0 : Int32)) dX7_isAbout_95 (by decide) ?_
      refine s_lv hG [] rfl ?_
      exact hb96 _
    · refine s_iconst hG (v := (1 : Int32)) dX7_isAbout_91 (by decide) ?_
      refine s_goto hG (tgt := 96) dX7_isAbout_92 (by decide) ?_
      refine s_lv hG [] rfl ?_
      exact hb96 _
  refine s_tswD hG (tgt := 97) dX7_isAbout_1 (by have h0 := sw_ne n1_0 (z := 0) (by decide); have h1 := sw_ne n1_1 (z := 1) (by decide); have h2 := sw_ne n1_2 (z := 2) (by decide); have h3 := sw_ne n1_3 (z := 3) (by decide); omega) (by decide) ?_
  refine s_iconst hG (v := (0 : Int32)) dX7_isAbout_97 (by decide) ?_
  exact s_rzP hR dX7_isAbout_98

def f_X7_read_b17 (a0 : Nat) (p1 : Int32)  (S : HS) (t0 : Int32) : Option (Int32) :=
some t0
def f_X7_read_b16 (a0 : Nat) (p1 : Int32)  (S : HS)  : Option (Int32) :=
f_X7_read_b17 a0 p1  S (0 : Int32)
def f_X7_read (a0 : Nat) (p1 : Int32) (S : HS) : Option (Int32) :=
if p1 < 0 then
f_X7_read_b16 a0 p1  S
else
if (Int32.ofNat (alen a0)) ≤ p1 then
f_X7_read_b16 a0 p1  S
else
if ib p1 (alen a0) = true then
f_X7_read_b17 a0 p1  S (S.1 a0 p1.toNatClampNeg)
else none
def rm_X7_read : Room := { frames := 0, cells := 0, slots := 0, locals := 0 }
set_option maxRecDepth 100000 in
set_option maxHeartbeats 4000000 in
theorem c_X7_read (l : Launch) (a0 : Nat) (p1 : Int32) (ha0 : ak a0 = some (0, alen a0)) (S : HS) (out : Int32) (h : f_X7_read a0 p1 S = some out) : Ct l yX7_read cX7_read 2 (some .int) rm_X7_read [vR a0, vI p1] S (some (vI out)) S := by
  refine Ct.intro (own := RX7) (lv := [(0, vR a0), (1, vI p1)]) (by decide +kernel) rfl ⟨rfl, rfl⟩ rfl (Nat.le_of_ble_eq_true rfl) ?_
  intro G hG hR
  revert h
  have hb17 : ∀ (t0 : Int32), f_X7_read_b17 a0 p1 S t0 = some out → G 0 0 S [] 17 [vI t0] := by
    intro t0
    unfold f_X7_read_b17
    exact s_riP hR dX7_read_17
  have hb16 :  f_X7_read_b16 a0 p1 S  = some out → G 0 0 S [] 16 [] := by
    skip
    unfold f_X7_read_b16
    refine s_iconst hG (v := (0 : Int32)) dX7_read_16 (by decide) ?_
    exact hb17 _
  unfold f_X7_read
  refine s_iload_n hG dX7_read_0 rfl ?_
  refine s_if_lt hG (tgt := 16) dX7_read_1 (by decide) ?_ ?_
  · refine s_lv hG [] rfl ?_
    exact hb16 
  · refine s_iload_n hG dX7_read_4 rfl ?_
    refine s_aload_n hG dX7_read_5 rfl ?_
    refine s_alen hG (v := (Int32.ofNat (alen a0))) dX7_read_6 (ha0) (fun _ => rfl) rfl ?_
    refine s_icmp_ge hG (tgt := 16) dX7_read_7 (by decide) ?_ ?_
    · refine s_lv hG [] rfl ?_
      exact hb16 
    · refine s_aload_n hG dX7_read_10 rfl ?_
      refine s_iload_n hG dX7_read_11 rfl ?_
      refine s_iaload hG dX7_read_12 (ha0) ?_
      refine s_goto hG (tgt := 17) dX7_read_13 (by decide) ?_
      refine s_lv hG [] rfl ?_
      exact hb17 _

def f_X7_put_b14 (a0 : Nat) (p1 : Int32) (p2 : Int32)  (S : HS)  : Option (HS) :=
some S
def f_X7_put (a0 : Nat) (p1 : Int32) (p2 : Int32) (S : HS) : Option (HS) :=
if p1 < 0 then
f_X7_put_b14 a0 p1 p2  S
else
if (Int32.ofNat (alen a0)) ≤ p1 then
f_X7_put_b14 a0 p1 p2  S
else
if ib p1 (alen a0) = true then
f_X7_put_b14 a0 p1 p2  (sI S a0 p1.toNatClampNeg p2)
else none
def rm_X7_put : Room := { frames := 0, cells := 0, slots := 0, locals := 0 }
set_option maxRecDepth 100000 in
set_option maxHeartbeats 4000000 in
theorem c_X7_put (l : Launch) (a0 : Nat) (p1 : Int32) (p2 : Int32) (ha0 : ak a0 = some (0, alen a0)) (S : HS) (out : HS) (h : f_X7_put a0 p1 p2 S = some out) : Ct l yX7_put cX7_put 3 none rm_X7_put [vR a0, vI p1, vI p2] S none out := by
  refine Ct.intro (own := RX7) (lv := [(0, vR a0), (1, vI p1), (2, vI p2)]) (by decide +kernel) rfl ⟨rfl, rfl⟩ rfl (Nat.le_of_ble_eq_true rfl) ?_
  intro G hG hR
  revert h
  have hb14 : ∀ (S : HS), f_X7_put_b14 a0 p1 p2 S  = some out → G 0 0 S [] 14 [] := by
    intro S
    unfold f_X7_put_b14
    exact s_rvC hR dX7_put_14
  unfold f_X7_put
  refine s_iload_n hG dX7_put_0 rfl ?_
  refine s_if_lt hG (tgt := 14) dX7_put_1 (by decide) ?_ ?_
  · refine s_lv hG [] rfl ?_
    exact hb14 _
  · refine s_iload_n hG dX7_put_4 rfl ?_
    refine s_aload_n hG dX7_put_5 rfl ?_
    refine s_alen hG (v := (Int32.ofNat (alen a0))) dX7_put_6 (ha0) (fun _ => rfl) rfl ?_
    refine s_icmp_ge hG (tgt := 14) dX7_put_7 (by decide) ?_ ?_
    · refine s_lv hG [] rfl ?_
      exact hb14 _
    · refine s_aload_n hG dX7_put_10 rfl ?_
      refine s_iload_n hG dX7_put_11 rfl ?_
      refine s_iload_n hG dX7_put_12 rfl ?_
      refine s_iastore hG dX7_put_13 (ha0) ?_
      refine s_lv hG [] rfl ?_
      exact hb14 _
