/-! what holds at the law's entry, in the words of the other parts (by wip/p31/start.py) -/
set_option maxRecDepth 100000 in
theorem lt0 : ∀ w ∈ TBc0, w ∈ lw_tbl := by
  have h : TBc0 = [60, 61, 62, 63, 64, 65, 66, 67, 68, 69, 70, 71, 72, 73, 74, 75, 76, 77, 78, 79, 80, 81, 82, 85, 86, 87, 88, 89, 94, 95].filterMap (fun i => lw_tbl[i]?) := by rfl
  intro w hw
  rw [h] at hw
  obtain ⟨i, -, hi⟩ := List.mem_filterMap.mp hw
  exact List.mem_of_getElem? hi
theorem lt1 : ∀ w ∈ TBc1, w ∈ lw_tbl := by
  have h : TBc1 = [96, 97, 99, 100, 101, 102, 104, 106, 108, 111, 115, 116, 117, 118, 120, 123, 126, 129, 131, 133, 135, 141, 142, 143, 144, 146, 147, 148, 149, 150].filterMap (fun i => lw_tbl[i]?) := by decide +kernel
  intro w hw
  rw [h] at hw
  obtain ⟨i, -, hi⟩ := List.mem_filterMap.mp hw
  exact List.mem_of_getElem? hi
theorem lt2 : ∀ w ∈ TBc2, w ∈ lw_tbl := by
  have h : TBc2 = [151, 152, 154, 156, 158, 160, 162, 164, 170, 171, 172, 176, 177, 178, 179, 180, 181, 182, 183, 184, 188, 191, 193, 195, 197, 199, 201, 203, 206, 207].filterMap (fun i => lw_tbl[i]?) := by decide +kernel
  intro w hw
  rw [h] at hw
  obtain ⟨i, -, hi⟩ := List.mem_filterMap.mp hw
  exact List.mem_of_getElem? hi
theorem lt3 : ∀ w ∈ TBc3, w ∈ lw_tbl := by
  have h : TBc3 = [209, 210, 212, 214, 216, 218, 224, 225, 226, 227, 229, 231, 232, 233, 234, 236, 238, 240, 242, 245, 246, 250, 251, 252, 253, 254, 257, 259, 262, 263].filterMap (fun i => lw_tbl[i]?) := by decide +kernel
  intro w hw
  rw [h] at hw
  obtain ⟨i, -, hi⟩ := List.mem_filterMap.mp hw
  exact List.mem_of_getElem? hi
theorem lt4 : ∀ w ∈ TBc4, w ∈ lw_tbl := by
  have h : TBc4 = [264, 265, 266, 267, 268, 269, 270, 271, 273, 275, 277, 279, 281, 283, 285, 287, 290, 291, 292, 293, 294, 295, 296, 297, 298, 303, 304, 305, 306, 307].filterMap (fun i => lw_tbl[i]?) := by decide +kernel
  intro w hw
  rw [h] at hw
  obtain ⟨i, -, hi⟩ := List.mem_filterMap.mp hw
  exact List.mem_of_getElem? hi
theorem lt5 : ∀ w ∈ TBc5, w ∈ lw_tbl := by
  have h : TBc5 = [309, 310, 336, 380, 382, 383, 384, 385, 386, 403, 405, 406, 426, 427, 429, 430, 433, 434, 437, 438, 439, 441, 442, 445, 446, 449, 450, 454, 455, 458].filterMap (fun i => lw_tbl[i]?) := by decide +kernel
  intro w hw
  rw [h] at hw
  obtain ⟨i, -, hi⟩ := List.mem_filterMap.mp hw
  exact List.mem_of_getElem? hi
theorem lt6 : ∀ w ∈ TBc6, w ∈ lw_tbl := by
  have h : TBc6 = [459, 460, 461, 462, 465, 466, 469, 470, 471, 473, 474, 478, 479, 481, 482, 483, 485, 486, 488, 490, 491, 493, 494, 495, 497, 498, 499, 501, 502, 505].filterMap (fun i => lw_tbl[i]?) := by decide +kernel
  intro w hw
  rw [h] at hw
  obtain ⟨i, -, hi⟩ := List.mem_filterMap.mp hw
  exact List.mem_of_getElem? hi
theorem lt7 : ∀ w ∈ TBc7, w ∈ lw_tbl := by
  have h : TBc7 = [506, 510, 511, 512, 514, 515, 516, 518, 519, 520, 522, 523, 524, 526, 527, 528, 529, 530, 531, 532, 534, 535, 538, 539, 542, 543, 547, 548, 549, 551].filterMap (fun i => lw_tbl[i]?) := by decide +kernel
  intro w hw
  rw [h] at hw
  obtain ⟨i, -, hi⟩ := List.mem_filterMap.mp hw
  exact List.mem_of_getElem? hi
theorem lt8 : ∀ w ∈ TBc8, w ∈ lw_tbl := by
  have h : TBc8 = [552, 553, 554, 555, 556, 558, 559, 560, 561, 562, 564, 565, 569, 570, 574, 575, 576, 577, 578, 579, 580, 581, 582, 583, 588, 589, 591, 592, 593, 594].filterMap (fun i => lw_tbl[i]?) := by decide +kernel
  intro w hw
  rw [h] at hw
  obtain ⟨i, -, hi⟩ := List.mem_filterMap.mp hw
  exact List.mem_of_getElem? hi
theorem lt9 : ∀ w ∈ TBc9, w ∈ lw_tbl := by
  have h : TBc9 = [595, 597, 598, 600, 601, 602, 603, 604, 605, 606, 607, 608, 609, 614, 615, 618, 619, 622, 623, 624, 627, 628, 631, 632, 633, 634, 635, 636, 637, 638].filterMap (fun i => lw_tbl[i]?) := by decide +kernel
  intro w hw
  rw [h] at hw
  obtain ⟨i, -, hi⟩ := List.mem_filterMap.mp hw
  exact List.mem_of_getElem? hi
theorem lt10 : ∀ w ∈ TBc10, w ∈ lw_tbl := by
  have h : TBc10 = [639, 640, 641, 642, 643, 646, 647, 648, 650, 651, 653, 654, 655, 656, 659, 660, 661, 662, 663, 664, 665, 667, 668, 670, 672, 673, 674, 692, 693, 694].filterMap (fun i => lw_tbl[i]?) := by decide +kernel
  intro w hw
  rw [h] at hw
  obtain ⟨i, -, hi⟩ := List.mem_filterMap.mp hw
  exact List.mem_of_getElem? hi
theorem lt11 : ∀ w ∈ TBc11, w ∈ lw_tbl := by
  have h : TBc11 = [695, 699, 700, 701, 702, 703, 704, 706, 707, 708, 709, 710, 712, 713, 718, 719, 724, 725, 726, 727, 728, 729, 730, 731, 732, 733, 734, 735, 736, 737].filterMap (fun i => lw_tbl[i]?) := by decide +kernel
  intro w hw
  rw [h] at hw
  obtain ⟨i, -, hi⟩ := List.mem_filterMap.mp hw
  exact List.mem_of_getElem? hi
set_option maxRecDepth 100000 in
theorem lt12 : ∀ w ∈ TBc12, w ∈ lw_tbl := by
  have h : TBc12 = [738, 739, 740, 741, 742, 743, 744, 745, 746, 747, 748, 749, 750, 751, 752, 753, 754, 755, 756, 757, 758, 759, 760, 761, 763, 764, 766, 767, 768, 769].filterMap (fun i => lw_tbl[i]?) := by rfl
  intro w hw
  rw [h] at hw
  obtain ⟨i, -, hi⟩ := List.mem_filterMap.mp hw
  exact List.mem_of_getElem? hi
theorem lt13 : ∀ w ∈ TBc13, w ∈ lw_tbl := by
  have h : TBc13 = [770, 771, 772, 773, 774, 775, 776, 777, 778, 781, 782, 783, 784, 785, 786, 790, 791, 793, 795, 796, 798, 800, 801, 802, 804, 805, 806, 807, 808, 812].filterMap (fun i => lw_tbl[i]?) := by decide +kernel
  intro w hw
  rw [h] at hw
  obtain ⟨i, -, hi⟩ := List.mem_filterMap.mp hw
  exact List.mem_of_getElem? hi
set_option maxRecDepth 100000 in
theorem lt14 : ∀ w ∈ TBc14, w ∈ lw_tbl := by
  have h : TBc14 = [813, 815, 816, 818, 819, 820, 821, 824, 825, 828, 829, 830, 831, 832, 833, 834, 835, 836, 837, 838, 839, 840, 841, 842, 843, 844, 845, 846, 847, 850].filterMap (fun i => lw_tbl[i]?) := by rfl
  intro w hw
  rw [h] at hw
  obtain ⟨i, -, hi⟩ := List.mem_filterMap.mp hw
  exact List.mem_of_getElem? hi
set_option maxRecDepth 100000 in
theorem lt15 : ∀ w ∈ TBc15, w ∈ lw_tbl := by
  have h : TBc15 = [851, 853, 854, 855, 856, 857, 858, 859, 860, 861, 862, 863, 864, 865, 866, 867, 868, 869, 870, 873, 874, 876, 877, 878, 879, 880, 881, 882, 883, 884].filterMap (fun i => lw_tbl[i]?) := by rfl
  intro w hw
  rw [h] at hw
  obtain ⟨i, -, hi⟩ := List.mem_filterMap.mp hw
  exact List.mem_of_getElem? hi
theorem lt16 : ∀ w ∈ TBc16, w ∈ lw_tbl := by
  have h : TBc16 = [885, 886, 887, 0, 2, 3, 4, 5, 6, 7, 8, 9, 10, 11, 12, 13, 14, 15, 16, 17, 18, 19, 20, 21, 22, 23, 24, 25, 26, 27].filterMap (fun i => lw_tbl[i]?) := by decide +kernel
  intro w hw
  rw [h] at hw
  obtain ⟨i, -, hi⟩ := List.mem_filterMap.mp hw
  exact List.mem_of_getElem? hi
theorem lt17 : ∀ w ∈ TBc17, w ∈ lw_tbl := by
  have h : TBc17 = [28, 29, 30, 31, 32, 33, 34, 35, 36, 37, 38, 39, 40, 41, 42, 43, 44, 45, 46, 47, 48, 49, 50, 51, 52, 53, 54, 55, 56, 57].filterMap (fun i => lw_tbl[i]?) := by decide +kernel
  intro w hw
  rw [h] at hw
  obtain ⟨i, -, hi⟩ := List.mem_filterMap.mp hw
  exact List.mem_of_getElem? hi
theorem lt18 : ∀ w ∈ TBc18, w ∈ lw_tbl := by
  have h : TBc18 = [58, 59].filterMap (fun i => lw_tbl[i]?) := by decide +kernel
  intro w hw
  rw [h] at hw
  obtain ⟨i, -, hi⟩ := List.mem_filterMap.mp hw
  exact List.mem_of_getElem? hi
theorem lt19 : ∀ w ∈ TBc19, w ∈ lw_tbl := by
  have h : TBc19 = [69, 70, 71, 72, 73, 74, 75, 76, 77, 78, 79, 83, 84, 88, 89, 90, 91, 92, 96, 110, 112, 113, 117, 137, 138, 139, 143, 166, 167, 168, 172, 173, 174, 178, 205, 220, 221, 222, 226, 244, 247, 248, 252, 261, 289, 299, 300, 301, 302, 311, 312, 320, 321, 322, 323, 324, 325, 326, 327, 328, 329, 330, 331, 332, 333, 334, 335, 336, 337, 339, 341, 342, 343, 344, 345, 346, 347, 348, 350, 351, 352, 354, 355, 356, 357, 358, 359, 360, 361, 362, 363, 364, 365, 366, 367, 368, 369, 370, 375, 378, 387, 388, 390, 391, 392, 393, 394, 395, 397, 398, 399, 400, 401, 402, 408, 409, 411, 412, 413, 414, 415, 416, 418, 419, 420, 421, 422, 423, 460, 462, 528, 530, 600, 602, 634, 636, 675, 676, 678, 679, 680, 681, 682, 683, 685, 686, 687, 688, 689, 690, 806, 808, 876, 889, 1].filterMap (fun i => lw_tbl[i]?) := by decide +kernel
  intro w hw
  rw [h] at hw
  obtain ⟨i, -, hi⟩ := List.mem_filterMap.mp hw
  exact List.mem_of_getElem? hi
theorem ln0 : ∀ w ∈ NFc0, w ∈ lw_tbl := by
  have h : NFc0 = [93, 98, 114, 119, 121, 122, 124, 125, 127, 128, 140, 145, 169, 175, 185, 186, 187, 189, 190, 208, 211, 223, 228, 230, 249, 255, 256, 424, 428, 431].filterMap (fun i => lw_tbl[i]?) := by decide +kernel
  intro w hw
  rw [h] at hw
  obtain ⟨i, -, hi⟩ := List.mem_filterMap.mp hw
  exact List.mem_of_getElem? hi
theorem ln1 : ∀ w ∈ NFc1, w ∈ lw_tbl := by
  have h : NFc1 = [435, 436, 443, 447, 451, 452, 456, 463, 467, 475, 476, 480, 487, 492, 503, 507, 508, 536, 540, 545, 567, 571, 572, 586, 590, 610, 612, 616, 620, 625].filterMap (fun i => lw_tbl[i]?) := by decide +kernel
  intro w hw
  rw [h] at hw
  obtain ⟨i, -, hi⟩ := List.mem_filterMap.mp hw
  exact List.mem_of_getElem? hi
theorem ln2 : ∀ w ∈ NFc2, w ∈ lw_tbl := by
  have h : NFc2 = [629, 644, 691, 697, 705, 716, 720, 722, 779, 788, 792, 797, 809, 810, 814, 822, 826, 848, 852, 871, 875, 888, 313, 314, 315, 316, 317, 318, 319, 389].filterMap (fun i => lw_tbl[i]?) := by decide +kernel
  intro w hw
  rw [h] at hw
  obtain ⟨i, -, hi⟩ := List.mem_filterMap.mp hw
  exact List.mem_of_getElem? hi
theorem ln3 : ∀ w ∈ NFc3, w ∈ lw_tbl := by
  have h : NFc3 = [410, 677, 890, 891, 892, 893, 894, 895, 896, 897, 898, 899, 900, 901, 902, 903].filterMap (fun i => lw_tbl[i]?) := by decide +kernel
  intro w hw
  rw [h] at hw
  obtain ⟨i, -, hi⟩ := List.mem_filterMap.mp hw
  exact List.mem_of_getElem? hi
theorem TB_lw : ∀ w ∈ TB, w ∈ lw_tbl := by
  intro w h
  unfold TB at h
  rcases List.mem_append.mp h with h | h
  · exact lt0 w h
  rcases List.mem_append.mp h with h | h
  · exact lt1 w h
  rcases List.mem_append.mp h with h | h
  · exact lt2 w h
  rcases List.mem_append.mp h with h | h
  · exact lt3 w h
  rcases List.mem_append.mp h with h | h
  · exact lt4 w h
  rcases List.mem_append.mp h with h | h
  · exact lt5 w h
  rcases List.mem_append.mp h with h | h
  · exact lt6 w h
  rcases List.mem_append.mp h with h | h
  · exact lt7 w h
  rcases List.mem_append.mp h with h | h
  · exact lt8 w h
  rcases List.mem_append.mp h with h | h
  · exact lt9 w h
  rcases List.mem_append.mp h with h | h
  · exact lt10 w h
  rcases List.mem_append.mp h with h | h
  · exact lt11 w h
  rcases List.mem_append.mp h with h | h
  · exact lt12 w h
  rcases List.mem_append.mp h with h | h
  · exact lt13 w h
  rcases List.mem_append.mp h with h | h
  · exact lt14 w h
  rcases List.mem_append.mp h with h | h
  · exact lt15 w h
  rcases List.mem_append.mp h with h | h
  · exact lt16 w h
  rcases List.mem_append.mp h with h | h
  · exact lt17 w h
  rcases List.mem_append.mp h with h | h
  · exact lt18 w h
  exact lt19 w h
theorem NF_lw : ∀ w ∈ NF, w ∈ lw_tbl := by
  intro w h
  unfold NF at h
  rcases List.mem_append.mp h with h | h
  · exact ln0 w h
  rcases List.mem_append.mp h with h | h
  · exact ln1 w h
  rcases List.mem_append.mp h with h | h
  · exact ln2 w h
  exact ln3 w h
abbrev lw_N : Jvm.Cond := Jvm.Cond.and given_1 narrow_1
theorem STR_lw : ∀ q ∈ STR, Cond.stringRef q.1 q.2.1 q.2.2 ∈ lw_tbl ∧ Cond.exactly (.string q.1 q.2.1) "java/lang/String" ∈ flatC lw_N := by decide +kernel
theorem NCS_lw : ∀ q ∈ NCS, Cond.not (.castable q.1 q.2) ∈ flatC lw_N := by decide +kernel
theorem sta_lw : Cond.laysStatic Bundle.tN "UNASSIGNED_STACK" Bundle.steD ∈ lw_tbl ∧ Cond.laysStatic Bundle.tN "SUPPRESSED_SENTINEL" Bundle.listD ∈ lw_tbl ∧ Cond.initialized Bundle.tN ∈ lw_tbl ∧ Cond.isRef (.static Bundle.tN "UNASSIGNED_STACK" Bundle.steD) ∈ flatC lw_N ∧ Cond.isRef (.static Bundle.tN "SUPPRESSED_SENTINEL" Bundle.listD) ∈ flatC lw_N := by decide +kernel
theorem NwA_at {args : Array Value} {s : State} (hts : ∀ w ∈ lw_tbl, w.before args s = true) (hgv : lw_N.before args s = true) : NwA s := by
  have hs := flat_of_before _ hgv
  refine ⟨fun w hw => va_Nw.of (List.all_eq_true.mp nf_tab w hw) (hts w (NF_lw w hw)), fun q hq => ?_, fun q hq => va_Nc.of (hs _ (NCS_lw q hq))⟩
  obtain ⟨h1, h2⟩ := STR_lw q hq
  obtain ⟨a, c, cell, k, h3, -⟩ := Cond.exactly_spec (hs _ h2)
  exact ⟨a, vk_R.of (hts _ h1) h3⟩
theorem Zq_at {args : Array Value} {s : State} (hts : ∀ w ∈ lw_tbl, w.before args s = true) (hgv : lw_N.before args s = true) {A : Nat → Prop} (hA : ∀ a : Nat, a < s.heap.size → ¬ A a) : vx_Zq Bundle.tN "UNASSIGNED_STACK" Bundle.steD A s s.heap ∧ vx_Zq Bundle.tN "SUPPRESSED_SENTINEL" Bundle.listD A s s.heap := by
  have hs := flat_of_before _ hgv
  obtain ⟨h1, h2, h3, h4, h5⟩ := sta_lw
  exact ⟨vx_Zqof (hts _ h1) (hts _ h3) (hs _ h4) hA, vx_Zqof (hts _ h2) (hts _ h3) (hs _ h5) hA⟩
theorem arr_at {args : Array Value} {s : State} {ty : FieldType} (h : (Cond.arrayClass ty).before args s = true) : ∃ cA : ClassId, ArrOfT s cA ty ∧ s.vm.findClass ("[" ++ ty.toString) = some cA := by
  obtain ⟨c, k, comp, h1, h2, h3⟩ := Cond.arrayClass_spec h
  exact ⟨c, fun n z => ⟨fun k h => (by cases h), k, h2, comp, h3⟩, h1⟩

theorem K_at {args : Array Value} {s : State} (hts : ∀ w ∈ lw_tbl, w.before args s = true) : ∃ (D : va_G) (cA : Nat → ClassId), va_K D vwCl (tyl cA) s := by
  have htb : ∀ w ∈ TB, w.before args s = true := fun w hw => hts w (TB_lw w hw)
  obtain ⟨c0, i0, h0⟩ := u_known (C := RX0) (T := TX0) (N := 7) (n := 7) htb lyX0 (htb _ (exin (mem_i 32 (by decide +kernel)) : Cond.instantiable RX0 7 ∈ TB))
  obtain ⟨c1, i1, h1⟩ := u_known (C := RX1) (T := TX1) (N := 2) (n := 2) htb lyX1 (htb _ (exin (mem_i 41 (by decide +kernel)) : Cond.instantiable RX1 2 ∈ TB))
  obtain ⟨c2, i2, h2⟩ := u_known (C := RX2) (T := TX2) (N := 5) (n := 5) htb lyX2 (htb _ (exin (mem_i 37 (by decide +kernel)) : Cond.instantiable RX2 5 ∈ TB))
  obtain ⟨c3, i3, h3⟩ := u_known (C := RX3) (T := TX3) (N := 4) (n := 4) htb lyX3 (htb _ (exin (mem_i 29 (by decide +kernel)) : Cond.instantiable RX3 4 ∈ TB))
  obtain ⟨c4, i4, h4⟩ := u_known (C := RX4) (T := TX4) (N := 4) (n := 4) htb lyX4 (htb _ (exin (mem_i 21 (by decide +kernel)) : Cond.instantiable RX4 4 ∈ TB))
  obtain ⟨c5, i5, h5⟩ := u_known (C := RX5) (T := TX5) (N := 4) (n := 4) htb lyX5 (htb _ (exin (mem_i 17 (by decide +kernel)) : Cond.instantiable RX5 4 ∈ TB))
  obtain ⟨c6, i6, h6⟩ := u_known (C := RX6) (T := TX6) (N := 7) (n := 7) htb lyX6 (htb _ (exin (mem_i 25 (by decide +kernel)) : Cond.instantiable RX6 7 ∈ TB))
  obtain ⟨c7, i7, h7⟩ := u_known (C := RX7) (T := TX7) (N := 9) (n := 9) htb lyX7 (htb _ (exin (mem_i 12 (by decide +kernel)) : Cond.instantiable RX7 9 ∈ TB))
  obtain ⟨a0, z0⟩ := arr_at (ty := .int) (htb _ (tb1 (mem_i 9 rfl)))
  obtain ⟨a1, z1⟩ := arr_at (ty := .long) (htb _ (tb3 (mem_i 19 rfl)))
  obtain ⟨a2, z2⟩ := arr_at (ty := .char) (htb _ (tb3 (mem_i 20 rfl)))
  refine ⟨(fun k => if k = 0 then c0 else if k = 1 then c1 else if k = 2 then c2 else if k = 3 then c3 else if k = 4 then c4 else if k = 5 then c5 else if k = 6 then c6 else  c7, fun k => if k = 0 then i0 else if k = 1 then i1 else if k = 2 then i2 else if k = 3 then i3 else if k = 4 then i4 else if k = 5 then i5 else if k = 6 then i6 else  i7), fun t => if t = 0 then a0 else if t = 1 then a1 else a2, ?_, ?_⟩
  · intro k q hq
    match k, hq with
    | 0, hq => cases hq; exact h0
    | 1, hq => cases hq; exact h1
    | 2, hq => cases hq; exact h2
    | 3, hq => cases hq; exact h3
    | 4, hq => cases hq; exact h4
    | 5, hq => cases hq; exact h5
    | 6, hq => cases hq; exact h6
    | 7, hq => cases hq; exact h7
    | k + 8, hq => simp [vwCl] at hq
  · intro k q hq
    match k, hq with
    | 0, hq => cases hq; exact ⟨z0.1, z0.2⟩
    | 1, hq => cases hq; exact ⟨z1.1, z1.2⟩
    | 2, hq => cases hq; exact ⟨z2.1, z2.2⟩
    | k + 3, hq => simp [tyl] at hq
