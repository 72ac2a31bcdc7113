/-! the words of the law among the tables; what the Statement says of the start -/
theorem lw_sub {ws T : List Cond} (is : List Nat) (h : is.map (fun i => T[i]?) = ws.map some) : ∀ w ∈ ws, w ∈ T := by
  intro w hw
  have h2 : some w ∈ ws.map some := List.mem_map_of_mem hw
  rw [← h] at h2
  obtain ⟨i, _, hi⟩ := List.mem_map.mp h2
  exact List.mem_of_getElem? hi
set_option maxRecDepth 100000 in
theorem in_wsL_law_r1 : ∀ w ∈ wsL_law_r1, w ∈ lw_tbl := lw_sub [77, 78, 64, 604, 605, 76, 79, 80, 81, 82, 83, 84, 85, 86, 65, 303, 304, 305, 306, 307, 99, 100, 67, 308] rfl
set_option maxRecDepth 100000 in
theorem in_wsL_law_r2 : ∀ w ∈ wsL_law_r2, w ∈ lw_tbl := lw_sub [309, 222, 108, 68, 310, 224, 132, 70, 311, 88, 89, 90, 91, 92, 66, 93, 98, 94, 102, 103, 104, 105, 178, 180] rfl
set_option maxRecDepth 100000 in
theorem in_wsL_law_r3 : ∀ w ∈ wsL_law_r3, w ∈ lw_tbl := lw_sub [182, 184, 107, 186, 123, 124, 69, 187, 188, 189, 190, 191, 193, 195, 110, 111, 112, 115, 113, 126, 127, 128, 129, 154] rfl
set_option maxRecDepth 100000 in
theorem in_wsL_law_r4 : ∀ w ∈ wsL_law_r4, w ∈ lw_tbl := lw_sub [159, 160, 153, 155, 156, 131, 157, 158, 134, 135, 136, 138, 140, 141, 137, 228, 0, 229, 231, 232, 233, 71, 234, 882] rfl
set_option maxRecDepth 100000 in
theorem in_wsL_law_r5 : ∀ w ∈ wsL_law_r5, w ∈ lw_tbl := lw_sub [235, 236, 237, 238, 239, 883, 241, 242, 243, 244, 245, 246, 247, 248, 249, 250, 72, 251, 252, 253, 254, 255, 257, 258] rfl
set_option maxRecDepth 100000 in
theorem in_wsL_law_r6 : ∀ w ∈ wsL_law_r6, w ∈ lw_tbl := lw_sub [73, 259, 260, 261, 74, 262, 263, 264, 265, 266, 267, 268, 269, 270, 271, 272, 273, 275, 277, 279, 280, 281, 282, 284] rfl
set_option maxRecDepth 100000 in
theorem in_wsL_law_r7 : ∀ w ∈ wsL_law_r7, w ∈ lw_tbl := lw_sub [1, 285, 288, 2, 289, 292, 3, 293, 298, 4, 299, 300, 301, 75, 302, 606, 607, 608, 609, 615, 616, 618, 619, 620] rfl
set_option maxRecDepth 100000 in
theorem in_wsL_law_r8 : ∀ w ∈ wsL_law_r8, w ∈ lw_tbl := lw_sub [621, 622, 624, 625, 628, 629, 630, 631, 632, 633, 617, 610, 612, 41, 613, 623, 626, 627, 332, 333, 334, 335, 336, 337] rfl
set_option maxRecDepth 100000 in
theorem in_wsL_law_r9 : ∀ w ∈ wsL_law_r9, w ∈ lw_tbl := lw_sub [338, 693, 694, 695, 696, 697, 698, 614, 699, 700, 701, 339, 340, 341, 342, 702, 703, 704, 705, 343, 344, 345, 346, 706] rfl
set_option maxRecDepth 100000 in
theorem in_wsL_law_r10 : ∀ w ∈ wsL_law_r10, w ∈ lw_tbl := lw_sub [707, 708, 709, 710, 711, 347, 348, 349, 350, 351, 712, 713, 714, 715, 716, 352, 353, 354, 355, 356, 358, 717, 718, 719] rfl
set_option maxRecDepth 100000 in
theorem in_wsL_law_r11 : ∀ w ∈ wsL_law_r11, w ∈ lw_tbl := lw_sub [720, 721, 722, 723, 360, 361, 362, 363, 364, 366, 5, 367, 368, 369, 370, 371, 372, 373, 724, 725, 726, 727, 732, 728] rfl
set_option maxRecDepth 100000 in
theorem in_wsL_law_r12 : ∀ w ∈ wsL_law_r12, w ∈ lw_tbl := lw_sub [730, 42, 731, 374, 375, 376, 377, 733, 734, 735, 736, 378, 379, 380, 381, 384, 6, 385, 386, 388, 7, 389, 390, 392] rfl
set_option maxRecDepth 100000 in
theorem in_wsL_law_r13 : ∀ w ∈ wsL_law_r13, w ∈ lw_tbl := lw_sub [8, 393, 394, 396, 9, 397, 398, 400, 10, 401, 402, 404, 11, 405, 406, 408, 12, 409, 410, 412, 13, 413, 414, 416] rfl
set_option maxRecDepth 100000 in
theorem in_wsL_law_r14 : ∀ w ∈ wsL_law_r14, w ∈ lw_tbl := lw_sub [14, 417, 418, 420, 15, 421, 422, 424, 16, 425, 428, 17, 429, 430, 432, 18, 433, 451, 452, 453, 436, 19, 437, 440] rfl
set_option maxRecDepth 100000 in
theorem in_wsL_law_r15 : ∀ w ∈ wsL_law_r15, w ∈ lw_tbl := lw_sub [20, 441, 444, 445, 446, 447, 449, 21, 450, 454, 456, 22, 457, 459, 461, 23, 462, 465, 24, 466, 467, 469, 25, 470] rfl
set_option maxRecDepth 100000 in
theorem in_wsL_law_r16 : ∀ w ∈ wsL_law_r16, w ∈ lw_tbl := lw_sub [473, 26, 474, 477, 27, 478, 482, 28, 483, 485, 488, 29, 489, 490, 492, 30, 493, 494, 496, 31, 497, 498, 500, 32] rfl
set_option maxRecDepth 100000 in
theorem in_wsL_law_r17 : ∀ w ∈ wsL_law_r17, w ∈ lw_tbl := lw_sub [501, 505, 507, 33, 508, 509, 511, 34, 512, 517, 513, 515, 35, 516, 518, 520, 36, 521, 525, 526, 528, 37, 529, 531] rfl
set_option maxRecDepth 100000 in
theorem in_wsL_law_r18 : ∀ w ∈ wsL_law_r18, w ∈ lw_tbl := lw_sub [533, 38, 534, 764, 765, 766, 767, 768, 769, 749, 750, 751, 752, 754, 44, 755, 756, 758, 45, 759, 760, 762, 46, 763] rfl
set_option maxRecDepth 100000 in
theorem in_wsL_law_r19 : ∀ w ∈ wsL_law_r19, w ∈ lw_tbl := lw_sub [770, 772, 47, 773, 774, 776, 48, 777, 778, 780, 49, 781, 741, 743, 43, 744, 745, 746, 747, 782, 784, 50, 785, 786] rfl
set_option maxRecDepth 100000 in
theorem in_wsL_law_r20 : ∀ w ∈ wsL_law_r20, w ∈ lw_tbl := lw_sub [788, 51, 789, 790, 792, 52, 793, 634, 635, 636, 637, 638, 639, 794, 796, 53, 797, 798, 800, 54, 801, 802, 804, 55] rfl
set_option maxRecDepth 100000 in
theorem in_wsL_law_r21 : ∀ w ∈ wsL_law_r21, w ∈ lw_tbl := lw_sub [805, 806, 808, 56, 809, 810, 812, 57, 813, 814, 816, 58, 817, 818, 820, 59, 821, 822, 824, 60, 825, 826, 828, 61] rfl
set_option maxRecDepth 100000 in
theorem in_wsL_law_r22 : ∀ w ∈ wsL_law_r22, w ∈ lw_tbl := lw_sub [829, 830, 832, 62, 833, 535, 536, 537, 538, 748, 540, 541, 542, 543, 544, 545, 546, 834, 835, 836, 837, 547, 548, 549] rfl
set_option maxRecDepth 100000 in
theorem in_wsL_law_r23 : ∀ w ∈ wsL_law_r23, w ∈ lw_tbl := lw_sub [550, 838, 839, 840, 841, 551, 552, 553, 554, 842, 843, 844, 845, 556, 557, 558, 559, 846, 847, 848, 849, 560, 561, 562] rfl
set_option maxRecDepth 100000 in
theorem in_wsL_law_r24 : ∀ w ∈ wsL_law_r24, w ∈ lw_tbl := lw_sub [563, 850, 851, 852, 853, 565, 566, 567, 568, 854, 855, 856, 857, 858, 569, 570, 571, 572, 859, 860, 861, 862, 863, 864] rfl
set_option maxRecDepth 100000 in
theorem in_wsL_law_r25 : ∀ w ∈ wsL_law_r25, w ∈ lw_tbl := lw_sub [865, 573, 574, 575, 576, 577, 579, 39, 580, 581, 583, 40, 584, 585, 866, 867, 868, 869, 586, 587, 588, 589, 870, 871] rfl
set_option maxRecDepth 100000 in
theorem in_wsL_law_r26 : ∀ w ∈ wsL_law_r26, w ∈ lw_tbl := lw_sub [872, 873, 590, 591, 592, 593, 874, 875, 876, 877, 596, 597, 598, 599, 737, 738, 739, 740, 600, 601, 602, 603, 878, 879] rfl
set_option maxRecDepth 100000 in
theorem in_wsL_law_r27 : ∀ w ∈ wsL_law_r27, w ∈ lw_tbl := lw_sub [880, 881] rfl
set_option maxRecDepth 100000 in
theorem in_wsX50 : ∀ w ∈ wsX50, w ∈ lw_tbl := lw_sub [312, 314, 316, 318, 320, 322, 324, 326, 328] rfl
set_option maxRecDepth 100000 in
theorem in_wsX60 : ∀ w ∈ wsX60, w ∈ lw_tbl := lw_sub [640, 642, 644, 646, 648, 650, 652, 654, 656, 658, 660, 662, 664, 666, 668, 670, 672, 674, 676, 678, 680, 682, 684, 686, 688, 690] rfl
set_option maxRecDepth 100000 in
theorem in_wsX00 : ∀ w ∈ wsX00, w ∈ lw_tbl := lw_sub [95] rfl
set_option maxRecDepth 100000 in
theorem in_wsX30 : ∀ w ∈ wsX30, w ∈ lw_tbl := lw_sub [197, 199, 201, 203, 205, 207, 209, 211, 213, 215, 217, 219] rfl
set_option maxRecDepth 100000 in
theorem in_wsX10 : ∀ w ∈ wsX10, w ∈ lw_tbl := lw_sub [118, 120] rfl
set_option maxRecDepth 100000 in
theorem in_wsX40 : ∀ w ∈ wsX40, w ∈ lw_tbl := lw_sub [144, 146, 148, 150] rfl
set_option maxRecDepth 100000 in
theorem in_wsX20 : ∀ w ∈ wsX20, w ∈ lw_tbl := lw_sub [161, 163, 165, 167, 169, 171, 173, 175] rfl
theorem wsL_law_in : ∀ w ∈ wsL_law, w ∈ lw_tbl := List.forall_mem_append.mpr ⟨List.forall_mem_append.mpr ⟨List.forall_mem_append.mpr ⟨List.forall_mem_append.mpr ⟨List.forall_mem_append.mpr ⟨List.forall_mem_append.mpr ⟨List.forall_mem_append.mpr ⟨List.forall_mem_append.mpr ⟨List.forall_mem_append.mpr ⟨in_wsL_law_r1, List.forall_mem_append.mpr ⟨in_wsL_law_r2, List.forall_mem_append.mpr ⟨in_wsL_law_r3, List.forall_mem_append.mpr ⟨in_wsL_law_r4, List.forall_mem_append.mpr ⟨in_wsL_law_r5, List.forall_mem_append.mpr ⟨in_wsL_law_r6, List.forall_mem_append.mpr ⟨in_wsL_law_r7, List.forall_mem_append.mpr ⟨in_wsL_law_r8, List.forall_mem_append.mpr ⟨in_wsL_law_r9, List.forall_mem_append.mpr ⟨in_wsL_law_r10, List.forall_mem_append.mpr ⟨in_wsL_law_r11, List.forall_mem_append.mpr ⟨in_wsL_law_r12, List.forall_mem_append.mpr ⟨in_wsL_law_r13, List.forall_mem_append.mpr ⟨in_wsL_law_r14, List.forall_mem_append.mpr ⟨in_wsL_law_r15, List.forall_mem_append.mpr ⟨in_wsL_law_r16, List.forall_mem_append.mpr ⟨in_wsL_law_r17, List.forall_mem_append.mpr ⟨in_wsL_law_r18, List.forall_mem_append.mpr ⟨in_wsL_law_r19, List.forall_mem_append.mpr ⟨in_wsL_law_r20, List.forall_mem_append.mpr ⟨in_wsL_law_r21, List.forall_mem_append.mpr ⟨in_wsL_law_r22, List.forall_mem_append.mpr ⟨in_wsL_law_r23, List.forall_mem_append.mpr ⟨in_wsL_law_r24, List.forall_mem_append.mpr ⟨in_wsL_law_r25, List.forall_mem_append.mpr ⟨in_wsL_law_r26, in_wsL_law_r27⟩⟩⟩⟩⟩⟩⟩⟩⟩⟩⟩⟩⟩⟩⟩⟩⟩⟩⟩⟩⟩⟩⟩⟩⟩⟩, in_wsX50⟩, in_wsX60⟩, in_wsX00⟩, in_wsX30⟩, in_wsX10⟩, in_wsX40⟩, in_wsX20⟩, fun _ h => absurd h List.not_mem_nil⟩
set_option maxRecDepth 100000 in
theorem in_NF : ∀ w ∈ nwF.map (fun q => Cond.fieldLinkNest q.1 q.2.1 q.2.2.1 q.2.2.2.1 q.2.2.2.2 "RunSorter"), w ∈ lw_tbl := lw_sub [114, 116, 117, 139, 142, 143, 179, 181, 183, 185, 192, 194, 196, 523, 524] rfl
set_option maxRecDepth 100000 in
theorem in_NM : ∀ w ∈ nwM.map (fun q => Cond.methodLinkNest q.1 q.2.1 q.2.2 "RunSorter"), w ∈ lw_tbl := lw_sub [87, 101, 106, 109, 125, 130, 133, 223, 225, 226, 286, 290, 294, 295, 296, 382, 426, 434, 438, 442, 443, 458, 463, 471, 475, 479, 480, 484, 486, 502, 503, 504, 522, 530, 539, 555, 564, 594, 595] rfl
theorem lw_nst {a : Array Value} {s : State} (hts : ∀ w ∈ lw_tbl, w.before a s = true) : nst s := ⟨fun k q hk => va_Nw.of rfl (hts _ (in_NF _ (List.mem_map_of_mem (List.mem_of_getElem? hk)))), fun k q hk => va_Nw.of rfl (hts _ (in_NM _ (List.mem_map_of_mem (List.mem_of_getElem? hk))))⟩
def lwS : List Cond := [Cond.stringRef RX5 61 "hgfedcbaabcdefzzyyxxaaaaabbbbbcccqponmlkj", Cond.laysStatic RX5 "LOWEST" "[I", Cond.laysStatic RX5 "HIGHEST" "[I", Cond.laysStatic RJ0 "COMPACT_STRINGS" "Z", Cond.laysStatic RJ3 "SIOOBE_FORMATTER" "Ljava/util/function/BiFunction;", Cond.initialized RX5, Cond.initialized RJ0, Cond.initialized RJ3, Cond.arrayClass .int]
set_option maxRecDepth 100000 in
theorem in_lwS : ∀ w ∈ lwS, w ∈ lw_tbl := lw_sub [230, 357, 359, 240, 256, 64, 71, 73, 98] rfl
theorem lw_s {a : Array Value} {s : State} (hts : ∀ w ∈ lw_tbl, w.before a s = true) (k : Nat) {w : Cond} (h : lwS[k]? = some w) : w.before a s = true := hts _ (in_lwS _ (List.mem_of_getElem? h))
theorem lw_K {a : Array Value} {s : State} (hts : ∀ w ∈ lw_tbl, w.before a s = true) (h : ∀ k : Nat, ∀ q : vw_C, vwCl[k]? = some q → (Cond.instantiable q.1 q.2.2).before a s = true) : ∃ (D : va_G) (cA : ClassId), va_K D vwCl [(cA, .int)] s := by
  obtain ⟨c0, i0, k0⟩ := u_known (C := RX0) (T := TX0) (N := 1) (n := 1) hts in_wsX00 (h 0 _ rfl)
  obtain ⟨c1, i1, k1⟩ := u_known (C := RX1) (T := TX1) (N := 2) (n := 2) hts in_wsX10 (h 1 _ rfl)
  obtain ⟨c2, i2, k2⟩ := u_known (C := RX2) (T := TX2) (N := 8) (n := 8) hts in_wsX20 (h 2 _ rfl)
  obtain ⟨c3, i3, k3⟩ := u_known (C := RX3) (T := TX3) (N := 12) (n := 12) hts in_wsX30 (h 3 _ rfl)
  obtain ⟨c4, i4, k4⟩ := u_known (C := RX4) (T := TX4) (N := 4) (n := 4) hts in_wsX40 (h 4 _ rfl)
  obtain ⟨c5, i5, k5⟩ := u_known (C := RX5) (T := TX5) (N := 9) (n := 9) hts in_wsX50 (h 5 _ rfl)
  obtain ⟨c6, i6, k6⟩ := u_known (C := RX6) (T := TX6) (N := 26) (n := 26) hts in_wsX60 (h 6 _ rfl)
  obtain ⟨cA, kA, comp, h1, h2, h3⟩ := Cond.arrayClass_spec (lw_s hts 8 rfl)
  refine ⟨(fun k => if k = 0 then c0 else if k = 1 then c1 else if k = 2 then c2 else if k = 3 then c3 else if k = 4 then c4 else if k = 5 then c5 else c6, fun k => if k = 0 then i0 else if k = 1 then i1 else if k = 2 then i2 else if k = 3 then i3 else if k = 4 then i4 else if k = 5 then i5 else i6), cA, ?_, ?_⟩
  · intro k q hq
    match k, hq with
    | 0, hq => cases hq; exact k0
    | 1, hq => cases hq; exact k1
    | 2, hq => cases hq; exact k2
    | 3, hq => cases hq; exact k3
    | 4, hq => cases hq; exact k4
    | 5, hq => cases hq; exact k5
    | 6, hq => cases hq; exact k6
    | k + 7, hq => simp [vwCl] at hq
  · intro k q hq
    match k, hq with
    | 0, hq => cases hq; exact ⟨fun n z => ⟨fun k h => (by cases h), kA, h2, comp, h3⟩, h1⟩
    | k + 1, hq => simp at hq
theorem lw_stt {a : Array Value} {s : State} (hts : ∀ w ∈ lw_tbl, w.before a s = true) (hgv : (Jvm.Cond.and given_1 narrow_1).before a s = true) : stt (fun q => s.heap.size ≤ q) s s.heap := by
  have hs := flat_of_before _ hgv
  have hA : ∀ a : Nat, a < s.heap.size → ¬ s.heap.size ≤ a := fun a h => Nat.not_le.mpr h
  obtain ⟨t1, e1, T1⟩ := va_Tof (args := a) (s := s) (tm := Term.static "RunSorter" "LOWEST" "[I") (ty := .int) (N := 4) (f := fun j => .int (lowT j)) (A := fun q => s.heap.size ≤ q) (by decide) (hs _ (by decide +kernel)) (va_eqt (z := 4) (hs _ (by decide +kernel))) (fun j hj => by
    match j, hj with
    | 0, _ => exact va_eqt (z := 0) (hs _ (by decide +kernel))
    | 1, _ => exact va_eqt (z := 0) (hs _ (by decide +kernel))
    | 2, _ => exact va_eqt (z := 2) (hs _ (by decide +kernel))
    | 3, _ => exact va_eqt (z := 1) (hs _ (by decide +kernel))
    | j + 4, hj => omega) hA
  obtain ⟨t2, e2, T2⟩ := va_Tof (args := a) (s := s) (tm := Term.static "RunSorter" "HIGHEST" "[I") (ty := .int) (N := 4) (f := fun j => .int (highT j)) (A := fun q => s.heap.size ≤ q) (by decide) (hs _ (by decide +kernel)) (va_eqt (z := 4) (hs _ (by decide +kernel))) (fun j hj => by
    match j, hj with
    | 0, _ => exact va_eqt (z := 3) (hs _ (by decide +kernel))
    | 1, _ => exact va_eqt (z := 2) (hs _ (by decide +kernel))
    | 2, _ => exact va_eqt (z := 9) (hs _ (by decide +kernel))
    | 3, _ => exact va_eqt (z := 9) (hs _ (by decide +kernel))
    | j + 4, hj => omega) hA
  exact ⟨t1, t2, va_Zref (lw_s hts 1 rfl) (lw_s hts 5 rfl) e1 hA, T1, va_Zref (lw_s hts 2 rfl) (lw_s hts 5 rfl) e2 hA, T2⟩
theorem lw_Xt {a : Array Value} {s : State} (hts : ∀ w ∈ lw_tbl, w.before a s = true) (hgv : (Jvm.Cond.and given_1 narrow_1).before a s = true) : ∃ q v : Nat → Nat, Xt q v (fun q => s.heap.size ≤ q) s s.heap := by
  have hs := flat_of_before _ hgv
  have hA : ∀ a : Nat, a < s.heap.size → ¬ s.heap.size ≤ a := fun a h => Nat.not_le.mpr h
  obtain ⟨q, v, hS, hq⟩ := vk_Sof (args := a) (s := s) (N := 1) (tm := fun _ => Term.string "RunSorter" 61) (len := [41]) (byt := [FT]) (A := fun q => s.heap.size ≤ q) (fun i hi => by rw [show i = 0 by omega]; decide) (fun i hi => hs _ (by decide +kernel)) (fun i hi => hs _ (by decide +kernel)) (fun i hi => hs _ (by decide +kernel)) (fun i hi => by rw [show i = 0 by omega]; exact hs _ (by decide +kernel)) (fun i hi j hj => by
    obtain rfl : i = 0 := by omega
    have hj : j < 41 := hj
    match j, hj with
    | 0, _ => exact hs _ (by decide +kernel)
    | 1, _ => exact hs _ (by decide +kernel)
    | 2, _ => exact hs _ (by decide +kernel)
    | 3, _ => exact hs _ (by decide +kernel)
    | 4, _ => exact hs _ (by decide +kernel)
    | 5, _ => exact hs _ (by decide +kernel)
    | 6, _ => exact hs _ (by decide +kernel)
    | 7, _ => exact hs _ (by decide +kernel)
    | 8, _ => exact hs _ (by decide +kernel)
    | 9, _ => exact hs _ (by decide +kernel)
    | 10, _ => exact hs _ (by decide +kernel)
    | 11, _ => exact hs _ (by decide +kernel)
    | 12, _ => exact hs _ (by decide +kernel)
    | 13, _ => exact hs _ (by decide +kernel)
    | 14, _ => exact hs _ (by decide +kernel)
    | 15, _ => exact hs _ (by decide +kernel)
    | 16, _ => exact hs _ (by decide +kernel)
    | 17, _ => exact hs _ (by decide +kernel)
    | 18, _ => exact hs _ (by decide +kernel)
    | 19, _ => exact hs _ (by decide +kernel)
    | 20, _ => exact hs _ (by decide +kernel)
    | 21, _ => exact hs _ (by decide +kernel)
    | 22, _ => exact hs _ (by decide +kernel)
    | 23, _ => exact hs _ (by decide +kernel)
    | 24, _ => exact hs _ (by decide +kernel)
    | 25, _ => exact hs _ (by decide +kernel)
    | 26, _ => exact hs _ (by decide +kernel)
    | 27, _ => exact hs _ (by decide +kernel)
    | 28, _ => exact hs _ (by decide +kernel)
    | 29, _ => exact hs _ (by decide +kernel)
    | 30, _ => exact hs _ (by decide +kernel)
    | 31, _ => exact hs _ (by decide +kernel)
    | 32, _ => exact hs _ (by decide +kernel)
    | 33, _ => exact hs _ (by decide +kernel)
    | 34, _ => exact hs _ (by decide +kernel)
    | 35, _ => exact hs _ (by decide +kernel)
    | 36, _ => exact hs _ (by decide +kernel)
    | 37, _ => exact hs _ (by decide +kernel)
    | 38, _ => exact hs _ (by decide +kernel)
    | 39, _ => exact hs _ (by decide +kernel)
    | 40, _ => exact hs _ (by decide +kernel)
    | j + 41, hj => omega) (fun i j hi hj h => by omega) hA
  exact ⟨q, v, vk_R.of (lw_s hts 0 rfl) (hq 0 (by decide)), va_Zof (lw_s hts 3 rfl) (lw_s hts 6 rfl) (va_eqt (z := 1) (hs _ (by decide +kernel))) hA, va_Zqof (lw_s hts 4 rfl) (lw_s hts 7 rfl) (hs _ (by decide +kernel)) hA, hS⟩
