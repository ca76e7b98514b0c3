/-! Written by a program (wip/whole/gen2.py): what every instruction links to, by its place among the tables' words. -/
def inTbl (p : Nat) (w : Cond) : Bool := decide (lw_tbl[p]? = some w) && goodWord w
def isNw : Cond → Bool
  | .fieldLinkNest _ _ _ _ _ _ => true
  | .methodLinkNest _ _ _ _ => true
  | .arrayOver _ => true
  | _ => false
def inNw (p : Nat) (w : Cond) : Bool := decide (lw_tbl[p]? = some w) && isNw w
def gw : List Cond := lw_tbl.filter goodWord
def nw : List Cond := lw_tbl.filter isNw
theorem gw_in {p : Nat} {w : Cond} (h : inTbl p w = true) : w ∈ gw := by
  unfold inTbl at h
  rw [Bool.and_eq_true, decide_eq_true_eq] at h
  exact List.mem_filter.mpr ⟨List.mem_of_getElem? h.1, h.2⟩
theorem nw_in {p : Nat} {w : Cond} (h : inNw p w = true) : w ∈ nw := by
  unfold inNw at h
  rw [Bool.and_eq_true, decide_eq_true_eq] at h
  exact List.mem_filter.mpr ⟨List.mem_of_getElem? h.1, h.2⟩
def clsN (c : Nat) : String := match c with
  | 0 => "NoiseTithe$Cells"
  | 1 => "NoiseTithe$Fraction"
  | 2 => "NoiseTithe$Hour"
  | 3 => "NoiseTithe$House"
  | 4 => "NoiseTithe$Sets"
  | 5 => "NoiseTithe$Street"
  | 6 => "NoiseTithe"
  | 7 => "NoiseTitheModel"
  | 8 => "NoiseTithe$Kind"
  | 9 => "NoiseTithe$Grammar"
  | 10 => "java/lang/Integer"
  | 11 => "java/lang/Math"
  | 12 => "java/lang/Object"
  | _ => "NoiseTitheLaw"
def clsT : List vw_C := [(RX0, TX0, 2), (RX1, TX1, 2), (RX3, TX3, 5), (RX4, TX4, 5), (RX6, TX6, 6), (RX7, TX7, 9), (RX8, TX8, 9), (RX9, TX9, 38)]
def tyT (a : Nat) : Nat → FieldType := match a with
  | 0 => tyX0
  | 1 => tyX1
  | 2 => tyX3
  | 3 => tyX4
  | 4 => tyX6
  | 5 => tyX7
  | 6 => tyX8
  | _ => tyX9
def tyC (t : FieldType) : Nat := match t with
  | .int => 0
  | .long => 1
  | _ => 2
def kF (b : Nat) : String × String × String × Bool := match b with
  | 0 => ("NoiseTithe$Kind", "number", "I", true)
  | 1 => ("NoiseTithe$Kind", "parent", "I", true)
  | _ => ("NoiseTithe$Kind", "halves", "I", true)
def fT (a b : Nat) : String × String × String × Bool := match clsT[a]? with
  | some (_, T, _) => T b
  | none => kF b
def fN (a : Nat) : Nat := match clsT[a]? with
  | some (_, _, n) => n
  | none => 3
def kN (k : Nat) : String := match k with
  | 0 => "HOUSE"
  | 1 => "FORGE"
  | 2 => "MUFFLED"
  | 3 => "BELLS"
  | 4 => "MUTE"
  | _ => "CHOIR"
/-- (class, entry, class of the field, its slot, its kind; place, nest) -/
def fldL : List (Nat × Nat × Nat × Nat × Nat × Nat × Bool) := [(0, 9, 0, 1, 0, 231, false), (0, 19, 0, 0, 2, 230, false), (1, 7, 1, 0, 1, 213, false), (1, 13, 1, 1, 1, 215, false), (9, 9, 0, 1, 0, 232, true), (9, 44, 5, 5, 0, 154, true), (9, 47, 5, 6, 0, 157, true), (2, 9, 2, 0, 2, 118, false), (2, 21, 2, 1, 0, 120, false), (2, 25, 2, 2, 0, 123, false), (2, 28, 2, 3, 0, 126, false), (2, 31, 2, 4, 0, 128, false), (3, 13, 3, 0, 2, 86, false), (3, 18, 3, 1, 0, 89, false), (3, 22, 8, 2, 3, 1316, true), (3, 28, 3, 2, 0, 93, false), (3, 31, 3, 3, 0, 96, false), (3, 34, 3, 4, 0, 99, false), (8, 41, 8, 0, 3, 1318, false), (8, 45, 8, 1, 3, 1319, false), (4, 9, 4, 0, 2, 188, false), (4, 15, 4, 1, 2, 189, false), (4, 18, 4, 2, 2, 190, false), (4, 21, 4, 3, 0, 191, false), (4, 25, 4, 4, 0, 192, false), (4, 28, 4, 5, 0, 193, false), (4, 31, 5, 3, 0, 149, true), (4, 42, 5, 0, 2, 142, true), (4, 59, 0, 1, 0, 234, true), (5, 11, 5, 0, 2, 141, false), (5, 19, 5, 1, 2, 144, false), (5, 25, 5, 2, 2, 146, false), (5, 30, 5, 3, 0, 148, false), (5, 34, 5, 4, 0, 151, false), (5, 37, 5, 5, 0, 153, false), (5, 40, 5, 6, 0, 156, false), (5, 43, 5, 7, 0, 158, false), (5, 46, 5, 8, 0, 160, false), (5, 49, 3, 0, 2, 87, true), (5, 53, 3, 1, 0, 90, true), (5, 56, 3, 2, 0, 92, true), (5, 59, 3, 3, 0, 95, true), (5, 62, 3, 4, 0, 98, true), (5, 109, 8, 0, 3, 1315, true), (5, 125, 2, 1, 0, 121, true), (5, 128, 2, 3, 0, 127, true), (5, 131, 2, 4, 0, 129, true), (5, 134, 2, 0, 2, 119, true), (5, 141, 2, 2, 0, 124, true), (6, 11, 6, 0, 2, 240, false), (6, 15, 6, 1, 2, 241, false), (6, 21, 6, 2, 2, 242, false), (6, 25, 6, 3, 2, 243, false), (6, 32, 6, 4, 2, 244, false), (6, 39, 6, 5, 2, 245, false), (6, 43, 6, 6, 2, 246, false), (6, 47, 6, 7, 0, 247, false), (6, 51, 6, 8, 0, 248, false), (6, 98, 0, 1, 0, 233, true), (6, 121, 5, 3, 0, 150, true), (6, 140, 8, 0, 3, 1317, true), (6, 146, 5, 0, 2, 143, true), (6, 150, 3, 0, 2, 88, true), (6, 164, 3, 1, 0, 91, true), (6, 174, 3, 3, 0, 97, true), (6, 186, 5, 5, 0, 155, true), (6, 189, 3, 2, 0, 94, true), (6, 195, 5, 4, 0, 152, true), (6, 201, 5, 7, 0, 159, true), (6, 207, 5, 8, 0, 161, true), (6, 210, 5, 1, 2, 145, true), (6, 214, 2, 2, 0, 125, true), (6, 219, 2, 1, 0, 122, true), (6, 224, 3, 4, 0, 100, true), (6, 317, 5, 2, 2, 147, true), (6, 340, 1, 0, 1, 214, true), (6, 344, 1, 1, 1, 216, true), (7, 7, 7, 1, 2, 843, false), (7, 13, 7, 4, 1, 846, false), (7, 17, 7, 5, 2, 847, false), (7, 20, 7, 6, 2, 848, false), (7, 23, 7, 7, 2, 849, false), (7, 26, 7, 8, 2, 850, false), (7, 29, 7, 9, 2, 851, false), (7, 32, 7, 13, 2, 855, false), (7, 35, 7, 14, 2, 856, false), (7, 38, 7, 15, 2, 857, false), (7, 41, 7, 23, 2, 865, false), (7, 44, 7, 24, 2, 866, false), (7, 47, 7, 25, 2, 867, false), (7, 50, 7, 26, 2, 868, false), (7, 53, 7, 31, 2, 873, false), (7, 56, 7, 32, 2, 874, false), (7, 60, 7, 33, 2, 875, false), (7, 63, 7, 34, 2, 876, false), (7, 66, 7, 35, 2, 877, false), (7, 69, 7, 36, 2, 878, false), (7, 72, 7, 0, 0, 842, false), (7, 76, 7, 2, 0, 844, false), (7, 79, 7, 3, 1, 845, false), (7, 117, 7, 16, 0, 858, false), (7, 129, 7, 18, 0, 860, false), (7, 132, 7, 19, 0, 861, false), (7, 138, 7, 17, 0, 859, false), (7, 150, 7, 10, 0, 852, false), (7, 153, 7, 11, 0, 853, false), (7, 156, 7, 12, 0, 854, false), (7, 159, 7, 20, 0, 862, false), (7, 162, 7, 21, 0, 863, false), (7, 165, 7, 22, 0, 864, false), (7, 212, 7, 27, 0, 869, false), (7, 215, 7, 28, 0, 870, false), (7, 218, 7, 29, 0, 871, false), (7, 221, 7, 30, 0, 872, false), (7, 263, 7, 37, 1, 879, false)]
def chkF (e : Nat × Nat × Nat × Nat × Nat × Nat × Bool) : Bool := match e with
  | (oc, i, a, b, ty, p, n) => (match n with
    | true => inNw p (.fieldLinkNest (clsN oc) i (fT a b).1 (fT a b).2.1 (fT a b).2.2.1 "NoiseTithe")
    | false => inTbl p (.fieldLink (clsN oc) i (fT a b).1 (fT a b).2.1 (fT a b).2.2.1)) && Nat.blt b (fN a) && ((Nat.blt a 8 && Nat.beq ty (tyC (tyT a b))) || (Nat.beq a 8 && Nat.beq ty 3))
theorem fldL_ok : fldL.all chkF = true := by decide +kernel
def layL : List (List Nat) := [[235, 237], [217, 219], [130, 132, 134, 136, 138], [101, 103, 105, 107, 109], [194, 196, 198, 200, 202, 204], [162, 164, 166, 168, 170, 172, 174, 176, 178], [249, 251, 253, 255, 257, 259, 261, 263, 265], [880, 882, 884, 886, 888, 890, 892, 894, 896, 898, 900, 902, 904, 906, 908, 910, 912, 914, 916, 918, 920, 922, 924, 926, 928, 930, 932, 934, 936, 938, 940, 942, 944, 946, 948, 950, 952, 954]]
def chkL (c : Nat) : Bool := match clsT[c]?, layL[c]? with
  | some (C, T, N), some ps => Nat.beq ps.length N && (List.range N).all (fun k => inTbl (ps.getD k 0) (u_lay C T k))
  | _, _ => false
theorem layL_ok : (List.range 8).all chkL = true := by decide +kernel
def insL : List (Nat × Nat) := [(222, 51), (208, 50), (113, 48), (79, 45), (183, 49), (68, 44), (58, 43), (837, 53)]
def chkJ (c : Nat) : Bool := match clsT[c]?, insL[c]? with
  | some (C, T, N), some (p, q) => inTbl p (.instantiable C N) && inTbl q (.initialized C) && decide (C = clsN c)
  | _, _ => false
theorem insL_ok : (List.range 8).all chkJ = true := by decide +kernel
def conL : List (Nat × Nat × Vv × Nat) := [(6, 331, vi 2147483646, 762), (6, 338, vl 12, 773), (6, 360, vl 17, 818), (6, 373, vl (-1), 830), (6, 379, vl 48271, 767), (6, 381, vl 2147483647, 768), (6, 383, vl 31, 823), (7, 251, vi 2147483646, 1265), (7, 252, vl 48271, 1266), (7, 254, vl 2147483647, 1267), (7, 256, vl 12, 1268), (7, 261, vl 31, 1310), (7, 269, vl 17, 1305), (10, 265, vi 1431655765, 704), (10, 266, vi 858993459, 705), (10, 267, vi 252645135, 706)]
def chkC (e : Nat × Nat × Vv × Nat) : Bool := match e with
  | (oc, i, .inl x, p) => inTbl p (.constant (clsN oc) i x)
  | (oc, i, .inr (.inl x), p) => inTbl p (.constantLong (clsN oc) i x)
  | _ => false
theorem conL_ok : conL.all chkC = true := by decide +kernel
def staL : List (Nat × Nat × Nat × Nat) := [(3, 7, 0, 84), (3, 25, 4, 597), (8, 3, 0, 381), (8, 7, 1, 382), (8, 10, 2, 384), (8, 13, 3, 386), (8, 16, 4, 388), (8, 19, 5, 390), (5, 147, 3, 537), (5, 150, 5, 538), (6, 134, 1, 450), (6, 143, 5, 451), (6, 161, 2, 460), (6, 171, 3, 462), (6, 177, 4, 463)]
def chkS (e : Nat × Nat × Nat × Nat) : Bool := match e with
  | (oc, i, k, p) => inTbl p (.fieldLink (clsN oc) i "NoiseTithe$Kind" (kN k) "LNoiseTithe$Kind;") && Nat.blt k 6
theorem staL_ok : staL.all chkS = true := by decide +kernel
def newL : List (Nat × Nat × Nat × Nat) := [(5, 9, 3, 73), (5, 17, 2, 75), (6, 9, 0, 65), (6, 18, 5, 67), (6, 29, 4, 182), (6, 36, 1, 207), (13, 7, 6, 57), (13, 10, 7, 836)]
def chkN (e : Nat × Nat × Nat × Nat) : Bool := match e with
  | (oc, i, c, p) => inTbl p (.classLink (clsN oc) i (clsN c)) && Nat.blt c 8
theorem newL_ok : newL.all chkN = true := by decide +kernel
def arrL : List (Nat × Nat × Nat × Nat × Nat) := [(5, 9, 24, 73, 74), (5, 17, 25, 75, 76), (6, 9, 22, 65, 66), (6, 18, 23, 67, 181)]
def chkA (e : Nat × Nat × Nat × Nat × Nat) : Bool := match e with
  | (oc, i, s, p, q) => inTbl p (.classLink (clsN oc) i (clsN (elS s))) && inNw q (.arrayOver (.object (clsN (elS s)))) && Nat.ble 22 s && Nat.ble s 25
theorem arrL_ok : arrL.all chkA = true := by decide +kernel
theorem mulA_ok : (inTbl 77 (.classLink "NoiseTithe$Street" 23 "[[I") && inNw 78 (.arrayOver (.array .int)) && inTbl 112 (.arrayClass .int) && inTbl 957 (.arrayClass .boolean)) = true := by decide +kernel
/-- (how it is called: 0 by its object, 1 static, 2 a constructor, 9 not at all; places of its words; parameters) -/
def metL : List (Nat × Nat × Nat × Nat × Nat × Nat) := [(2, 225, 51, 224, 0, 1), (0, 301, 51, 299, 300, 0), (0, 305, 51, 303, 304, 1), (0, 338, 51, 336, 337, 2), (0, 309, 51, 307, 308, 1), (0, 314, 51, 312, 313, 2), (0, 286, 51, 284, 285, 2), (0, 330, 51, 328, 329, 0), (0, 342, 51, 340, 341, 4), (0, 354, 51, 352, 353, 0), (0, 834, 51, 832, 833, 1), (2, 211, 50, 210, 0, 0), (0, 635, 50, 633, 634, 2), (1, 373, 55, 372, 0, 1), (1, 408, 55, 407, 0, 2), (1, 412, 55, 411, 0, 3), (1, 394, 55, 393, 0, 2), (1, 377, 55, 376, 0, 2), (1, 397, 55, 396, 0, 1), (2, 116, 48, 115, 0, 0), (0, 569, 48, 567, 568, 1), (2, 82, 45, 81, 0, 0), (0, 433, 45, 431, 432, 0), (0, 596, 45, 594, 595, 0), (0, 564, 45, 562, 563, 1), (0, 455, 47, 453, 454, 1), (1, 380, 47, 379, 0, 1), (2, 186, 49, 185, 0, 0), (0, 588, 49, 586, 587, 1), (1, 592, 49, 591, 0, 3), (0, 682, 49, 680, 681, 1), (0, 605, 49, 604, 6, 2), (0, 601, 49, 599, 600, 1), (0, 630, 49, 628, 629, 2), (0, 609, 49, 607, 608, 1), (0, 622, 49, 620, 621, 1), (0, 618, 49, 616, 617, 1), (0, 647, 49, 645, 646, 1), (0, 652, 49, 651, 7, 2), (0, 669, 49, 667, 668, 0), (0, 665, 49, 663, 664, 0), (0, 677, 49, 675, 676, 2), (0, 700, 49, 698, 699, 1), (0, 717, 49, 715, 716, 2), (0, 722, 49, 720, 721, 2), (0, 747, 49, 745, 746, 1), (2, 71, 44, 70, 0, 0), (0, 405, 44, 403, 404, 0), (0, 416, 44, 414, 415, 3), (0, 560, 44, 558, 559, 1), (0, 424, 44, 422, 423, 1), (0, 488, 44, 486, 487, 0), (0, 484, 44, 482, 483, 1), (0, 441, 44, 439, 440, 1), (0, 437, 44, 435, 436, 1), (0, 499, 44, 497, 498, 1), (0, 428, 44, 426, 427, 2), (0, 459, 44, 457, 458, 1), (0, 793, 44, 791, 792, 1), (0, 691, 44, 689, 690, 2), (0, 504, 44, 502, 503, 1), (0, 492, 44, 490, 491, 1), (0, 512, 44, 510, 511, 1), (0, 536, 44, 534, 535, 1), (0, 798, 44, 796, 797, 0), (0, 532, 44, 530, 531, 1), (0, 468, 44, 466, 467, 1), (0, 739, 44, 737, 738, 1), (0, 757, 44, 755, 756, 0), (0, 827, 44, 825, 826, 1), (2, 61, 43, 60, 0, 0), (0, 271, 43, 269, 270, 2), (0, 293, 43, 291, 292, 3), (0, 322, 43, 320, 321, 2), (0, 326, 43, 324, 325, 1), (0, 334, 43, 332, 333, 5), (0, 350, 43, 348, 349, 1), (0, 358, 43, 356, 357, 2), (0, 366, 43, 364, 365, 3), (0, 370, 43, 368, 369, 1), (0, 401, 43, 399, 400, 1), (0, 420, 43, 418, 419, 2), (0, 449, 43, 447, 448, 2), (0, 472, 43, 470, 471, 1), (0, 476, 43, 474, 475, 2), (0, 480, 43, 478, 479, 1), (0, 508, 43, 506, 507, 1), (0, 516, 43, 514, 515, 0), (0, 520, 43, 518, 519, 1), (0, 524, 43, 522, 523, 1), (0, 528, 43, 526, 527, 1), (0, 543, 43, 541, 542, 2), (0, 547, 43, 545, 546, 0), (0, 552, 43, 550, 551, 1), (0, 574, 43, 572, 573, 1), (0, 581, 43, 579, 580, 1), (0, 613, 43, 611, 612, 1), (0, 626, 43, 624, 625, 2), (0, 639, 43, 637, 638, 2), (0, 643, 43, 641, 642, 1), (0, 656, 43, 654, 655, 1), (0, 661, 43, 659, 660, 0), (0, 673, 43, 671, 672, 1), (0, 686, 43, 684, 685, 3), (0, 696, 43, 694, 695, 0), (0, 711, 43, 709, 710, 2), (0, 726, 43, 724, 725, 1), (0, 731, 43, 729, 730, 3), (0, 735, 43, 733, 734, 1), (0, 743, 43, 741, 742, 0), (0, 753, 43, 751, 752, 0), (0, 761, 43, 759, 760, 2), (0, 772, 43, 770, 771, 0), (0, 777, 43, 775, 776, 0), (0, 781, 43, 779, 780, 0), (0, 785, 43, 783, 784, 0), (0, 789, 43, 787, 788, 1), (0, 809, 43, 807, 808, 0), (0, 813, 43, 811, 812, 1), (0, 817, 43, 815, 816, 0), (0, 318, 43, 317, 3, 2), (0, 279, 43, 278, 1, 1), (0, 297, 43, 296, 2, 2), (0, 275, 43, 274, 0, 1), (0, 362, 43, 361, 4, 1), (0, 556, 43, 555, 5, 1), (0, 802, 43, 801, 8, 0), (1, 577, 43, 576, 0, 1), (1, 805, 43, 804, 0, 1), (1, 282, 43, 281, 0, 3), (1, 584, 43, 583, 0, 1), (1, 495, 43, 494, 0, 2), (1, 766, 43, 765, 0, 1), (1, 822, 43, 821, 0, 2), (2, 840, 53, 839, 0, 0), (1, 967, 53, 966, 0, 3), (0, 971, 53, 970, 9, 1), (0, 991, 53, 990, 13, 2), (0, 1192, 53, 1191, 35, 3), (1, 1121, 53, 1120, 0, 2), (1, 1232, 53, 1231, 0, 1), (1, 964, 53, 963, 0, 1), (1, 1015, 53, 1014, 0, 1), (0, 983, 53, 982, 11, 1), (0, 1023, 53, 1022, 14, 1), (0, 987, 53, 986, 12, 2), (0, 975, 53, 974, 10, 3), (0, 961, 53, 959, 960, 2), (0, 979, 53, 977, 978, 2), (0, 995, 53, 993, 994, 3), (0, 1000, 53, 998, 999, 1), (0, 1004, 53, 1002, 1003, 5), (0, 1008, 53, 1006, 1007, 1), (0, 1012, 53, 1010, 1011, 2), (0, 1019, 53, 1017, 1018, 3), (0, 1035, 53, 1034, 16, 1), (0, 1046, 53, 1045, 18, 1), (0, 1050, 53, 1049, 19, 1), (1, 1042, 53, 1041, 0, 1), (0, 1054, 53, 1053, 20, 1), (0, 1039, 53, 1038, 17, 1), (0, 1031, 53, 1030, 15, 1), (0, 1027, 53, 1025, 1026, 1), (0, 1058, 53, 1056, 1057, 1), (0, 1066, 53, 1065, 21, 1), (0, 1114, 53, 1113, 29, 0), (0, 1110, 53, 1109, 28, 1), (0, 1090, 53, 1089, 26, 2), (0, 1074, 53, 1073, 23, 1), (0, 1082, 53, 1081, 25, 1), (0, 1078, 53, 1077, 24, 1), (0, 1118, 53, 1117, 30, 1), (0, 1180, 53, 1179, 34, 0), (0, 1070, 53, 1069, 22, 2), (0, 1062, 53, 1060, 1061, 2), (0, 1094, 53, 1093, 27, 1), (0, 1086, 53, 1084, 1085, 2), (0, 1098, 53, 1096, 1097, 1), (0, 1102, 53, 1100, 1101, 2), (0, 1106, 53, 1104, 1105, 1), (0, 1125, 53, 1123, 1124, 1), (0, 1129, 53, 1127, 1128, 0), (0, 1133, 53, 1131, 1132, 1), (0, 1137, 53, 1135, 1136, 1), (0, 1149, 53, 1148, 32, 1), (0, 1145, 53, 1144, 31, 1), (0, 1141, 53, 1139, 1140, 1), (0, 1153, 53, 1151, 1152, 2), (0, 1157, 53, 1155, 1156, 0), (0, 1161, 53, 1159, 1160, 1), (0, 1165, 53, 1163, 1164, 1), (0, 1176, 53, 1175, 33, 1), (1, 1172, 53, 1171, 0, 1), (0, 1169, 53, 1167, 1168, 1), (0, 1184, 53, 1182, 1183, 1), (0, 1188, 53, 1186, 1187, 2), (0, 1196, 53, 1194, 1195, 2), (0, 1200, 53, 1198, 1199, 1), (0, 1204, 53, 1203, 36, 3), (0, 1208, 53, 1206, 1207, 1), (0, 1212, 53, 1211, 37, 1), (0, 1216, 53, 1214, 1215, 0), (0, 1220, 53, 1218, 1219, 1), (0, 1224, 53, 1222, 1223, 3), (0, 1229, 53, 1227, 1228, 0), (0, 1236, 53, 1234, 1235, 2), (0, 1240, 53, 1238, 1239, 1), (0, 1244, 53, 1242, 1243, 3), (0, 1252, 53, 1251, 38, 1), (0, 1248, 53, 1246, 1247, 1), (0, 1256, 53, 1254, 1255, 0), (0, 1260, 53, 1258, 1259, 0), (0, 1264, 53, 1262, 1263, 2), (0, 1272, 53, 1270, 1271, 0), (0, 1276, 53, 1274, 1275, 0), (0, 1280, 53, 1278, 1279, 0), (0, 1284, 53, 1282, 1283, 0), (0, 1292, 53, 1291, 39, 1), (0, 1288, 53, 1286, 1287, 1), (0, 1296, 53, 1294, 1295, 0), (0, 1300, 53, 1298, 1299, 1), (0, 1309, 53, 1308, 40, 1), (0, 1314, 53, 1313, 41, 0), (0, 1304, 53, 1302, 1303, 0), (1, 703, 56, 702, 0, 1), (9, 0, 0, 0, 0, 0)]
def chkM (e : (Nat × Nat × Nat × Nat × Nat × Nat) × MRow) : Bool := match e with
  | ((9, _), _) => true
  | ((k, pc, pi, pk, ps, n), (y, cc, nL, ret, oc, _)) => inTbl pi (.initialized y.cls) && (match k with
    | 0 => inTbl pk (.instanceMethod y) && inTbl ps (.selects y.cls y y)
    | 1 => inTbl pk (.static y)
    | _ => inTbl pk (.instanceMethod y) && decide (y.name = "<init>") && decide (ret = none)) && decide (y.cls = clsN oc) && plainName y.cls && decide (y.cls ≠ "java/lang/invoke/MethodHandle") && decide (y.cls ≠ "java/lang/invoke/VarHandle") && decide ((parseMethodDescriptor y.desc).map (fun d => d.parameters.length) = some n)
theorem metL_ok_0 : ((metL.zip MT).drop 0).take 29 |>.all chkM := by decide +kernel
theorem metL_ok_1 : ((metL.zip MT).drop 29).take 29 |>.all chkM := by decide +kernel
theorem metL_ok_2 : ((metL.zip MT).drop 58).take 29 |>.all chkM := by decide +kernel
theorem metL_ok_3 : ((metL.zip MT).drop 87).take 29 |>.all chkM := by decide +kernel
theorem metL_ok_4 : ((metL.zip MT).drop 116).take 29 |>.all chkM := by decide +kernel
theorem metL_ok_5 : ((metL.zip MT).drop 145).take 29 |>.all chkM := by decide +kernel
theorem metL_ok_6 : ((metL.zip MT).drop 174).take 29 |>.all chkM := by decide +kernel
theorem metL_ok_7 : ((metL.zip MT).drop 203).take 29 |>.all chkM := by decide +kernel
theorem tb_1 {w : Cond} (h : w ∈ tables_1_1) : w ∈ lw_tbl := List.mem_append_right _ (show w ∈ tables_1 from List.mem_append_left _ h)
theorem tb_2 {w : Cond} (h : w ∈ tables_1_2) : w ∈ lw_tbl := List.mem_append_right _ (show w ∈ tables_1 from List.mem_append_right _ (List.mem_append_left _ h))
theorem tb_3 {w : Cond} (h : w ∈ tables_1_3) : w ∈ lw_tbl := List.mem_append_right _ (show w ∈ tables_1 from List.mem_append_right _ (List.mem_append_right _ (List.mem_append_left _ h)))
theorem tb_4 {w : Cond} (h : w ∈ tables_1_4) : w ∈ lw_tbl := List.mem_append_right _ (show w ∈ tables_1 from List.mem_append_right _ (List.mem_append_right _ (List.mem_append_right _ (List.mem_append_left _ h))))
theorem tb_5 {w : Cond} (h : w ∈ tables_1_5) : w ∈ lw_tbl := List.mem_append_right _ (show w ∈ tables_1 from List.mem_append_right _ (List.mem_append_right _ (List.mem_append_right _ (List.mem_append_right _ (List.mem_append_left _ h)))))
theorem tb_6 {w : Cond} (h : w ∈ tables_1_6) : w ∈ lw_tbl := List.mem_append_right _ (show w ∈ tables_1 from List.mem_append_right _ (List.mem_append_right _ (List.mem_append_right _ (List.mem_append_right _ (List.mem_append_right _ (h))))))
def cdOk (r : MRow) : Prop := Cond.code r.1 r.2.1 r.2.2.1 r.2.2.2.1 ∈ lw_tbl
set_option maxRecDepth 20000 in
theorem cd_Ce_init : cdOk r_Ce_init := tb_1 (List.mem_of_getElem? (i := 183) rfl)
set_option maxRecDepth 20000 in
theorem cd_Ce_isMissing : cdOk r_Ce_isMissing := tb_2 (List.mem_of_getElem? (i := 19) rfl)
set_option maxRecDepth 20000 in
theorem cd_Ce_has : cdOk r_Ce_has := tb_2 (List.mem_of_getElem? (i := 23) rfl)
set_option maxRecDepth 20000 in
theorem cd_Ce_hasSpan : cdOk r_Ce_hasSpan := tb_2 (List.mem_of_getElem? (i := 56) rfl)
set_option maxRecDepth 20000 in
theorem cd_Ce_get : cdOk r_Ce_get := tb_2 (List.mem_of_getElem? (i := 27) rfl)
set_option maxRecDepth 20000 in
theorem cd_Ce_set : cdOk r_Ce_set := tb_2 (List.mem_of_getElem? (i := 32) rfl)
set_option maxRecDepth 20000 in
theorem cd_Ce_renew : cdOk r_Ce_renew := tb_2 (List.mem_of_getElem? (i := 4) rfl)
set_option maxRecDepth 20000 in
theorem cd_Ce_remove : cdOk r_Ce_remove := tb_2 (List.mem_of_getElem? (i := 48) rfl)
set_option maxRecDepth 20000 in
theorem cd_Ce_take : cdOk r_Ce_take := tb_2 (List.mem_of_getElem? (i := 60) rfl)
set_option maxRecDepth 20000 in
theorem cd_Ce_sum : cdOk r_Ce_sum := tb_2 (List.mem_of_getElem? (i := 72) rfl)
set_option maxRecDepth 20000 in
theorem cd_Ce_mixedInto : cdOk r_Ce_mixedInto := tb_4 (List.mem_of_getElem? (i := 72) rfl)
set_option maxRecDepth 20000 in
theorem cd_Fr_init : cdOk r_Fr_init := tb_1 (List.mem_of_getElem? (i := 169) rfl)
set_option maxRecDepth 20000 in
theorem cd_Fr_become : cdOk r_Fr_become := tb_3 (List.mem_of_getElem? (i := 113) rfl)
set_option maxRecDepth 20000 in
theorem cd_Gr_faultOf : cdOk r_Gr_faultOf := tb_2 (List.mem_of_getElem? (i := 91) rfl)
set_option maxRecDepth 20000 in
theorem cd_Gr_build : cdOk r_Gr_build := tb_2 (List.mem_of_getElem? (i := 126) rfl)
set_option maxRecDepth 20000 in
theorem cd_Gr_buildItem : cdOk r_Gr_buildItem := tb_2 (List.mem_of_getElem? (i := 130) rfl)
set_option maxRecDepth 20000 in
theorem cd_Gr_endOfFigures : cdOk r_Gr_endOfFigures := tb_2 (List.mem_of_getElem? (i := 112) rfl)
set_option maxRecDepth 20000 in
theorem cd_Gr_canBegin : cdOk r_Gr_canBegin := tb_2 (List.mem_of_getElem? (i := 95) rfl)
set_option maxRecDepth 20000 in
theorem cd_Gr_isFigure : cdOk r_Gr_isFigure := tb_2 (List.mem_of_getElem? (i := 115) rfl)
set_option maxRecDepth 20000 in
theorem cd_Hr_init : cdOk r_Hr_init := tb_1 (List.mem_of_getElem? (i := 74) rfl)
set_option maxRecDepth 20000 in
theorem cd_Hr_becomeLike : cdOk r_Hr_becomeLike := tb_3 (List.mem_of_getElem? (i := 47) rfl)
set_option maxRecDepth 20000 in
theorem cd_Ho_init : cdOk r_Ho_init := tb_1 (List.mem_of_getElem? (i := 40) rfl)
set_option maxRecDepth 20000 in
theorem cd_Ho_sound : cdOk r_Ho_sound := tb_2 (List.mem_of_getElem? (i := 151) rfl)
set_option maxRecDepth 20000 in
theorem cd_Ho_isMute : cdOk r_Ho_isMute := tb_3 (List.mem_of_getElem? (i := 74) rfl)
set_option maxRecDepth 20000 in
theorem cd_Ho_becomeLike : cdOk r_Ho_becomeLike := tb_3 (List.mem_of_getElem? (i := 42) rfl)
set_option maxRecDepth 20000 in
theorem cd_Ki_isOf : cdOk r_Ki_isOf := tb_2 (List.mem_of_getElem? (i := 173) rfl)
set_option maxRecDepth 20000 in
theorem cd_Ki_byLetter : cdOk r_Ki_byLetter := tb_2 (List.mem_of_getElem? (i := 98) rfl)
set_option maxRecDepth 20000 in
theorem cd_Se_init : cdOk r_Se_init := tb_1 (List.mem_of_getElem? (i := 144) rfl)
set_option maxRecDepth 20000 in
theorem cd_Se_lookAt : cdOk r_Se_lookAt := tb_3 (List.mem_of_getElem? (i := 66) rfl)
set_option maxRecDepth 20000 in
theorem cd_Se_addHouse : cdOk r_Se_addHouse := tb_3 (List.mem_of_getElem? (i := 70) rfl)
set_option maxRecDepth 20000 in
theorem cd_Se_ripplesOf : cdOk r_Se_ripplesOf := tb_3 (List.mem_of_getElem? (i := 160) rfl)
set_option maxRecDepth 20000 in
theorem cd_Se_isFitting : cdOk r_Se_isFitting := tb_3 (List.mem_of_getElem? (i := 83) rfl)
set_option maxRecDepth 20000 in
theorem cd_Se_howManyFit : cdOk r_Se_howManyFit := tb_3 (List.mem_of_getElem? (i := 79) rfl)
set_option maxRecDepth 20000 in
theorem cd_Se_howManyFitWith : cdOk r_Se_howManyFitWith := tb_3 (List.mem_of_getElem? (i := 108) rfl)
set_option maxRecDepth 20000 in
theorem cd_Se_leastFitting : cdOk r_Se_leastFitting := tb_3 (List.mem_of_getElem? (i := 87) rfl)
set_option maxRecDepth 20000 in
theorem cd_Se_inAllFitting : cdOk r_Se_inAllFitting := tb_3 (List.mem_of_getElem? (i := 100) rfl)
set_option maxRecDepth 20000 in
theorem cd_Se_inAnyFitting : cdOk r_Se_inAnyFitting := tb_3 (List.mem_of_getElem? (i := 96) rfl)
set_option maxRecDepth 20000 in
theorem cd_Se_waysToJoin : cdOk r_Se_waysToJoin := tb_3 (List.mem_of_getElem? (i := 125) rfl)
set_option maxRecDepth 20000 in
theorem cd_Se_howManyBeside : cdOk r_Se_howManyBeside := tb_3 (List.mem_of_getElem? (i := 130) rfl)
set_option maxRecDepth 20000 in
theorem cd_Se_unlikeRises : cdOk r_Se_unlikeRises := tb_3 (List.mem_of_getElem? (i := 147) rfl)
set_option maxRecDepth 20000 in
theorem cd_Se_greatestRise : cdOk r_Se_greatestRise := tb_3 (List.mem_of_getElem? (i := 143) rfl)
set_option maxRecDepth 20000 in
theorem cd_Se_cheapestSounding : cdOk r_Se_cheapestSounding := tb_3 (List.mem_of_getElem? (i := 155) rfl)
set_option maxRecDepth 20000 in
theorem cd_Se_mostHouses : cdOk r_Se_mostHouses := tb_3 (List.mem_of_getElem? (i := 178) rfl)
set_option maxRecDepth 20000 in
theorem cd_Se_fewestHours : cdOk r_Se_fewestHours := tb_3 (List.mem_of_getElem? (i := 195) rfl)
set_option maxRecDepth 20000 in
theorem cd_Se_firstHour : cdOk r_Se_firstHour := tb_3 (List.mem_of_getElem? (i := 200) rfl)
set_option maxRecDepth 20000 in
theorem cd_Se_fewestPayments : cdOk r_Se_fewestPayments := tb_3 (List.mem_of_getElem? (i := 225) rfl)
set_option maxRecDepth 20000 in
theorem cd_St_init : cdOk r_St_init := tb_1 (List.mem_of_getElem? (i := 29) rfl)
set_option maxRecDepth 20000 in
theorem cd_St_clear : cdOk r_St_clear := tb_2 (List.mem_of_getElem? (i := 123) rfl)
set_option maxRecDepth 20000 in
theorem cd_St_add : cdOk r_St_add := tb_2 (List.mem_of_getElem? (i := 134) rfl)
set_option maxRecDepth 20000 in
theorem cd_St_becomeLike : cdOk r_St_becomeLike := tb_3 (List.mem_of_getElem? (i := 38) rfl)
set_option maxRecDepth 20000 in
theorem cd_St_hasHouse : cdOk r_St_hasHouse := tb_2 (List.mem_of_getElem? (i := 142) rfl)
set_option maxRecDepth 20000 in
theorem cd_St_allHouses : cdOk r_St_allHouses := tb_2 (List.mem_of_getElem? (i := 206) rfl)
set_option maxRecDepth 20000 in
theorem cd_St_hasSet : cdOk r_St_hasSet := tb_2 (List.mem_of_getElem? (i := 202) rfl)
set_option maxRecDepth 20000 in
theorem cd_St_distance : cdOk r_St_distance := tb_2 (List.mem_of_getElem? (i := 159) rfl)
set_option maxRecDepth 20000 in
theorem cd_St_ripple : cdOk r_St_ripple := tb_2 (List.mem_of_getElem? (i := 155) rfl)
set_option maxRecDepth 20000 in
theorem cd_St_ripplesOf : cdOk r_St_ripplesOf := tb_2 (List.mem_of_getElem? (i := 217) rfl)
set_option maxRecDepth 20000 in
theorem cd_St_trait : cdOk r_St_trait := tb_2 (List.mem_of_getElem? (i := 146) rfl)
set_option maxRecDepth 20000 in
theorem cd_St_lesserRipples : cdOk r_St_lesserRipples := tb_2 (List.mem_of_getElem? (i := 177) rfl)
set_option maxRecDepth 20000 in
theorem cd_St_howManyOf : cdOk r_St_howManyOf := tb_4 (List.mem_of_getElem? (i := 31) rfl)
set_option maxRecDepth 20000 in
theorem cd_St_rippleMostBehind : cdOk r_St_rippleMostBehind := tb_3 (List.mem_of_getElem? (i := 169) rfl)
set_option maxRecDepth 20000 in
theorem cd_St_leaked : cdOk r_St_leaked := tb_2 (List.mem_of_getElem? (i := 222) rfl)
set_option maxRecDepth 20000 in
theorem cd_St_ring : cdOk r_St_ring := tb_2 (List.mem_of_getElem? (i := 210) rfl)
set_option maxRecDepth 20000 in
theorem cd_St_goBackTo : cdOk r_St_goBackTo := tb_2 (List.mem_of_getElem? (i := 230) rfl)
set_option maxRecDepth 20000 in
theorem cd_St_isExempt : cdOk r_St_isExempt := tb_3 (List.mem_of_getElem? (i := 14) rfl)
set_option maxRecDepth 20000 in
theorem cd_St_howManyExempt : cdOk r_St_howManyExempt := tb_4 (List.mem_of_getElem? (i := 36) rfl)
set_option maxRecDepth 20000 in
theorem cd_St_titheOf : cdOk r_St_titheOf := tb_3 (List.mem_of_getElem? (i := 10) rfl)
set_option maxRecDepth 20000 in
theorem cd_St_owedBy : cdOk r_St_owedBy := tb_2 (List.mem_of_getElem? (i := 186) rfl)
set_option maxRecDepth 20000 in
theorem cd_St_balanceOf : cdOk r_St_balanceOf := tb_3 (List.mem_of_getElem? (i := 217) rfl)
set_option maxRecDepth 20000 in
theorem cd_St_netDebts : cdOk r_St_netDebts := tb_3 (List.mem_of_getElem? (i := 235) rfl)
set_option maxRecDepth 20000 in
theorem cd_St_mixedInto : cdOk r_St_mixedInto := tb_4 (List.mem_of_getElem? (i := 65) rfl)
set_option maxRecDepth 20000 in
theorem cd_X_init : cdOk r_X_init := tb_1 (List.mem_of_getElem? (i := 19) rfl)
set_option maxRecDepth 20000 in
theorem cd_X_row : cdOk r_X_row := tb_1 (List.mem_of_getElem? (i := 229) rfl)
set_option maxRecDepth 20000 in
theorem cd_X_lay : cdOk r_X_lay := tb_2 (List.mem_of_getElem? (i := 11) rfl)
set_option maxRecDepth 20000 in
theorem cd_X_at : cdOk r_X_at := tb_2 (List.mem_of_getElem? (i := 40) rfl)
set_option maxRecDepth 20000 in
theorem cd_X_tear : cdOk r_X_tear := tb_2 (List.mem_of_getElem? (i := 44) rfl)
set_option maxRecDepth 20000 in
theorem cd_X_copy : cdOk r_X_copy := tb_2 (List.mem_of_getElem? (i := 52) rfl)
set_option maxRecDepth 20000 in
theorem cd_X_mean : cdOk r_X_mean := tb_2 (List.mem_of_getElem? (i := 68) rfl)
set_option maxRecDepth 20000 in
theorem cd_X_text : cdOk r_X_text := tb_2 (List.mem_of_getElem? (i := 76) rfl)
set_option maxRecDepth 20000 in
theorem cd_X_put : cdOk r_X_put := tb_2 (List.mem_of_getElem? (i := 84) rfl)
set_option maxRecDepth 20000 in
theorem cd_X_fault : cdOk r_X_fault := tb_2 (List.mem_of_getElem? (i := 88) rfl)
set_option maxRecDepth 20000 in
theorem cd_X_street : cdOk r_X_street := tb_2 (List.mem_of_getElem? (i := 119) rfl)
set_option maxRecDepth 20000 in
theorem cd_X_house : cdOk r_X_house := tb_2 (List.mem_of_getElem? (i := 138) rfl)
set_option maxRecDepth 20000 in
theorem cd_X_mark : cdOk r_X_mark := tb_2 (List.mem_of_getElem? (i := 167) rfl)
set_option maxRecDepth 20000 in
theorem cd_X_altar : cdOk r_X_altar := tb_2 (List.mem_of_getElem? (i := 190) rfl)
set_option maxRecDepth 20000 in
theorem cd_X_wall : cdOk r_X_wall := tb_2 (List.mem_of_getElem? (i := 194) rfl)
set_option maxRecDepth 20000 in
theorem cd_X_hour : cdOk r_X_hour := tb_2 (List.mem_of_getElem? (i := 198) rfl)
set_option maxRecDepth 20000 in
theorem cd_X_undo : cdOk r_X_undo := tb_2 (List.mem_of_getElem? (i := 226) rfl)
set_option maxRecDepth 20000 in
theorem cd_X_jar : cdOk r_X_jar := tb_2 (List.mem_of_getElem? (i := 234) rfl)
set_option maxRecDepth 20000 in
theorem cd_X_loud : cdOk r_X_loud := tb_2 (List.mem_of_getElem? (i := 238) rfl)
set_option maxRecDepth 20000 in
theorem cd_X_made : cdOk r_X_made := tb_3 (List.mem_of_getElem? (i := 2) rfl)
set_option maxRecDepth 20000 in
theorem cd_X_tithe : cdOk r_X_tithe := tb_3 (List.mem_of_getElem? (i := 6) rfl)
set_option maxRecDepth 20000 in
theorem cd_X_pay : cdOk r_X_pay := tb_3 (List.mem_of_getElem? (i := 21) rfl)
set_option maxRecDepth 20000 in
theorem cd_X_due : cdOk r_X_due := tb_3 (List.mem_of_getElem? (i := 25) rfl)
set_option maxRecDepth 20000 in
theorem cd_X_keep : cdOk r_X_keep := tb_3 (List.mem_of_getElem? (i := 30) rfl)
set_option maxRecDepth 20000 in
theorem cd_X_on : cdOk r_X_on := tb_3 (List.mem_of_getElem? (i := 52) rfl)
set_option maxRecDepth 20000 in
theorem cd_X_fits : cdOk r_X_fits := tb_3 (List.mem_of_getElem? (i := 59) rfl)
set_option maxRecDepth 20000 in
theorem cd_X_sure : cdOk r_X_sure := tb_3 (List.mem_of_getElem? (i := 91) rfl)
set_option maxRecDepth 20000 in
theorem cd_X_odds : cdOk r_X_odds := tb_3 (List.mem_of_getElem? (i := 104) rfl)
set_option maxRecDepth 20000 in
theorem cd_X_thunder : cdOk r_X_thunder := tb_3 (List.mem_of_getElem? (i := 117) rfl)
set_option maxRecDepth 20000 in
theorem cd_X_joined : cdOk r_X_joined := tb_3 (List.mem_of_getElem? (i := 121) rfl)
set_option maxRecDepth 20000 in
theorem cd_X_silence : cdOk r_X_silence := tb_3 (List.mem_of_getElem? (i := 134) rfl)
set_option maxRecDepth 20000 in
theorem cd_X_rises : cdOk r_X_rises := tb_3 (List.mem_of_getElem? (i := 139) rfl)
set_option maxRecDepth 20000 in
theorem cd_X_wedding : cdOk r_X_wedding := tb_3 (List.mem_of_getElem? (i := 151) rfl)
set_option maxRecDepth 20000 in
theorem cd_X_feathers : cdOk r_X_feathers := tb_3 (List.mem_of_getElem? (i := 164) rfl)
set_option maxRecDepth 20000 in
theorem cd_X_most : cdOk r_X_most := tb_3 (List.mem_of_getElem? (i := 174) rfl)
set_option maxRecDepth 20000 in
theorem cd_X_hours : cdOk r_X_hours := tb_3 (List.mem_of_getElem? (i := 189) rfl)
set_option maxRecDepth 20000 in
theorem cd_X_year : cdOk r_X_year := tb_3 (List.mem_of_getElem? (i := 204) rfl)
set_option maxRecDepth 20000 in
theorem cd_X_debt : cdOk r_X_debt := tb_3 (List.mem_of_getElem? (i := 209) rfl)
set_option maxRecDepth 20000 in
theorem cd_X_balance : cdOk r_X_balance := tb_3 (List.mem_of_getElem? (i := 213) rfl)
set_option maxRecDepth 20000 in
theorem cd_X_payments : cdOk r_X_payments := tb_3 (List.mem_of_getElem? (i := 221) rfl)
set_option maxRecDepth 20000 in
theorem cd_X_net : cdOk r_X_net := tb_3 (List.mem_of_getElem? (i := 231) rfl)
set_option maxRecDepth 20000 in
theorem cd_X_crickets : cdOk r_X_crickets := tb_3 (List.mem_of_getElem? (i := 239) rfl)
set_option maxRecDepth 20000 in
theorem cd_X_sings : cdOk r_X_sings := tb_4 (List.mem_of_getElem? (i := 10) rfl)
set_option maxRecDepth 20000 in
theorem cd_X_asked : cdOk r_X_asked := tb_4 (List.mem_of_getElem? (i := 15) rfl)
set_option maxRecDepth 20000 in
theorem cd_X_upper : cdOk r_X_upper := tb_4 (List.mem_of_getElem? (i := 19) rfl)
set_option maxRecDepth 20000 in
theorem cd_X_lower : cdOk r_X_lower := tb_4 (List.mem_of_getElem? (i := 23) rfl)
set_option maxRecDepth 20000 in
theorem cd_X_count : cdOk r_X_count := tb_4 (List.mem_of_getElem? (i := 27) rfl)
set_option maxRecDepth 20000 in
theorem cd_X_finding : cdOk r_X_finding := tb_4 (List.mem_of_getElem? (i := 47) rfl)
set_option maxRecDepth 20000 in
theorem cd_X_findings : cdOk r_X_findings := tb_4 (List.mem_of_getElem? (i := 51) rfl)
set_option maxRecDepth 20000 in
theorem cd_X_digest : cdOk r_X_digest := tb_4 (List.mem_of_getElem? (i := 55) rfl)
set_option maxRecDepth 20000 in
theorem cd_X_tell : cdOk r_X_tell := tb_2 (List.mem_of_getElem? (i := 36) rfl)
set_option maxRecDepth 20000 in
theorem cd_X_found : cdOk r_X_found := tb_1 (List.mem_of_getElem? (i := 237) rfl)
set_option maxRecDepth 20000 in
theorem cd_X_refusalOfPlace : cdOk r_X_refusalOfPlace := tb_2 (List.mem_of_getElem? (i := 15) rfl)
set_option maxRecDepth 20000 in
theorem cd_X_isRow : cdOk r_X_isRow := tb_1 (List.mem_of_getElem? (i := 233) rfl)
set_option maxRecDepth 20000 in
theorem cd_X_isText : cdOk r_X_isText := tb_2 (List.mem_of_getElem? (i := 80) rfl)
set_option maxRecDepth 20000 in
theorem cd_X_isKeptPlace : cdOk r_X_isKeptPlace := tb_3 (List.mem_of_getElem? (i := 34) rfl)
set_option maxRecDepth 20000 in
theorem cd_X_howManyKept : cdOk r_X_howManyKept := tb_4 (List.mem_of_getElem? (i := 40) rfl)
set_option maxRecDepth 20000 in
theorem cd_X_isMissing : cdOk r_X_isMissing := tb_3 (List.mem_of_getElem? (i := 55) rfl)
set_option maxRecDepth 20000 in
theorem cd_X_howManyThere : cdOk r_X_howManyThere := tb_4 (List.mem_of_getElem? (i := 43) rfl)
set_option maxRecDepth 20000 in
theorem cd_X_isWithin : cdOk r_X_isWithin := tb_2 (List.mem_of_getElem? (i := 0) rfl)
set_option maxRecDepth 20000 in
theorem cd_X_isRise : cdOk r_X_isRise := tb_3 (List.mem_of_getElem? (i := 62) rfl)
set_option maxRecDepth 20000 in
theorem cd_X_contains : cdOk r_X_contains := tb_2 (List.mem_of_getElem? (i := 213) rfl)
set_option maxRecDepth 20000 in
theorem cd_X_lotBehind : cdOk r_X_lotBehind := tb_4 (List.mem_of_getElem? (i := 4) rfl)
set_option maxRecDepth 20000 in
theorem cd_X_mixed : cdOk r_X_mixed := tb_4 (List.mem_of_getElem? (i := 60) rfl)
set_option maxRecDepth 20000 in
theorem cd_M_init : cdOk r_M_init := tb_4 (List.mem_of_getElem? (i := 78) rfl)
set_option maxRecDepth 20000 in
theorem cd_M_in : cdOk r_M_in := tb_4 (List.mem_of_getElem? (i := 205) rfl)
set_option maxRecDepth 20000 in
theorem cd_M_meet : cdOk r_M_meet := tb_4 (List.mem_of_getElem? (i := 209) rfl)
set_option maxRecDepth 20000 in
theorem cd_M_ask : cdOk r_M_ask := tb_4 (List.mem_of_getElem? (i := 229) rfl)
set_option maxRecDepth 20000 in
theorem cd_M_part : cdOk r_M_part := tb_5 (List.mem_of_getElem? (i := 190) rfl)
set_option maxRecDepth 20000 in
theorem cd_M_has : cdOk r_M_has := tb_5 (List.mem_of_getElem? (i := 119) rfl)
set_option maxRecDepth 20000 in
theorem cd_M_sizeOf : cdOk r_M_sizeOf := tb_5 (List.mem_of_getElem? (i := 230) rfl)
set_option maxRecDepth 20000 in
theorem cd_M_isRow : cdOk r_M_isRow := tb_4 (List.mem_of_getElem? (i := 202) rfl)
set_option maxRecDepth 20000 in
theorem cd_M_isText : cdOk r_M_isText := tb_5 (List.mem_of_getElem? (i := 13) rfl)
set_option maxRecDepth 20000 in
theorem cd_M_askedRow : cdOk r_M_askedRow := tb_4 (List.mem_of_getElem? (i := 221) rfl)
set_option maxRecDepth 20000 in
theorem cd_M_askedText : cdOk r_M_askedText := tb_5 (List.mem_of_getElem? (i := 21) rfl)
set_option maxRecDepth 20000 in
theorem cd_M_rowAt : cdOk r_M_rowAt := tb_4 (List.mem_of_getElem? (i := 225) rfl)
set_option maxRecDepth 20000 in
theorem cd_M_setRow : cdOk r_M_setRow := tb_4 (List.mem_of_getElem? (i := 213) rfl)
set_option maxRecDepth 20000 in
theorem cd_M_row : cdOk r_M_row := tb_4 (List.mem_of_getElem? (i := 199) rfl)
set_option maxRecDepth 20000 in
theorem cd_M_at : cdOk r_M_at := tb_4 (List.mem_of_getElem? (i := 217) rfl)
set_option maxRecDepth 20000 in
theorem cd_M_lay : cdOk r_M_lay := tb_4 (List.mem_of_getElem? (i := 233) rfl)
set_option maxRecDepth 20000 in
theorem cd_M_tear : cdOk r_M_tear := tb_4 (List.mem_of_getElem? (i := 238) rfl)
set_option maxRecDepth 20000 in
theorem cd_M_copy : cdOk r_M_copy := tb_5 (List.mem_of_getElem? (i := 2) rfl)
set_option maxRecDepth 20000 in
theorem cd_M_mean : cdOk r_M_mean := tb_5 (List.mem_of_getElem? (i := 6) rfl)
set_option maxRecDepth 20000 in
theorem cd_M_text : cdOk r_M_text := tb_5 (List.mem_of_getElem? (i := 10) rfl)
set_option maxRecDepth 20000 in
theorem cd_M_put : cdOk r_M_put := tb_5 (List.mem_of_getElem? (i := 17) rfl)
set_option maxRecDepth 20000 in
theorem cd_M_here : cdOk r_M_here := tb_5 (List.mem_of_getElem? (i := 33) rfl)
set_option maxRecDepth 20000 in
theorem cd_M_isFigure : cdOk r_M_isFigure := tb_5 (List.mem_of_getElem? (i := 44) rfl)
set_option maxRecDepth 20000 in
theorem cd_M_figure : cdOk r_M_figure := tb_5 (List.mem_of_getElem? (i := 48) rfl)
set_option maxRecDepth 20000 in
theorem cd_M_kindOf : cdOk r_M_kindOf := tb_5 (List.mem_of_getElem? (i := 40) rfl)
set_option maxRecDepth 20000 in
theorem cd_M_readsHead : cdOk r_M_readsHead := tb_5 (List.mem_of_getElem? (i := 52) rfl)
set_option maxRecDepth 20000 in
theorem cd_M_readsHouse : cdOk r_M_readsHouse := tb_5 (List.mem_of_getElem? (i := 37) rfl)
set_option maxRecDepth 20000 in
theorem cd_M_goesOn : cdOk r_M_goesOn := tb_5 (List.mem_of_getElem? (i := 29) rfl)
set_option maxRecDepth 20000 in
theorem cd_M_fault : cdOk r_M_fault := tb_5 (List.mem_of_getElem? (i := 25) rfl)
set_option maxRecDepth 20000 in
theorem cd_M_street : cdOk r_M_street := tb_5 (List.mem_of_getElem? (i := 56) rfl)
set_option maxRecDepth 20000 in
theorem cd_M_isHouse : cdOk r_M_isHouse := tb_5 (List.mem_of_getElem? (i := 64) rfl)
set_option maxRecDepth 20000 in
theorem cd_M_all : cdOk r_M_all := tb_5 (List.mem_of_getElem? (i := 112) rfl)
set_option maxRecDepth 20000 in
theorem cd_M_isSet : cdOk r_M_isSet := tb_5 (List.mem_of_getElem? (i := 108) rfl)
set_option maxRecDepth 20000 in
theorem cd_M_isA : cdOk r_M_isA := tb_5 (List.mem_of_getElem? (i := 88) rfl)
set_option maxRecDepth 20000 in
theorem cd_M_soundOf : cdOk r_M_soundOf := tb_5 (List.mem_of_getElem? (i := 72) rfl)
set_option maxRecDepth 20000 in
theorem cd_M_farOf : cdOk r_M_farOf := tb_5 (List.mem_of_getElem? (i := 80) rfl)
set_option maxRecDepth 20000 in
theorem cd_M_rippleOf : cdOk r_M_rippleOf := tb_5 (List.mem_of_getElem? (i := 76) rfl)
set_option maxRecDepth 20000 in
theorem cd_M_ripples : cdOk r_M_ripples := tb_5 (List.mem_of_getElem? (i := 116) rfl)
set_option maxRecDepth 20000 in
theorem cd_M_mutes : cdOk r_M_mutes := tb_5 (List.mem_of_getElem? (i := 178) rfl)
set_option maxRecDepth 20000 in
theorem cd_M_houseOf : cdOk r_M_houseOf := tb_5 (List.mem_of_getElem? (i := 68) rfl)
set_option maxRecDepth 20000 in
theorem cd_M_house : cdOk r_M_house := tb_5 (List.mem_of_getElem? (i := 60) rfl)
set_option maxRecDepth 20000 in
theorem cd_M_owes : cdOk r_M_owes := tb_5 (List.mem_of_getElem? (i := 92) rfl)
set_option maxRecDepth 20000 in
theorem cd_M_mark : cdOk r_M_mark := tb_5 (List.mem_of_getElem? (i := 84) rfl)
set_option maxRecDepth 20000 in
theorem cd_M_altar : cdOk r_M_altar := tb_5 (List.mem_of_getElem? (i := 96) rfl)
set_option maxRecDepth 20000 in
theorem cd_M_wall : cdOk r_M_wall := tb_5 (List.mem_of_getElem? (i := 100) rfl)
set_option maxRecDepth 20000 in
theorem cd_M_hour : cdOk r_M_hour := tb_5 (List.mem_of_getElem? (i := 104) rfl)
set_option maxRecDepth 20000 in
theorem cd_M_undo : cdOk r_M_undo := tb_5 (List.mem_of_getElem? (i := 123) rfl)
set_option maxRecDepth 20000 in
theorem cd_M_jar : cdOk r_M_jar := tb_5 (List.mem_of_getElem? (i := 127) rfl)
set_option maxRecDepth 20000 in
theorem cd_M_loud : cdOk r_M_loud := tb_5 (List.mem_of_getElem? (i := 131) rfl)
set_option maxRecDepth 20000 in
theorem cd_M_made : cdOk r_M_made := tb_5 (List.mem_of_getElem? (i := 135) rfl)
set_option maxRecDepth 20000 in
theorem cd_M_isExempt : cdOk r_M_isExempt := tb_5 (List.mem_of_getElem? (i := 147) rfl)
set_option maxRecDepth 20000 in
theorem cd_M_titheOf : cdOk r_M_titheOf := tb_5 (List.mem_of_getElem? (i := 143) rfl)
set_option maxRecDepth 20000 in
theorem cd_M_tithe : cdOk r_M_tithe := tb_5 (List.mem_of_getElem? (i := 139) rfl)
set_option maxRecDepth 20000 in
theorem cd_M_pay : cdOk r_M_pay := tb_5 (List.mem_of_getElem? (i := 151) rfl)
set_option maxRecDepth 20000 in
theorem cd_M_due : cdOk r_M_due := tb_5 (List.mem_of_getElem? (i := 155) rfl)
set_option maxRecDepth 20000 in
theorem cd_M_keep : cdOk r_M_keep := tb_5 (List.mem_of_getElem? (i := 159) rfl)
set_option maxRecDepth 20000 in
theorem cd_M_on : cdOk r_M_on := tb_5 (List.mem_of_getElem? (i := 163) rfl)
set_option maxRecDepth 20000 in
theorem cd_M_setFits : cdOk r_M_setFits := tb_5 (List.mem_of_getElem? (i := 174) rfl)
set_option maxRecDepth 20000 in
theorem cd_M_isRise : cdOk r_M_isRise := tb_5 (List.mem_of_getElem? (i := 170) rfl)
set_option maxRecDepth 20000 in
theorem cd_M_fits : cdOk r_M_fits := tb_5 (List.mem_of_getElem? (i := 167) rfl)
set_option maxRecDepth 20000 in
theorem cd_M_sure : cdOk r_M_sure := tb_5 (List.mem_of_getElem? (i := 182) rfl)
set_option maxRecDepth 20000 in
theorem cd_M_odds : cdOk r_M_odds := tb_5 (List.mem_of_getElem? (i := 186) rfl)
set_option maxRecDepth 20000 in
theorem cd_M_thunder : cdOk r_M_thunder := tb_5 (List.mem_of_getElem? (i := 194) rfl)
set_option maxRecDepth 20000 in
theorem cd_M_joined : cdOk r_M_joined := tb_5 (List.mem_of_getElem? (i := 198) rfl)
set_option maxRecDepth 20000 in
theorem cd_M_joinedBy : cdOk r_M_joinedBy := tb_5 (List.mem_of_getElem? (i := 202) rfl)
set_option maxRecDepth 20000 in
theorem cd_M_silence : cdOk r_M_silence := tb_5 (List.mem_of_getElem? (i := 206) rfl)
set_option maxRecDepth 20000 in
theorem cd_M_halfOf : cdOk r_M_halfOf := tb_5 (List.mem_of_getElem? (i := 210) rfl)
set_option maxRecDepth 20000 in
theorem cd_M_rises : cdOk r_M_rises := tb_5 (List.mem_of_getElem? (i := 214) rfl)
set_option maxRecDepth 20000 in
theorem cd_M_wedding : cdOk r_M_wedding := tb_5 (List.mem_of_getElem? (i := 218) rfl)
set_option maxRecDepth 20000 in
theorem cd_M_feathers : cdOk r_M_feathers := tb_5 (List.mem_of_getElem? (i := 222) rfl)
set_option maxRecDepth 20000 in
theorem cd_M_most : cdOk r_M_most := tb_5 (List.mem_of_getElem? (i := 227) rfl)
set_option maxRecDepth 20000 in
theorem cd_M_hours : cdOk r_M_hours := tb_5 (List.mem_of_getElem? (i := 234) rfl)
set_option maxRecDepth 20000 in
theorem cd_M_year : cdOk r_M_year := tb_5 (List.mem_of_getElem? (i := 238) rfl)
set_option maxRecDepth 20000 in
theorem cd_M_debt : cdOk r_M_debt := tb_6 (List.mem_of_getElem? (i := 2) rfl)
set_option maxRecDepth 20000 in
theorem cd_M_balanceOf : cdOk r_M_balanceOf := tb_6 (List.mem_of_getElem? (i := 10) rfl)
set_option maxRecDepth 20000 in
theorem cd_M_balance : cdOk r_M_balance := tb_6 (List.mem_of_getElem? (i := 6) rfl)
set_option maxRecDepth 20000 in
theorem cd_M_payments : cdOk r_M_payments := tb_6 (List.mem_of_getElem? (i := 14) rfl)
set_option maxRecDepth 20000 in
theorem cd_M_net : cdOk r_M_net := tb_6 (List.mem_of_getElem? (i := 18) rfl)
set_option maxRecDepth 20000 in
theorem cd_M_crickets : cdOk r_M_crickets := tb_6 (List.mem_of_getElem? (i := 22) rfl)
set_option maxRecDepth 20000 in
theorem cd_M_sings : cdOk r_M_sings := tb_6 (List.mem_of_getElem? (i := 30) rfl)
set_option maxRecDepth 20000 in
theorem cd_M_asked : cdOk r_M_asked := tb_6 (List.mem_of_getElem? (i := 34) rfl)
set_option maxRecDepth 20000 in
theorem cd_M_upper : cdOk r_M_upper := tb_6 (List.mem_of_getElem? (i := 38) rfl)
set_option maxRecDepth 20000 in
theorem cd_M_lower : cdOk r_M_lower := tb_6 (List.mem_of_getElem? (i := 42) rfl)
set_option maxRecDepth 20000 in
theorem cd_M_counts : cdOk r_M_counts := tb_6 (List.mem_of_getElem? (i := 50) rfl)
set_option maxRecDepth 20000 in
theorem cd_M_count : cdOk r_M_count := tb_6 (List.mem_of_getElem? (i := 46) rfl)
set_option maxRecDepth 20000 in
theorem cd_M_finding : cdOk r_M_finding := tb_6 (List.mem_of_getElem? (i := 54) rfl)
set_option maxRecDepth 20000 in
theorem cd_M_findings : cdOk r_M_findings := tb_6 (List.mem_of_getElem? (i := 58) rfl)
set_option maxRecDepth 20000 in
theorem cd_M_mix : cdOk r_M_mix := tb_6 (List.mem_of_getElem? (i := 67) rfl)
set_option maxRecDepth 20000 in
theorem cd_M_mixStreet : cdOk r_M_mixStreet := tb_6 (List.mem_of_getElem? (i := 72) rfl)
set_option maxRecDepth 20000 in
theorem cd_M_digest : cdOk r_M_digest := tb_6 (List.mem_of_getElem? (i := 62) rfl)
set_option maxRecDepth 20000 in
theorem cd_J_bitCount : cdOk r_J_bitCount := tb_3 (List.mem_of_getElem? (i := 181) rfl)
/-- (class, entry, method, place, nest) -/
def lnkL : List (Nat × Nat × Nat × Nat × Bool) := [(0, 23, 2, 310, false),
  (0, 30, 3, 343, false),
  (0, 40, 133, 835, true),
  (9, 15, 4, 374, false),
  (9, 19, 17, 375, false),
  (9, 25, 16, 392, false),
  (9, 29, 47, 409, false),
  (9, 34, 15, 410, false),
  (9, 38, 26, 378, false),
  (9, 50, 48, 413, false),
  (9, 54, 18, 395, false),
  (4, 34, 54, 589, false),
  (4, 38, 29, 590, false),
  (4, 46, 23, 593, false),
  (4, 52, 31, 602, false),
  (4, 56, 131, 631, true),
  (4, 64, 4, 648, false),
  (4, 67, 38, 649, false),
  (4, 71, 22, 678, false),
  (4, 75, 224, 701, false),
  (4, 85, 67, 748, false),
  (5, 28, 21, 80, true),
  (5, 29, 19, 114, true),
  (5, 65, 24, 561, false),
  (5, 75, 20, 566, false),
  (5, 78, 51, 485, false),
  (5, 88, 50, 429, false),
  (5, 92, 22, 430, false),
  (5, 95, 53, 438, false),
  (5, 102, 131, 493, true),
  (5, 106, 54, 434, false),
  (5, 114, 25, 794, false),
  (5, 117, 4, 692, false),
  (5, 138, 55, 496, false),
  (5, 144, 60, 501, false),
  (5, 153, 66, 539, false),
  (5, 156, 63, 533, false),
  (5, 159, 133, 828, true),
  (5, 163, 56, 829, false),
  (6, 20, 46, 69, false),
  (6, 31, 27, 184, true),
  (6, 38, 11, 209, true),
  (6, 54, 0, 223, false),
  (6, 57, 123, 272, false),
  (6, 61, 121, 276, false),
  (6, 65, 6, 283, false),
  (6, 69, 122, 294, false),
  (6, 73, 4, 306, false),
  (6, 76, 5, 311, false),
  (6, 79, 120, 315, false),
  (6, 83, 1, 298, false),
  (6, 87, 7, 327, false),
  (6, 90, 3, 335, false),
  (6, 94, 8, 339, false),
  (6, 101, 9, 351, false),
  (6, 105, 124, 359, false),
  (6, 108, 13, 371, false),
  (6, 114, 47, 402, false),
  (6, 117, 14, 406, false),
  (6, 124, 50, 421, false),
  (6, 127, 129, 280, false),
  (6, 131, 56, 425, false),
  (6, 155, 25, 452, false),
  (6, 158, 57, 456, false),
  (6, 167, 22, 461, false),
  (6, 180, 53, 464, false),
  (6, 183, 66, 465, false),
  (6, 192, 52, 481, false),
  (6, 198, 61, 489, false),
  (6, 204, 62, 509, false),
  (6, 221, 65, 529, false),
  (6, 232, 125, 553, false),
  (6, 235, 49, 557, false),
  (6, 239, 127, 575, false),
  (6, 242, 130, 582, false),
  (6, 245, 28, 585, false),
  (6, 248, 32, 598, false),
  (6, 251, 34, 606, false),
  (6, 254, 51, 614, false),
  (6, 257, 36, 615, false),
  (6, 260, 35, 619, false),
  (6, 263, 33, 627, false),
  (6, 266, 12, 632, false),
  (6, 270, 37, 644, false),
  (6, 276, 40, 662, false),
  (6, 279, 39, 666, false),
  (6, 282, 41, 674, false),
  (6, 286, 30, 679, false),
  (6, 289, 55, 687, false),
  (6, 290, 59, 688, false),
  (6, 294, 42, 697, false),
  (6, 297, 224, 707, false),
  (6, 302, 131, 712, false),
  (6, 305, 54, 713, false),
  (6, 308, 43, 714, false),
  (6, 311, 44, 719, false),
  (6, 314, 60, 727, false),
  (6, 321, 67, 736, false),
  (6, 324, 45, 744, false),
  (6, 328, 68, 754, false),
  (6, 332, 23, 763, false),
  (6, 335, 132, 764, false),
  (6, 347, 58, 790, false),
  (6, 350, 64, 795, false),
  (6, 353, 126, 799, false),
  (6, 356, 128, 803, false),
  (6, 362, 116, 819, false),
  (6, 365, 133, 820, false),
  (6, 369, 69, 824, false),
  (6, 375, 10, 831, false),
  (6, 376, 2, 302, false),
  (7, 82, 135, 965, false),
  (7, 86, 141, 962, false),
  (7, 90, 136, 968, false),
  (7, 94, 142, 1013, false),
  (7, 97, 146, 972, false),
  (7, 101, 143, 980, false),
  (7, 104, 145, 984, false),
  (7, 108, 137, 988, false),
  (7, 111, 148, 996, false),
  (7, 114, 144, 1020, false),
  (7, 120, 155, 1032, false),
  (7, 123, 156, 1043, false),
  (7, 126, 157, 1047, false),
  (7, 135, 158, 1040, false),
  (7, 141, 160, 1036, false),
  (7, 144, 159, 1051, false),
  (7, 147, 161, 1028, false),
  (7, 168, 165, 1111, false),
  (7, 172, 168, 1071, false),
  (7, 175, 169, 1079, false),
  (7, 178, 139, 1119, false),
  (7, 182, 170, 1075, false),
  (7, 185, 164, 1063, false),
  (7, 188, 173, 1067, false),
  (7, 191, 167, 1087, false),
  (7, 194, 175, 1091, false),
  (7, 197, 166, 1107, false),
  (7, 200, 171, 1115, false),
  (7, 203, 184, 1146, false),
  (7, 206, 185, 1142, false),
  (7, 209, 172, 1177, false),
  (7, 224, 192, 1170, false),
  (7, 227, 191, 1173, false),
  (7, 231, 138, 1189, false),
  (7, 235, 198, 1201, false),
  (7, 239, 200, 1209, false),
  (7, 242, 147, 1225, false),
  (7, 245, 140, 1230, false),
  (7, 248, 208, 1249, false),
  (7, 258, 217, 1289, false),
  (7, 266, 221, 1306, false),
  (7, 271, 222, 1311, false),
  (13, 9, 70, 59, false),
  (13, 12, 134, 838, false),
  (13, 13, 71, 268, false),
  (13, 17, 147, 958, false),
  (13, 18, 72, 290, false),
  (13, 22, 149, 992, false),
  (13, 23, 73, 319, false),
  (13, 26, 148, 976, false),
  (13, 27, 74, 323, false),
  (13, 31, 150, 997, false),
  (13, 32, 75, 331, false),
  (13, 36, 151, 1001, false),
  (13, 37, 76, 347, false),
  (13, 40, 152, 1005, false),
  (13, 41, 77, 355, false),
  (13, 44, 153, 1009, false),
  (13, 45, 78, 363, false),
  (13, 48, 154, 1016, false),
  (13, 49, 79, 367, false),
  (13, 52, 162, 1024, false),
  (13, 53, 80, 398, false),
  (13, 56, 163, 1055, false),
  (13, 57, 81, 417, false),
  (13, 60, 174, 1059, false),
  (13, 61, 82, 446, false),
  (13, 64, 176, 1083, false),
  (13, 65, 83, 469, false),
  (13, 68, 177, 1095, false),
  (13, 69, 84, 473, false),
  (13, 72, 178, 1099, false),
  (13, 73, 85, 477, false),
  (13, 76, 179, 1103, false),
  (13, 77, 86, 505, false),
  (13, 80, 180, 1122, false),
  (13, 81, 87, 513, false),
  (13, 85, 181, 1126, false),
  (13, 86, 88, 517, false),
  (13, 89, 182, 1130, false),
  (13, 90, 89, 521, false),
  (13, 93, 183, 1134, false),
  (13, 94, 90, 525, false),
  (13, 97, 186, 1138, false),
  (13, 98, 91, 540, false),
  (13, 101, 187, 1150, false),
  (13, 102, 92, 544, false),
  (13, 105, 188, 1154, false),
  (13, 106, 93, 549, false),
  (13, 109, 189, 1158, false),
  (13, 110, 94, 571, false),
  (13, 113, 190, 1162, false),
  (13, 114, 95, 578, false),
  (13, 117, 193, 1166, false),
  (13, 118, 96, 610, false),
  (13, 121, 194, 1181, false),
  (13, 122, 97, 623, false),
  (13, 125, 195, 1185, false),
  (13, 126, 98, 636, false),
  (13, 129, 196, 1193, false),
  (13, 130, 99, 640, false),
  (13, 133, 197, 1197, false),
  (13, 134, 100, 653, false),
  (13, 137, 199, 1205, false),
  (13, 138, 101, 658, false),
  (13, 141, 201, 1213, false),
  (13, 142, 102, 670, false),
  (13, 145, 202, 1217, false),
  (13, 146, 103, 683, false),
  (13, 149, 203, 1221, false),
  (13, 150, 104, 693, false),
  (13, 153, 204, 1226, false),
  (13, 154, 105, 708, false),
  (13, 157, 205, 1233, false),
  (13, 158, 106, 723, false),
  (13, 161, 206, 1237, false),
  (13, 162, 107, 728, false),
  (13, 165, 207, 1241, false),
  (13, 166, 108, 732, false),
  (13, 169, 209, 1245, false),
  (13, 170, 109, 740, false),
  (13, 173, 210, 1253, false),
  (13, 174, 110, 750, false),
  (13, 177, 211, 1257, false),
  (13, 178, 111, 758, false),
  (13, 181, 212, 1261, false),
  (13, 182, 112, 769, false),
  (13, 185, 213, 1269, false),
  (13, 186, 113, 774, false),
  (13, 189, 214, 1273, false),
  (13, 190, 114, 778, false),
  (13, 194, 215, 1277, false),
  (13, 195, 115, 782, false),
  (13, 198, 216, 1281, false),
  (13, 199, 116, 786, false),
  (13, 202, 218, 1285, false),
  (13, 203, 117, 806, false),
  (13, 206, 219, 1293, false),
  (13, 207, 118, 810, false),
  (13, 210, 220, 1297, false),
  (13, 211, 119, 814, false),
  (13, 214, 223, 1301, false)]
noncomputable def mNm (y : Nat) : MethodName := match MT[y]? with
  | some r => r.1
  | none => objectInit
noncomputable def chkK (e : Nat × Nat × Nat × Nat × Bool) : Bool := match e with
  | (oc, i, y, p, n) => (match n with
    | true => inNw p (.methodLinkNest (clsN oc) i (mNm y) "NoiseTithe")
    | false => inTbl p (.methodLink (clsN oc) i (mNm y)))
theorem lnkL_ok_0 : (lnkL.drop 0).take 60 |>.all chkK := by decide +kernel
theorem lnkL_ok_1 : (lnkL.drop 60).take 60 |>.all chkK := by decide +kernel
theorem lnkL_ok_2 : (lnkL.drop 120).take 60 |>.all chkK := by decide +kernel
theorem lnkL_ok_3 : (lnkL.drop 180).take 60 |>.all chkK := by decide +kernel
theorem lnkL_ok_4 : (lnkL.drop 240).take 60 |>.all chkK := by decide +kernel
def prN (a : Nat) : MethodName := match a with
  | 1 => objectInit
  | 2 => arraycopyName
  | 3 => Lib.Math.max.name
  | 4 => Lib.Math.min.name
  | _ => Lib.Math.abs.name
def prmL : List (Nat × Nat × Nat × Nat) := [(0, 1, 1, 226), (0, 13, 3, 227), (0, 27, 4, 287), (0, 34, 2, 344), (1, 1, 1, 212), (2, 3, 1, 117), (2, 15, 2, 570), (3, 1, 1, 83), (4, 3, 1, 187), (4, 80, 4, 718), (4, 88, 3, 749), (5, 3, 1, 72), (5, 69, 2, 565), (5, 82, 5, 442), (5, 98, 3, 445), (5, 122, 4, 500), (6, 1, 1, 62), (6, 227, 3, 548), (6, 273, 5, 657), (7, 1, 1, 841)]
def chkY (e : Nat × Nat × Nat × Nat) : Bool := match e with
  | (oc, i, a, p) => inTbl p (.methodLink (clsN oc) i (prN a)) && Nat.ble 1 a && Nat.ble a 5
theorem prmL_ok : prmL.all chkY = true := by decide +kernel
theorem prmW_ok : (inTbl 228 (.static Lib.Math.max.name) && inTbl 288 (.static Lib.Math.min.name) && inTbl 443 (.static Lib.Math.abs.name) && inTbl 52 (.initialized "java/lang/Math") && inTbl 229 (.code Lib.Math.max.name Lib.Math.max.code 2 (some .int)) && inTbl 289 (.code Lib.Math.min.name Lib.Math.min.code 2 (some .int)) && inTbl 444 (.code Lib.Math.abs.name Lib.Math.abs.code 1 (some .int))) = true := by decide +kernel
theorem cpyW_ok : (inTbl 346 (.native arraycopyName) && inTbl 345 (.static arraycopyName) && inTbl 54 (.initialized "java/lang/System") && inTbl 63 (.instanceMethod objectInit) && inTbl 64 (.code objectInit ⟨#[0xb1]⟩ 1 none)) = true := by decide +kernel
