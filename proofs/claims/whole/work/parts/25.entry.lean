def nl_1 : List Cond := flatC (Jvm.Cond.and given_1 narrow_1)
def ksE : List Nat := [208, 211, 214, 217, 220, 223, 226, 229, 232, 235, 238, 241, 244, 247, 250, 253, 256, 259, 262, 265, 268, 271, 274, 277, 280, 283, 286, 289, 292, 295, 298, 301, 304, 310, 313, 316, 319, 322, 325, 328, 331, 334, 337, 340, 343, 346, 349, 352, 355, 358, 361, 364, 25]
def tmS (i : Nat) : Term := .string (if i < 52 then "WordSmith$BuiltIn" else "WordSmith$Reader") (ksE.getD i 0)
def tmE (i : Nat) : Term := .static "WordSmith$BuiltIn" (nmE.getD i "") "LWordSmith$BuiltIn;"
section
variable {args : Array Value} {s : State}
theorem nl_at (h : (Jvm.Cond.and given_1 narrow_1).before args s = true) {w : Cond} (i : Nat) (hi : nl_1[i]? = some w) : w.before args s = true := flat_of_before _ h w (List.mem_of_getElem? hi)
theorem tb_at (h : ∀ w ∈ lw_tbl, w.before args s = true) {w : Cond} (i : Nat) (hi : lw_tbl[i]? = some w) : w.before args s = true := h w (List.mem_of_getElem? hi)
theorem ne_refs {t u : Term} {a b : Nat} (ht : t.eval args s none [] s = some (.ref a)) (hu : u.eval args s none [] s = some (.ref b)) (hne : a ≠ b) : (Cond.not (.eq t u)).before args s = true := by
  simp [Cond.before, Cond.holds, Cond.value, ht, hu, hne]
theorem ev_field {t u : Term} (h : t.eval args s none [] s = u.eval args s none [] s) (o n d : String) : (Term.field t o n d).eval args s none [] s = (Term.field u o n d).eval args s none [] s := by
  simp only [Term.eval, h]
theorem ev_length {t u : Term} (h : t.eval args s none [] s = u.eval args s none [] s) : (Term.length t).eval args s none [] s = (Term.length u).eval args s none [] s := by
  simp only [Term.eval, h]
theorem ev_elem {t u : Term} (h : t.eval args s none [] s = u.eval args s none [] s) (k : Term) : (Term.elem t k).eval args s none [] s = (Term.elem u k).eval args s none [] s := by
  simp only [Term.eval, h]
end
set_option maxRecDepth 100000 in
set_option maxHeartbeats 4000000 in
theorem p_ex : ∀ i, i < 52 → nl_1[([204, 210, 216, 222, 228, 234, 240, 246, 252, 258, 264, 193, 270, 276, 282, 288, 294, 300, 306, 312, 318, 324, 330, 336, 342, 348, 354, 360, 366, 372, 187, 181, 66, 378, 384, 390, 72, 396, 402, 408, 133, 139, 169, 145, 151, 414, 420, 157, 426, 163, 432, 175] : List Nat).getD i 0]? = some (Cond.exactly (tmE i) "WordSmith$BuiltIn") := by decide +kernel
set_option maxRecDepth 100000 in
set_option maxHeartbeats 4000000 in
theorem p_f_ordinal : ∀ i, i < 52 → nl_1[([205, 211, 217, 223, 229, 235, 241, 247, 253, 259, 265, 194, 271, 277, 283, 289, 295, 301, 307, 313, 319, 325, 331, 337, 343, 349, 355, 361, 367, 373, 188, 182, 67, 379, 385, 391, 73, 397, 403, 409, 134, 140, 170, 146, 152, 415, 421, 158, 427, 164, 433, 176] : List Nat).getD i 0]? = some (Cond.eq (.field (tmE i) "java/lang/Enum" "ordinal" "I") (.int (ordE.getD i 0))) := by decide +kernel
set_option maxRecDepth 100000 in
set_option maxHeartbeats 4000000 in
theorem p_f_number : ∀ i, i < 52 → nl_1[([206, 212, 218, 224, 230, 236, 242, 248, 254, 260, 266, 195, 272, 278, 284, 290, 296, 302, 308, 314, 320, 326, 332, 338, 344, 350, 356, 362, 368, 374, 189, 183, 68, 380, 386, 392, 74, 398, 404, 410, 135, 141, 171, 147, 153, 416, 422, 159, 428, 165, 434, 177] : List Nat).getD i 0]? = some (Cond.eq (.field (tmE i) "WordSmith$BuiltIn" "number" "I") (.int (numE.getD i 0))) := by decide +kernel
set_option maxRecDepth 100000 in
set_option maxHeartbeats 4000000 in
theorem p_f_takes : ∀ i, i < 52 → nl_1[([208, 214, 220, 226, 232, 238, 244, 250, 256, 262, 268, 197, 274, 280, 286, 292, 298, 304, 310, 316, 322, 328, 334, 340, 346, 352, 358, 364, 370, 376, 191, 185, 70, 382, 388, 394, 76, 400, 406, 412, 137, 143, 173, 149, 155, 418, 424, 161, 430, 167, 436, 179] : List Nat).getD i 0]? = some (Cond.eq (.field (tmE i) "WordSmith$BuiltIn" "takes" "I") (.int (takE.getD i 0))) := by decide +kernel
set_option maxRecDepth 100000 in
set_option maxHeartbeats 4000000 in
theorem p_f_puts : ∀ i, i < 52 → nl_1[([209, 215, 221, 227, 233, 239, 245, 251, 257, 263, 269, 198, 275, 281, 287, 293, 299, 305, 311, 317, 323, 329, 335, 341, 347, 353, 359, 365, 371, 377, 192, 186, 71, 383, 389, 395, 77, 401, 407, 413, 138, 144, 174, 150, 156, 419, 425, 162, 431, 168, 437, 180] : List Nat).getD i 0]? = some (Cond.eq (.field (tmE i) "WordSmith$BuiltIn" "puts" "I") (.int (putE.getD i 0))) := by decide +kernel
set_option maxRecDepth 100000 in
set_option maxHeartbeats 4000000 in
theorem p_sp : ∀ i, i < 52 → nl_1[([207, 213, 219, 225, 231, 237, 243, 249, 255, 261, 267, 196, 273, 279, 285, 291, 297, 303, 309, 315, 321, 327, 333, 339, 345, 351, 357, 363, 369, 375, 190, 184, 69, 381, 387, 393, 75, 399, 405, 411, 136, 142, 172, 148, 154, 417, 423, 160, 429, 166, 435, 178] : List Nat).getD i 0]? = some (Cond.eq (.field (tmE i) "WordSmith$BuiltIn" "spelling" "Ljava/lang/String;") (tmS i)) := by decide +kernel
set_option maxRecDepth 100000 in
set_option maxHeartbeats 4000000 in
theorem p_lay : ∀ i, i < 52 → lw_tbl[([1398, 1399, 1400, 1401, 1402, 1403, 1404, 1405, 1406, 1407, 1408, 893, 1409, 1410, 1411, 1412, 1413, 1414, 1415, 1416, 1417, 1418, 1419, 1420, 1421, 1422, 1423, 1424, 1425, 1426, 855, 832, 657, 1427, 1428, 1429, 659, 1430, 1431, 1432, 761, 777, 793, 779, 781, 1433, 1434, 783, 1435, 785, 1436, 801] : List Nat).getD i 0]? = some (Cond.laysStatic "WordSmith$BuiltIn" (nmE.getD i "") "LWordSmith$BuiltIn;") := by decide +kernel
set_option maxRecDepth 100000 in
set_option maxHeartbeats 4000000 in
theorem p_sex : ∀ i, i < 53 → nl_1[([574, 579, 584, 589, 594, 601, 608, 614, 621, 626, 631, 564, 637, 644, 652, 660, 668, 675, 684, 689, 694, 699, 705, 713, 718, 727, 733, 739, 745, 750, 556, 545, 465, 755, 767, 779, 470, 784, 793, 803, 483, 488, 526, 494, 502, 812, 821, 511, 830, 520, 840, 534, 450] : List Nat).getD i 0]? = some (Cond.exactly (tmS i) "java/lang/String") := by decide +kernel
set_option maxRecDepth 100000 in
set_option maxHeartbeats 4000000 in
theorem p_sco : ∀ i, i < 53 → nl_1[([575, 580, 585, 590, 595, 602, 609, 615, 622, 627, 632, 565, 638, 645, 653, 661, 669, 676, 685, 690, 695, 700, 706, 714, 719, 728, 734, 740, 746, 751, 557, 546, 466, 756, 768, 780, 471, 785, 794, 804, 484, 489, 527, 495, 503, 813, 822, 512, 831, 521, 841, 535, 451] : List Nat).getD i 0]? = some (Cond.eq (.field (tmS i) "java/lang/String" "coder" "B") (.int 0)) := by decide +kernel
set_option maxRecDepth 100000 in
set_option maxHeartbeats 4000000 in
theorem p_sar : ∀ i, i < 53 → nl_1[([576, 581, 586, 591, 596, 603, 610, 616, 623, 628, 633, 566, 639, 646, 654, 662, 670, 677, 686, 691, 696, 701, 707, 715, 720, 729, 735, 741, 747, 752, 558, 547, 467, 757, 769, 781, 472, 786, 795, 805, 485, 490, 528, 496, 504, 814, 823, 513, 832, 522, 842, 536, 452] : List Nat).getD i 0]? = some (Cond.arrayOf (.field (tmS i) "java/lang/String" "value" "[B") .byte) := by decide +kernel
set_option maxRecDepth 100000 in
set_option maxHeartbeats 4000000 in
theorem p_sle : ∀ i, i < 53 → nl_1[([577, 582, 587, 592, 597, 604, 611, 617, 624, 629, 634, 567, 640, 647, 655, 663, 671, 678, 687, 692, 697, 702, 708, 716, 721, 730, 736, 742, 748, 753, 559, 548, 468, 758, 770, 782, 473, 787, 796, 806, 486, 491, 529, 497, 505, 815, 824, 514, 833, 523, 843, 537, 453] : List Nat).getD i 0]? = some (Cond.eq (.length (.field (tmS i) "java/lang/String" "value" "[B")) (.int (Int32.ofNat (lenJ.getD i 0)))) := by decide +kernel
def sel_ix : List (List Nat) := [[578], [583], [588], [593], [598, 599, 600], [605, 606, 607], [612, 613], [618, 619, 620], [625], [630], [635, 636], [568, 569, 570, 571, 572, 573], [641, 642, 643], [648, 649, 650, 651], [656, 657, 658, 659], [664, 665, 666, 667], [672, 673, 674], [679, 680, 681, 682, 683], [688], [693], [698], [703, 704], [709, 710, 711, 712], [717], [722, 723, 724, 725, 726], [731, 732], [737, 738], [743, 744], [749], [754], [560, 561, 562, 563], [549, 550, 551, 552, 553, 554, 555], [469], [759, 760, 761, 762, 763, 764, 765, 766], [771, 772, 773, 774, 775, 776, 777, 778], [783], [474, 475, 476, 477, 478, 479, 480, 481, 482], [788, 789, 790, 791, 792], [797, 798, 799, 800, 801, 802], [807, 808, 809, 810, 811], [487], [492, 493], [530, 531, 532, 533], [498, 499, 500, 501], [506, 507, 508, 509, 510], [816, 817, 818, 819, 820], [825, 826, 827, 828, 829], [515, 516, 517, 518, 519], [834, 835, 836, 837, 838, 839], [524, 525], [844, 845, 846, 847], [538, 539, 540, 541, 542, 543, 544], []]
set_option maxRecDepth 100000 in
set_option maxHeartbeats 4000000 in
theorem p_sel : ∀ i, i < 53 → ∀ j, j < lenJ.getD i 0 → nl_1[(sel_ix.getD i []).getD j 0]? = some (Cond.eq (.elem (.field (tmS i) "java/lang/String" "value" "[B") (.int (Int32.ofNat j))) (.int ((bytJ.getD i []).getD j 0))) := by decide +kernel
set_option maxRecDepth 100000 in
set_option maxHeartbeats 4000000 in
theorem s_apart : ∀ i, i < 53 → ∀ j, j < 53 → i ≠ j → Int32.ofNat (lenJ.getD i 0) ≠ Int32.ofNat (lenJ.getD j 0) ∨ ∃ k, k < lenJ.getD i 0 ∧ (k < lenJ.getD j 0 ∧ (bytJ.getD i []).getD k 0 ≠ (bytJ.getD j []).getD k 0) := by decide +kernel
set_option maxRecDepth 100000 in
set_option maxHeartbeats 4000000 in
theorem o_apart : ∀ i, i < 52 → ∀ j, j < 52 → i ≠ j → ordE.getD i 0 ≠ ordE.getD j 0 := by decide +kernel
set_option maxRecDepth 100000 in
set_option maxHeartbeats 4000000 in
theorem l_small : ∀ i, i < 53 → lenJ.getD i 0 < 2 ^ 31 := by decide +kernel
set_option maxRecDepth 100000 in
set_option maxHeartbeats 4000000 in
theorem p_sw_a : nl_1[79]? = some (Cond.arrayOf (.static "WordSmith$1" "$SwitchMap$WordSmith$BuiltIn" "[I") .int) := by decide +kernel
set_option maxRecDepth 100000 in
set_option maxHeartbeats 4000000 in
theorem p_sw_l : nl_1[80]? = some (Cond.eq (.length (.static "WordSmith$1" "$SwitchMap$WordSmith$BuiltIn" "[I")) (.int (Int32.ofNat 52))) := by decide +kernel
set_option maxRecDepth 100000 in
set_option maxHeartbeats 4000000 in
theorem p_sw_e : ∀ j, j < 52 → nl_1[([81, 82, 83, 84, 85, 86, 87, 88, 89, 90, 91, 92, 93, 94, 95, 96, 97, 98, 99, 100, 101, 102, 103, 104, 105, 106, 107, 108, 109, 110, 111, 112, 113, 114, 115, 116, 117, 118, 119, 120, 121, 122, 123, 124, 125, 126, 127, 128, 129, 130, 131, 132] : List Nat).getD j 0]? = some (Cond.eq (.elem (.static "WordSmith$1" "$SwitchMap$WordSmith$BuiltIn" "[I") (.int (Int32.ofNat j))) (.int (swE.getD j 0))) := by decide +kernel
set_option maxRecDepth 100000 in
set_option maxHeartbeats 4000000 in
theorem p_sw_s : lw_tbl[691]? = some (Cond.laysStatic "WordSmith$1" "$SwitchMap$WordSmith$BuiltIn" "[I") := by decide +kernel
set_option maxRecDepth 100000 in
set_option maxHeartbeats 4000000 in
theorem p_bu_a : nl_1[200]? = some (Cond.arrayOf (.static "WordSmith" "BUFFER_ADDRESSES" "[I") .int) := by decide +kernel
set_option maxRecDepth 100000 in
set_option maxHeartbeats 4000000 in
theorem p_bu_l : nl_1[201]? = some (Cond.eq (.length (.static "WordSmith" "BUFFER_ADDRESSES" "[I")) (.int (Int32.ofNat 2))) := by decide +kernel
set_option maxRecDepth 100000 in
set_option maxHeartbeats 4000000 in
theorem p_bu_e : ∀ j, j < 2 → nl_1[([202, 203] : List Nat).getD j 0]? = some (Cond.eq (.elem (.static "WordSmith" "BUFFER_ADDRESSES" "[I") (.int (Int32.ofNat j))) (.int (bufE.getD j 0))) := by decide +kernel
set_option maxRecDepth 100000 in
set_option maxHeartbeats 4000000 in
theorem p_bu_s : lw_tbl[947]? = some (Cond.laysStatic "WordSmith" "BUFFER_ADDRESSES" "[I") := by decide +kernel
set_option maxRecDepth 100000 in
set_option maxHeartbeats 4000000 in
theorem p_al_a : nl_1[11]? = some (Cond.arrayOf (.static "WordSmith$BuiltIn" "ALL" "[LWordSmith$BuiltIn;") (.object "WordSmith$BuiltIn")) := by decide +kernel
set_option maxRecDepth 100000 in
set_option maxHeartbeats 4000000 in
theorem p_al_l : nl_1[12]? = some (Cond.eq (.length (.static "WordSmith$BuiltIn" "ALL" "[LWordSmith$BuiltIn;")) (.int (Int32.ofNat 52))) := by decide +kernel
set_option maxRecDepth 100000 in
set_option maxHeartbeats 4000000 in
theorem p_al_e : ∀ j, j < 52 → nl_1[([14, 15, 16, 17, 18, 19, 20, 21, 22, 23, 24, 25, 26, 27, 28, 29, 30, 31, 32, 33, 34, 35, 36, 37, 38, 39, 40, 41, 42, 43, 44, 45, 46, 47, 48, 49, 50, 51, 52, 53, 54, 55, 56, 57, 58, 59, 60, 61, 62, 63, 64, 65] : List Nat).getD j 0]? = some (Cond.eq (.elem (.static "WordSmith$BuiltIn" "ALL" "[LWordSmith$BuiltIn;") (.int (Int32.ofNat j))) (tmE j)) := by decide +kernel
set_option maxRecDepth 100000 in
set_option maxHeartbeats 4000000 in
theorem p_al_s : lw_tbl[647]? = some (Cond.laysStatic "WordSmith$BuiltIn" "ALL" "[LWordSmith$BuiltIn;") := by decide +kernel
set_option maxRecDepth 100000 in
set_option maxHeartbeats 4000000 in
theorem p_co : nl_1[4]? = some (Cond.eq (.static "java/lang/String" "COMPACT_STRINGS" "Z") (.int 1)) := by decide +kernel
set_option maxRecDepth 100000 in
set_option maxHeartbeats 4000000 in
theorem p_co_s : lw_tbl[105]? = some (Cond.laysStatic "java/lang/String" "COMPACT_STRINGS" "Z") := by decide +kernel
set_option maxRecDepth 100000 in
set_option maxHeartbeats 4000000 in
theorem p_si : nl_1[5]? = some (Cond.isRef (.static "jdk/internal/util/Preconditions" "SIOOBE_FORMATTER" "Ljava/util/function/BiFunction;")) := by decide +kernel
set_option maxRecDepth 100000 in
set_option maxHeartbeats 4000000 in
theorem p_si_s : lw_tbl[403]? = some (Cond.laysStatic "jdk/internal/util/Preconditions" "SIOOBE_FORMATTER" "Ljava/util/function/BiFunction;") := by decide +kernel
set_option maxRecDepth 100000 in
set_option maxHeartbeats 4000000 in
theorem p_e1 : nl_1[458]? = some (Cond.eq (.string "WordSmith$Reader" 25) (.string "java/lang/StringLatin1" 151)) := by decide +kernel
set_option maxRecDepth 100000 in
set_option maxHeartbeats 4000000 in
theorem p_r1 : lw_tbl[289]? = some (Cond.stringRef "WordSmith$Reader" 25 "") := by decide +kernel
set_option maxRecDepth 100000 in
set_option maxHeartbeats 4000000 in
theorem p_r2 : lw_tbl[563]? = some (Cond.stringRef "java/lang/StringLatin1" 151 "") := by decide +kernel
set_option maxRecDepth 100000 in
set_option maxHeartbeats 4000000 in
theorem p_cs : lw_tbl[367]? = some (Cond.castable "[B" "java/lang/Cloneable") := by decide +kernel
set_option maxRecDepth 100000 in
set_option maxHeartbeats 4000000 in
theorem p_i_W : lw_tbl[64]? = some (Cond.initialized "WordSmith") := by decide +kernel
set_option maxRecDepth 100000 in
set_option maxHeartbeats 4000000 in
theorem p_i_1 : lw_tbl[85]? = some (Cond.initialized "WordSmith$1") := by decide +kernel
set_option maxRecDepth 100000 in
set_option maxHeartbeats 4000000 in
theorem p_i_B : lw_tbl[84]? = some (Cond.initialized "WordSmith$BuiltIn") := by decide +kernel
set_option maxRecDepth 100000 in
set_option maxHeartbeats 4000000 in
theorem p_i_S : lw_tbl[67]? = some (Cond.initialized "java/lang/String") := by decide +kernel
set_option maxRecDepth 100000 in
set_option maxHeartbeats 4000000 in
theorem p_i_P : lw_tbl[82]? = some (Cond.initialized "jdk/internal/util/Preconditions") := by decide +kernel
set_option maxRecDepth 100000 in
set_option maxHeartbeats 4000000 in
theorem p_a_int : lw_tbl[156]? = some (Cond.arrayClass .int) := by decide +kernel
set_option maxRecDepth 100000 in
set_option maxHeartbeats 4000000 in
theorem p_a_boolean : lw_tbl[187]? = some (Cond.arrayClass .boolean) := by decide +kernel
set_option maxRecDepth 100000 in
set_option maxHeartbeats 4000000 in
theorem p_a_long : lw_tbl[1208]? = some (Cond.arrayClass .long) := by decide +kernel
set_option maxRecDepth 100000 in
set_option maxHeartbeats 4000000 in
theorem p_a_byte : lw_tbl[127]? = some (Cond.arrayClass .byte) := by decide +kernel
set_option maxRecDepth 100000 in
set_option maxHeartbeats 4000000 in
theorem p_o_Mw : lw_tbl[195]? = some (Cond.arrayOver (.object "WordSmith$MadeWord")) := by decide +kernel
set_option maxRecDepth 100000 in
set_option maxHeartbeats 4000000 in
theorem p_o_Ca : lw_tbl[205]? = some (Cond.arrayOver (.object "WordSmith$Call")) := by decide +kernel
set_option maxRecDepth 100000 in
set_option maxHeartbeats 4000000 in
theorem p_o_B : lw_tbl[275]? = some (Cond.arrayOver (.object "WordSmith$BuiltIn")) := by decide +kernel
set_option maxRecDepth 100000 in
set_option maxHeartbeats 4000000 in
theorem p_o_I : lw_tbl[164]? = some (Cond.arrayOver (.array .int)) := by decide +kernel
set_option maxRecDepth 100000 in
set_option maxHeartbeats 4000000 in
theorem p_n_M : lw_tbl[1038]? = some (Cond.instantiable R_M 35) := by decide +kernel
set_option maxRecDepth 100000 in
set_option maxHeartbeats 4000000 in
theorem p_n_W : lw_tbl[88]? = some (Cond.instantiable R_W 2) := by decide +kernel
set_option maxRecDepth 100000 in
set_option maxHeartbeats 4000000 in
theorem p_n_SB : lw_tbl[96]? = some (Cond.instantiable R_SB 4) := by decide +kernel
set_option maxRecDepth 100000 in
set_option maxHeartbeats 4000000 in
theorem p_n_St : lw_tbl[437]? = some (Cond.instantiable R_St 4) := by decide +kernel
set_option maxRecDepth 100000 in
set_option maxHeartbeats 4000000 in
theorem p_n_Rd : lw_tbl[129]? = some (Cond.instantiable R_Rd 6) := by decide +kernel
set_option maxRecDepth 100000 in
set_option maxHeartbeats 4000000 in
theorem p_n_Ma : lw_tbl[135]? = some (Cond.instantiable R_Ma 9) := by decide +kernel
set_option maxRecDepth 100000 in
set_option maxHeartbeats 4000000 in
theorem p_n_N : lw_tbl[141]? = some (Cond.instantiable R_N 2) := by decide +kernel
set_option maxRecDepth 100000 in
set_option maxHeartbeats 4000000 in
theorem p_n_Me : lw_tbl[158]? = some (Cond.instantiable R_Me 6) := by decide +kernel
set_option maxRecDepth 100000 in
set_option maxHeartbeats 4000000 in
theorem p_n_Di : lw_tbl[189]? = some (Cond.instantiable R_Di 2) := by decide +kernel
set_option maxRecDepth 100000 in
set_option maxHeartbeats 4000000 in
theorem p_n_Ca : lw_tbl[206]? = some (Cond.instantiable R_Ca 5) := by decide +kernel
set_option maxRecDepth 100000 in
set_option maxHeartbeats 4000000 in
theorem p_n_Co : lw_tbl[269]? = some (Cond.instantiable R_Co 4) := by decide +kernel
set_option maxRecDepth 100000 in
set_option maxHeartbeats 4000000 in
theorem p_n_Mw : lw_tbl[708]? = some (Cond.instantiable R_Mw 5) := by decide +kernel
section
variable {args : Array Value} {s : State}
theorem ks_at (h : ∀ w ∈ lw_tbl, w.before args s = true) : ∃ D : va_G, ∀ (c : Nat) (q : vw_C), classes[c]? = some q → u_Kn s q.1 q.2.1 q.2.2 (D.1 c) (D.2 c) := by
  obtain ⟨c0, i0, k0⟩ := u_known (N := 35) (C := R_M) (T := F_M) h (fun w hw => by rw [eq_Mu] at hw; obtain ⟨i, -, hi⟩ := List.mem_filterMap.mp hw; exact List.mem_of_getElem? hi) (tb_at h _ p_n_M)
  obtain ⟨c1, i1, k1⟩ := u_known (N := 2) (C := R_W) (T := F_W) h (fun w hw => by rw [eq_u_W] at hw; obtain ⟨i, -, hi⟩ := List.mem_filterMap.mp hw; exact List.mem_of_getElem? hi) (tb_at h _ p_n_W)
  obtain ⟨c2, i2, k2⟩ := u_known (N := 4) (C := R_SB) (T := F_SB) h (fun w hw => by rw [eq_u_SB] at hw; obtain ⟨i, -, hi⟩ := List.mem_filterMap.mp hw; exact List.mem_of_getElem? hi) (tb_at h _ p_n_SB)
  obtain ⟨c3, i3, k3⟩ := u_known (N := 4) (C := R_St) (T := F_St) h (fun w hw => by rw [eq_u_St] at hw; obtain ⟨i, -, hi⟩ := List.mem_filterMap.mp hw; exact List.mem_of_getElem? hi) (tb_at h _ p_n_St)
  obtain ⟨c4, i4, k4⟩ := u_known (N := 6) (C := R_Rd) (T := F_Rd) h (fun w hw => by rw [eq_u_Rd] at hw; obtain ⟨i, -, hi⟩ := List.mem_filterMap.mp hw; exact List.mem_of_getElem? hi) (tb_at h _ p_n_Rd)
  obtain ⟨c5, i5, k5⟩ := u_known (N := 9) (C := R_Ma) (T := F_Ma) h (fun w hw => by rw [eq_u_Ma] at hw; obtain ⟨i, -, hi⟩ := List.mem_filterMap.mp hw; exact List.mem_of_getElem? hi) (tb_at h _ p_n_Ma)
  obtain ⟨c6, i6, k6⟩ := u_known (N := 2) (C := R_N) (T := F_N) h (fun w hw => by rw [eq_u_N] at hw; obtain ⟨i, -, hi⟩ := List.mem_filterMap.mp hw; exact List.mem_of_getElem? hi) (tb_at h _ p_n_N)
  obtain ⟨c7, i7, k7⟩ := u_known (N := 6) (C := R_Me) (T := F_Me) h (fun w hw => by rw [eq_u_Me] at hw; obtain ⟨i, -, hi⟩ := List.mem_filterMap.mp hw; exact List.mem_of_getElem? hi) (tb_at h _ p_n_Me)
  obtain ⟨c8, i8, k8⟩ := u_known (N := 2) (C := R_Di) (T := F_Di) h (fun w hw => by rw [eq_u_Di] at hw; obtain ⟨i, -, hi⟩ := List.mem_filterMap.mp hw; exact List.mem_of_getElem? hi) (tb_at h _ p_n_Di)
  obtain ⟨c9, i9, k9⟩ := u_known (N := 5) (C := R_Ca) (T := F_Ca) h (fun w hw => by rw [eq_u_Ca] at hw; obtain ⟨i, -, hi⟩ := List.mem_filterMap.mp hw; exact List.mem_of_getElem? hi) (tb_at h _ p_n_Ca)
  obtain ⟨c10, i10, k10⟩ := u_known (N := 4) (C := R_Co) (T := F_Co) h (fun w hw => by rw [eq_u_Co] at hw; obtain ⟨i, -, hi⟩ := List.mem_filterMap.mp hw; exact List.mem_of_getElem? hi) (tb_at h _ p_n_Co)
  obtain ⟨c11, i11, k11⟩ := u_known (N := 5) (C := R_Mw) (T := F_Mw) h (fun w hw => by rw [eq_u_Mw] at hw; obtain ⟨i, -, hi⟩ := List.mem_filterMap.mp hw; exact List.mem_of_getElem? hi) (tb_at h _ p_n_Mw)
  refine ⟨(fun c => match c with | 0 => c0 | 1 => c1 | 2 => c2 | 3 => c3 | 4 => c4 | 5 => c5 | 6 => c6 | 7 => c7 | 8 => c8 | 9 => c9 | 10 => c10 | _ => c11, fun c => match c with | 0 => i0 | 1 => i1 | 2 => i2 | 3 => i3 | 4 => i4 | 5 => i5 | 6 => i6 | 7 => i7 | 8 => i8 | 9 => i9 | 10 => i10 | _ => i11), fun c q hq => ?_⟩
  match c, hq with
  | 0, hq => cases hq; exact k0
  | 1, hq => cases hq; exact k1
  | 2, hq => cases hq; exact k2
  | 3, hq => cases hq; exact k3
  | 4, hq => cases hq; exact k4
  | 5, hq => cases hq; exact k5
  | 6, hq => cases hq; exact k6
  | 7, hq => cases hq; exact k7
  | 8, hq => cases hq; exact k8
  | 9, hq => cases hq; exact k9
  | 10, hq => cases hq; exact k10
  | 11, hq => cases hq; exact k11
  | n + 12, hq => exact absurd hq (by show ¬ ((List.drop 12 classes)[n]? = some q); simp [classes])
theorem ar_of {ty : FieldType} (h : (Cond.arrayClass ty).before args s = true) (ht : ∀ C, ty ≠ .object C) : ∃ cA : ClassId, ArrOfT s cA ty ∧ va_RA s cA ty := by
  obtain ⟨cA, kA, comp, hf, hk, hkind⟩ := Cond.arrayClass_spec h
  refine ⟨cA, fun N z => ⟨(fun k h => by cases h), kA, hk, comp, hkind⟩, ?_⟩
  cases ty with
  | object C => exact absurd rfl (ht C)
  | _ => exact hf
theorem ao_of {C : String} (h : va_AO C s) : ∃ cA : ClassId, ArrOfT s cA (.object C) ∧ va_RA s cA (.object C) := by
  obtain ⟨comp, c, k, h1, h2, h3, h4, h5⟩ := Cond.arrayOver_spec h
  exact ⟨c, fun N z => ⟨(fun k h => by cases h), k, h3, comp, h4⟩, k, comp, h3, h4, h1, h5⟩
theorem ai_of (h : aoI s) : ∃ cA : ClassId, ArrOfT s cA (.array .int) ∧ va_RA s cA (.array .int) := by
  obtain ⟨comp, c, k, h1, h2, h3, h4, h5⟩ := aoI_spec h
  exact ⟨c, fun N z => ⟨(fun k h => by cases h), k, h3, comp, h4⟩, h5⟩
end
set_option maxRecDepth 100000 in
set_option maxHeartbeats 4000000 in
theorem nw_on : ∀ w ∈ nw_C, w.onTables = true := by decide +kernel
section
variable {args : Array Value} {s : State}
theorem en_at (h : ∀ w ∈ lw_tbl, w.before args s = true) (hg : (Jvm.Cond.and given_1 narrow_1).before args s = true) {A : Nat → Prop} (hA : ∀ a : Nat, a < s.heap.size → ¬ A a) : ∃ ad : Nat → Nat, va_En "WordSmith$BuiltIn" "LWordSmith$BuiltIn;" nmE FE ad A s s.heap ∧ ∀ i, i < 52 → (tmE i).eval args s none [] s = some (.ref (ad i)) := by
  refine va_Enof2 (args := args) (fun i hi => tb_at h _ (p_lay i hi)) (tb_at h _ p_i_B) (fun i hi => nl_at hg _ (p_ex i hi)) (fun q hq i hi => ?_) (fun i j hi hj hij => Or.inl ?_) hA
  · simp only [FE, List.mem_cons, List.not_mem_nil, or_false] at hq
    rcases hq with rfl | rfl | rfl | rfl
    · exact nl_at hg _ (p_f_ordinal i hi)
    · exact nl_at hg _ (p_f_number i hi)
    · exact nl_at hg _ (p_f_takes i hi)
    · exact nl_at hg _ (p_f_puts i hi)
  · obtain ⟨a, -, -, -, q1, -⟩ := Cond.exactly_spec (nl_at hg _ (p_ex i hi))
    obtain ⟨b, -, -, -, q2, -⟩ := Cond.exactly_spec (nl_at hg _ (p_ex j hj))
    refine ne_refs (t := tmE i) (u := tmE j) q1 q2 (fun e => ?_)
    subst e
    have e1 := va_eqt (nl_at hg _ (p_f_ordinal i hi))
    have e2 := va_eqt (nl_at hg _ (p_f_ordinal j hj))
    rw [ev_field (q1.trans q2.symm)] at e1
    exact o_apart i hi j hj hij (Value.int.inj (Option.some.inj (e1.symm.trans e2)))
theorem st_at (hg : (Jvm.Cond.and given_1 narrow_1).before args s = true) {A : Nat → Prop} (hA : ∀ a : Nat, a < s.heap.size → ¬ A a) : ∃ adK adV : Nat → Nat, vk_S 53 lenJ bytJ adK adV A s s.heap ∧ ∀ i : Nat, i < 53 → (tmS i).eval args s none [] s = some (.ref (adK i)) := by
  refine vk_Sof (args := args) l_small (fun i hi => nl_at hg _ (p_sex i hi)) (fun i hi => nl_at hg _ (p_sco i hi)) (fun i hi => nl_at hg _ (p_sar i hi)) (fun i hi => nl_at hg _ (p_sle i hi)) (fun i hi j hj => nl_at hg _ (p_sel i hi j hj)) (fun i j hi hj hij => Or.inl ?_) hA
  obtain ⟨a, -, -, -, q1, -⟩ := Cond.exactly_spec (nl_at hg _ (p_sex i hi))
  obtain ⟨b, -, -, -, q2, -⟩ := Cond.exactly_spec (nl_at hg _ (p_sex j hj))
  refine ne_refs (t := tmS i) (u := tmS j) q1 q2 (fun e => ?_)
  subst e
  have ef := ev_field (q1.trans q2.symm) "java/lang/String" "value" "[B"
  rcases s_apart i hi j hj hij with hl | ⟨k, k1, k2, k3⟩
  · have e1 := va_eqt (nl_at hg _ (p_sle i hi))
    have e2 := va_eqt (nl_at hg _ (p_sle j hj))
    rw [ev_length ef] at e1
    exact hl (Value.int.inj (Option.some.inj (e1.symm.trans e2)))
  · have e1 := va_eqt (nl_at hg _ (p_sel i hi k k1))
    have e2 := va_eqt (nl_at hg _ (p_sel j hj k k2))
    rw [ev_elem ef] at e1
    exact k3 (Value.int.inj (Option.some.inj (e1.symm.trans e2)))
theorem va_En.turn {E d : String} {nm : List String} {F : List (String × String × String × List Int32)} {ad ad' : Nat → Nat} {A : Nat → Prop} {U : State} {H : Heap} (h : va_En E d nm F ad A U H) (hq : ∀ i, i < nm.length → ad' i = ad i) : va_En E d nm F ad' A U H :=
  ⟨fun i hi => by rw [hq i hi]; exact h.1 i hi, fun i j hi hj e => h.2 i j hi hj (by rw [← hq i hi, ← hq j hj]; exact e)⟩
theorem vk_S.turn {N : Nat} {len : List Nat} {byt : List (List Int32)} {adK adV adK' adV' : Nat → Nat} {A : Nat → Prop} {U : State} {H : Heap} (h : vk_S N len byt adK adV A U H) (hk : ∀ i, i < N → adK' i = adK i) (hv : ∀ i, i < N → adV' i = adV i) : vk_S N len byt adK' adV' A U H :=
  ⟨fun i hi => by rw [hk i hi, hv i hi]; exact h.1 i hi, fun i j hi hj e => h.2 i j hi hj (by rw [← hk i hi, ← hk j hj]; exact e)⟩
/-- addresses below 100, then three rows of a hundred -/
def gad (lo aE aK aV : Nat → Nat) : Nat → Nat := fun n => if n < 100 then lo n else if n < 200 then aE (n - 100) else if n < 300 then aK (n - 200) else aV (n - 300)
theorem gad_E {lo aE aK aV : Nat → Nat} {i : Nat} (h : i < 100) : gad lo aE aK aV (100 + i) = aE i := by
  unfold gad
  rw [if_neg (by omega), if_pos (by omega), Nat.add_sub_cancel_left]
theorem gad_K {lo aE aK aV : Nat → Nat} {i : Nat} (h : i < 100) : gad lo aE aK aV (200 + i) = aK i := by
  unfold gad
  rw [if_neg (by omega), if_neg (by omega), if_pos (by omega), Nat.add_sub_cancel_left]
theorem gad_V {lo aE aK aV : Nat → Nat} {i : Nat} : gad lo aE aK aV (300 + i) = aV i := by
  unfold gad
  rw [if_neg (by omega), if_neg (by omega), if_neg (by omega), Nat.add_sub_cancel_left]
/-- all that the class's contracts ask of the start -/
theorem entry {A : Nat → Prop} (h : ∀ w ∈ lw_tbl, w.before args s = true) (hg : (Jvm.Cond.and given_1 narrow_1).before args s = true) (hA : ∀ a : Nat, a < s.heap.size → ¬ A a) :
    ∃ (D : va_G) (ids : Nat → ClassId) (z90 z91 z92 z95 : Nat) (aE aK aV : Nat → Nat), va_K D classes [(ids 0, .int), (ids 1, .boolean), (ids 2, .long)] s ∧ va_AO "WordSmith$MadeWord" s ∧ va_AO "WordSmith$Call" s ∧ va_AO "WordSmith$BuiltIn" s ∧ aoI s ∧ ∀ lo : Nat → Nat, lo 90 = z90 → lo 91 = z91 → lo 92 = z92 → lo 95 = z95 →
      va_K D classes (tysC (D, ids, gad lo aE aK aV)) s ∧ SC (D, ids, gad lo aE aK aV) A s s.heap ∧ NW (D, ids, gad lo aE aK aV) s := by
  obtain ⟨D, hD⟩ := ks_at h
  obtain ⟨c0, x0⟩ := ar_of (tb_at h _ p_a_int) (fun C e => by cases e)
  obtain ⟨c1, x1⟩ := ar_of (tb_at h _ p_a_boolean) (fun C e => by cases e)
  obtain ⟨c2, x2⟩ := ar_of (tb_at h _ p_a_long) (fun C e => by cases e)
  obtain ⟨c3, x3⟩ := ar_of (tb_at h _ p_a_byte) (fun C e => by cases e)
  have aM : va_AO "WordSmith$MadeWord" s := va_AO.of (tb_at h _ p_o_Mw)
  have aC : va_AO "WordSmith$Call" s := va_AO.of (tb_at h _ p_o_Ca)
  have aB : va_AO "WordSmith$BuiltIn" s := va_AO.of (tb_at h _ p_o_B)
  have aI : aoI s := tb_at h _ p_o_I
  obtain ⟨c4, x4⟩ := ao_of aM
  obtain ⟨c5, x5⟩ := ao_of aC
  obtain ⟨c6, x6⟩ := ao_of aB
  obtain ⟨c7, x7⟩ := ai_of aI
  obtain ⟨aE, hE, eE⟩ := en_at h hg hA
  obtain ⟨aK, aV, hS, eS⟩ := st_at hg hA
  obtain ⟨t90, e90, T90⟩ := va_Tof (f := fun j => .int (swE.getD j 0)) (by decide) (nl_at hg _ p_sw_a) (va_eqt (nl_at hg _ p_sw_l)) (fun j hj => va_eqt (nl_at hg _ (p_sw_e j hj))) hA
  obtain ⟨t91, e91, T91⟩ := va_Tof (f := fun j => .int (bufE.getD j 0)) (by decide) (nl_at hg _ p_bu_a) (va_eqt (nl_at hg _ p_bu_l)) (fun j hj => va_eqt (nl_at hg _ (p_bu_e j hj))) hA
  obtain ⟨t92, e92, T92⟩ := va_Tof (f := fun j => .ref (aE j)) (by decide) (nl_at hg _ p_al_a) (va_eqt (nl_at hg _ p_al_l)) (fun j hj => va_eqv (nl_at hg _ (p_al_e j hj)) (eE j hj)) hA
  have Z90 := va_Zref (tb_at h _ p_sw_s) (tb_at h _ p_i_1) e90 hA
  have Z91 := va_Zref (tb_at h _ p_bu_s) (tb_at h _ p_i_W) e91 hA
  have Z92 := va_Zref (tb_at h _ p_al_s) (tb_at h _ p_i_B) e92 hA
  have ZC := va_Zof (v := .int 1) (tb_at h _ p_co_s) (tb_at h _ p_i_S) (va_eqi (nl_at hg _ p_co)) hA
  have ZP : ∃ x : Option Nat, va_Z "jdk/internal/util/Preconditions" "SIOOBE_FORMATTER" "Ljava/util/function/BiFunction;" (va_rf x) A s s.heap := by
    rcases va_Zqof (tb_at h _ p_si_s) (tb_at h _ p_i_P) (nl_at hg _ p_si) hA with z | ⟨t, z⟩
    · exact ⟨none, z⟩
    · exact ⟨some t, z⟩
  obtain ⟨x, ZP⟩ := ZP
  have hEf : va_Ef 52 "WordSmith$BuiltIn" "spelling" "Ljava/lang/String;" (fun i => .ref (aK i)) aE A s s.heap := va_Efof (nm := nmE) (tm := tmS) (E := "WordSmith$BuiltIn") (d0 := "LWordSmith$BuiltIn;") eE (fun i hi => nl_at hg _ (p_sp i hi)) (fun i hi => eS i (by omega)) hA
  have eR : (Term.string "WordSmith$Reader" 25).eval args s none [] s = some (.ref (aK 52)) := eS 52 (by decide)
  have eL : (Term.string "java/lang/StringLatin1" 151).eval args s none [] s = some (.ref (aK 52)) := by
    have h1 := nl_at hg _ p_e1
    cases hv : (Term.string "java/lang/StringLatin1" 151).eval args s none [] s with
    | none => simp [Cond.before, Cond.holds, Cond.value, hv, eR] at h1
    | some w => exact hv.symm.trans (hv.trans ((va_eqv h1 hv).symm.trans eR))
  refine ⟨D, fun n => match n with | 0 => c0 | 1 => c1 | 2 => c2 | 3 => c3 | 4 => c4 | 5 => c5 | 6 => c6 | _ => c7, t90, t91, t92, (match x with | none => 0 | some n => n + 1), aE, aK, aV, ⟨hD, fun k q hk => ?_⟩, aM, aC, aB, aI, fun lo h0 h1 h2 h5 => ⟨⟨hD, fun k q hk => ?_⟩, ⟨⟨?_, ?_, ?_, ?_, ?_, ?_, ?_⟩, ?_, ?_, ZC, ?_⟩, ?_, ?_, ?_, ?_⟩⟩
  · match k, hk with
    | 0, hk => cases hk; exact x0
    | 1, hk => cases hk; exact x1
    | 2, hk => cases hk; exact x2
    | n + 3, hk => exact absurd hk (by simp)
  · match k, hk with
    | 0, hk => cases hk; exact x0
    | 1, hk => cases hk; exact x1
    | 2, hk => cases hk; exact x3
    | 3, hk => cases hk; exact x4
    | 4, hk => cases hk; exact x5
    | 5, hk => cases hk; exact x6
    | 6, hk => cases hk; exact x7
    | n + 7, hk => exact absurd hk (by simp [tysC])
  · exact hE.turn (fun i hi => gad_E (Nat.lt_of_lt_of_le hi (by decide)))
  · show va_Z _ _ _ (.ref (gad lo aE aK aV 90)) A s s.heap
    rw [show gad lo aE aK aV 90 = t90 from h0]
    exact Z90
  · show va_T .int (gad lo aE aK aV 90) _ _ A s s.heap
    rw [show gad lo aE aK aV 90 = t90 from h0]
    exact T90
  · show va_Z _ _ _ (.ref (gad lo aE aK aV 91)) A s s.heap
    rw [show gad lo aE aK aV 91 = t91 from h1]
    exact Z91
  · show va_T .int (gad lo aE aK aV 91) _ _ A s s.heap
    rw [show gad lo aE aK aV 91 = t91 from h1]
    exact T91
  · show va_Z _ _ _ (.ref (gad lo aE aK aV 92)) A s s.heap
    rw [show gad lo aE aK aV 92 = t92 from h2]
    exact Z92
  · show va_T _ (gad lo aE aK aV 92) _ _ A s s.heap
    rw [show gad lo aE aK aV 92 = t92 from h2]
    obtain ⟨cell, q1, q2, q3, q4, q5, q6, q7⟩ := T92
    exact ⟨cell, q1, q2, q3, q4, q5, fun j hj => by rw [q6 j hj]; exact congrArg (fun a => some (Value.ref a)) (gad_E (by omega)).symm, q7⟩
  · exact hS.turn (fun i hi => gad_K (by omega)) (fun i _ => gad_V)
  · intro i hi
    show va_OF _ _ _ (.ref (gad lo aE aK aV (200 + i))) (gad lo aE aK aV (100 + i)) A s s.heap
    rw [gad_K (by omega), gad_E (by omega)]
    exact hEf i hi
  · show va_Z _ _ _ (va_rf (fmtg (D, _, gad lo aE aK aV))) A s s.heap
    have e : fmtg (D, (fun n => match n with | 0 => c0 | 1 => c1 | 2 => c2 | 3 => c3 | 4 => c4 | 5 => c5 | 6 => c6 | _ => c7 : Nat → ClassId), gad lo aE aK aV) = x := by
      unfold fmtg
      show (match lo 95 with | 0 => none | n + 1 => some n) = x
      rw [h5]
      cases x <;> rfl
    exact e ▸ ZP
  · intro w hw
    have hb : w.before args s = true := sub_p _ eq_N h w hw
    exact va_Nw.of (nw_on w hw) hb
  · show vk_R _ _ _ (gad lo aE aK aV (200 + 52)) s
    rw [gad_K (by decide)]
    exact vk_R.of (tb_at h _ p_r1) eR
  · show vk_R _ _ _ (gad lo aE aK aV (200 + 52)) s
    rw [gad_K (by decide)]
    exact vk_R.of (tb_at h _ p_r2) eL
  · exact va_Nw.of rfl (tb_at h _ p_cs)
end
