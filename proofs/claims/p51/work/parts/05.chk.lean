/-! the checks of the tables -/
theorem am_gwI {ws : List Jvm.Cond} (ps : List Nat) (h1 : ws = ps.filterMap (fun i => lw_tbl[i]?)) (h2 : ws.all goodWord = true) : ∀ w ∈ ws, w ∈ am_gw := by
  intro w hw
  have h3 := List.all_eq_true.mp h2 w hw
  rw [h1] at hw
  obtain ⟨i, -, hi⟩ := List.mem_filterMap.mp hw
  exact List.mem_filter.mpr ⟨List.mem_of_getElem? hi, h3⟩
theorem am_nwI {ws : List Jvm.Cond} (ps : List Nat) (h1 : ws = ps.filterMap (fun i => lw_tbl[i]?)) (h2 : ws.all am_isN = true) : ∀ w ∈ ws, w ∈ am_nw := by
  intro w hw
  have h3 := List.all_eq_true.mp h2 w hw
  rw [h1] at hw
  obtain ⟨i, -, hi⟩ := List.mem_filterMap.mp hw
  exact List.mem_filter.mpr ⟨List.mem_of_getElem? hi, h3⟩
set_option maxRecDepth 100000
theorem am_u0 : ∀ w ∈ u_ws (am_cn 0) (am_Tt 0) (am_Nt 0), w ∈ am_gw := am_gwI [355, 357, 359, 361, 363, 365, 367, 369, 371, 373, 375, 377, 379, 381, 383] (by decide +kernel) (by decide +kernel)
theorem am_u1 : ∀ w ∈ u_ws (am_cn 1) (am_Tt 1) (am_Nt 1), w ∈ am_gw := am_gwI [83, 85, 87, 89, 91, 93, 95, 97, 99, 101, 103] (by decide +kernel) (by decide +kernel)
theorem am_u2 : ∀ w ∈ u_ws (am_cn 2) (am_Tt 2) (am_Nt 2), w ∈ am_gw := am_gwI [136, 138, 140, 142, 144, 146, 148, 150, 152, 154, 156, 158] (by decide +kernel) (by decide +kernel)
theorem am_u3 : ∀ w ∈ u_ws (am_cn 3) (am_Tt 3) (am_Nt 3), w ∈ am_gw := am_gwI [168] (by decide +kernel) (by decide +kernel)
theorem am_u4 : ∀ w ∈ u_ws (am_cn 4) (am_Tt 4) (am_Nt 4), w ∈ am_gw := am_gwI [209, 211, 213, 215] (by decide +kernel) (by decide +kernel)
theorem am_u5 : ∀ w ∈ u_ws (am_cn 5) (am_Tt 5) (am_Nt 5), w ∈ am_gw := am_gwI [194, 196, 198, 200] (by decide +kernel) (by decide +kernel)
theorem am_u6 : ∀ w ∈ u_ws (am_cn 6) (am_Tt 6) (am_Nt 6), w ∈ am_gw := am_gwI [231, 233, 235] (by decide +kernel) (by decide +kernel)
theorem am_u7 : ∀ w ∈ u_ws (am_cn 7) (am_Tt 7) (am_Nt 7), w ∈ am_gw := am_gwI [258, 260, 262, 264, 266, 268, 270, 272, 274, 276, 278, 280, 282, 284] (by decide +kernel) (by decide +kernel)
theorem am_u8 : ∀ w ∈ u_ws (am_cn 8) (am_Tt 8) (am_Nt 8), w ∈ am_gw := am_gwI [294, 296] (by decide +kernel) (by decide +kernel)
theorem am_u9 : ∀ w ∈ u_ws (am_cn 9) (am_Tt 9) (am_Nt 9), w ∈ am_gw := am_gwI [312, 314, 316, 318, 320] (by decide +kernel) (by decide +kernel)
theorem am_u10 : ∀ w ∈ u_ws (am_cn 10) (am_Tt 10) (am_Nt 10), w ∈ am_gw := am_gwI [335, 337] (by decide +kernel) (by decide +kernel)
theorem am_u11 : ∀ w ∈ u_ws (am_cn 11) (am_Tt 11) (am_Nt 11), w ∈ am_gw := am_gwI [168] (by decide +kernel) (by decide +kernel)
theorem am_u_in : ∀ a, a < 12 → ∀ w ∈ u_ws (am_cn a) (am_Tt a) (am_Nt a), w ∈ am_gw
  | 0, _ => am_u0
  | 1, _ => am_u1
  | 2, _ => am_u2
  | 3, _ => am_u3
  | 4, _ => am_u4
  | 5, _ => am_u5
  | 6, _ => am_u6
  | 7, _ => am_u7
  | 8, _ => am_u8
  | 9, _ => am_u9
  | 10, _ => am_u10
  | 11, _ => am_u11
  | n + 12, h => absurd h (by omega)
theorem am_cls_at : ∀ a, a < 12 → am_cls[a]? = some (am_cn a, am_Tt a, am_Nt a)
  | 0, _ => rfl
  | 1, _ => rfl
  | 2, _ => rfl
  | 3, _ => rfl
  | 4, _ => rfl
  | 5, _ => rfl
  | 6, _ => rfl
  | 7, _ => rfl
  | 8, _ => rfl
  | 9, _ => rfl
  | 10, _ => rfl
  | 11, _ => rfl
  | n + 12, h => absurd h (by omega)
theorem am_parse : ∀ a, a < 12 → ∀ k, k < am_Nt a → parseFieldDescriptor (am_Tt a k).2.2.1 = some (am_Yt a k) := by decide +kernel
theorem am_nm : ∀ a, a < 12 → ∀ x, x < am_Nt a → ∀ y, y < am_Nt a → x ≠ y → (am_Tt a x).2.1 ≠ (am_Tt a y).2.1 := by decide +kernel
theorem am_Tc : ∀ a, a < 12 → ∀ k, k < am_Nt a → (am_Tt a k).1 = am_cn a := by decide +kernel
def am_tyok (c : Nat) (t : FieldType) : Bool := match c, t with
  | 0, .int => true
  | 1, .boolean => true
  | 2, .long => true
  | 3, .object _ => true
  | 3, .array _ => true
  | _, _ => false
theorem am_ft_ok : ∀ a, a < 12 → ∀ k, k < am_Nt a → am_tyok (am_ft a k) (am_Yt a k) = true := by decide +kernel
theorem am_lf_ok : ∀ w ∈ am_lf.map (fun q => Jvm.Cond.fieldLink (am_cn q.1) q.2.1 (am_Tt q.2.2.1 q.2.2.2).1 (am_Tt q.2.2.1 q.2.2.2).2.1 (am_Tt q.2.2.1 q.2.2.2).2.2.1), w ∈ am_gw := am_gwI [340, 341, 342, 343, 344, 345, 346, 347, 348, 349, 350, 351, 352, 334, 354, 118, 228, 353, 122, 204, 187, 114, 193, 206, 185, 190, 306, 308, 332, 126, 128, 130, 245, 293, 167, 119, 132, 244, 250, 251, 252, 253, 254, 255, 256, 257, 246, 249, 121, 247, 248, 117, 124, 74, 76, 78, 80, 81, 65, 67, 69, 71, 73, 82, 203, 207, 208, 205, 184, 192, 189, 229, 230, 227, 188, 183, 186, 191, 333, 331, 309, 311, 305, 310, 307, 125, 127, 129, 131, 64, 133, 66, 113, 68, 115, 70, 116, 72, 120, 134, 135, 123, 75, 77, 79] (by decide +kernel) (by decide +kernel)
theorem am_lc_ok : ∀ w ∈ am_lc.map (fun q => Jvm.Cond.classLink (am_cn q.1) q.2.1 (am_cn q.2.2)), w ∈ am_gw := am_gwI [56, 58, 107, 161, 171, 218, 221, 238, 287, 299, 177, 48] (by decide +kernel) (by decide +kernel)
def am_yy (v : Nat) : MethodName := bif Nat.beq v 1000 then ⟨"java/lang/Math", "max", "(II)I"⟩ else bif Nat.beq v 1001 then ⟨"java/lang/Math", "min", "(II)I"⟩ else bif Nat.beq v 1002 then ⟨"java/lang/System", "arraycopy", "(Ljava/lang/Object;ILjava/lang/Object;II)V"⟩ else bif Nat.beq v 1003 then ⟨"java/lang/Object", "<init>", "()V"⟩ else am_y v
theorem am_lm_ok : ∀ w ∈ am_lm.map (fun q => Jvm.Cond.methodLink (am_cn q.1) q.2.1 (am_yy q.2.2)), w ∈ am_gw := am_gwI [53, 324, 571, 390, 393, 405, 409, 397, 829, 847, 852, 901, 457, 922, 421, 425, 433, 441, 451, 454, 474, 487, 511, 526, 587, 592, 610, 614, 622, 634, 638, 646, 652, 660, 666, 671, 682, 437, 691, 703, 708, 712, 721, 401, 733, 745, 763, 771, 759, 774, 778, 782, 786, 791, 796, 833, 461, 695, 802, 810, 807, 813, 816, 837, 840, 819, 825, 834, 843, 848, 897, 499, 937, 746, 470, 507, 292, 166, 466, 243, 561, 558, 530, 531, 567, 579, 536, 540, 564, 572, 576, 583, 544, 557, 552, 548, 553, 699, 596, 602, 618, 686, 63, 856, 873, 881, 868, 864, 860, 869, 877, 885, 889, 892, 176, 926, 930, 515, 491, 519, 226, 737, 182, 478, 479, 483, 495, 327, 328, 600, 601, 801, 304, 626, 629, 112, 905, 651, 767, 921, 716, 909, 913, 917, 650, 665, 50, 822, 417, 429, 447, 754, 522, 630, 386, 934, 503, 413, 667, 687, 678, 606, 750, 741, 717, 729, 725, 704, 656, 642] (by decide +kernel) (by decide +kernel)
theorem am_ln_ok : ∀ w ∈ am_ln.map (fun q => Jvm.Cond.methodLinkNest (am_cn q.1) q.2.1 (am_y q.2.2) "OwnLight"), w ∈ am_nw := am_nwI [60, 109, 163, 173, 219, 223, 240, 289, 301, 465, 539, 675, 896, 179, 790, 795, 800, 664] (by decide +kernel) (by decide +kernel)
theorem am_lk_ok : ∀ w ∈ am_lk.map (fun q => Jvm.Cond.constant (am_cn q.1) q.2.1 q.2.2), w ∈ am_gw := am_gwI [535, 591, 805, 806, 444, 445, 446] (by decide +kernel) (by decide +kernel)
theorem am_lk2_ok : ∀ w ∈ am_lk2.map (fun q => Jvm.Cond.constantLong (am_cn q.1) q.2.1 q.2.2), w ∈ am_gw := am_gwI [758, 777] (by decide +kernel) (by decide +kernel)
theorem am_wi : ∀ w ∈ am_ids_i.map (fun m => Jvm.Cond.instanceMethod (am_y m)), w ∈ am_gw := am_gwI [51, 387, 414, 826, 844, 849, 898, 418, 430, 448, 938, 471, 500, 504, 508, 523, 607, 631, 643, 657, 668, 679, 688, 705, 718, 726, 730, 742, 747, 751, 760, 755, 831, 399, 395, 710, 423, 435, 784, 459, 693, 290, 164, 462, 426, 241, 574, 527, 533, 569, 581, 585, 542, 546, 550, 696, 701, 588, 593, 611, 738, 615, 620, 639, 635, 672, 683, 61, 853, 866, 862, 871, 858, 875, 879, 883, 887, 894, 174, 923, 931, 488, 512, 787, 224, 722, 734, 792, 180, 927, 516, 475, 492, 325, 597, 406, 603, 797, 302, 410, 402, 623, 110, 902, 438, 467, 779, 484, 768, 764, 480, 496, 554, 919, 915, 911, 907, 653, 647, 661, 713] (by decide +kernel) (by decide +kernel)
theorem am_wst : ∀ w ∈ am_ids_s.map (fun m => Jvm.Cond.static (am_y m)), w ∈ am_gw := am_gwI [577, 577, 577, 577, 577, 577, 577, 577, 577, 577, 577, 577, 577, 577, 577, 577, 577, 775, 452, 455, 676, 391, 772, 577, 577, 577, 577, 803, 811, 808, 814, 817, 838, 841, 820, 835, 823, 935, 577, 577, 577, 577, 577, 577, 577, 577, 577, 577, 577, 577, 577, 577, 577, 577, 577, 577, 577, 577, 577, 577, 577, 577, 577, 577, 577, 577, 577, 577, 577, 577, 577, 577, 577, 577, 577, 577, 577, 577, 577, 577, 577, 577, 577, 577, 577, 577, 577, 577, 577, 577, 577, 577, 577, 577, 577, 577, 577, 577, 577, 577, 577, 577, 577, 577, 577, 577, 577, 577, 577, 577, 577, 577, 577, 577, 577, 577, 577, 577, 577, 577, 577, 577, 577, 577, 577, 577, 577, 577, 577, 562, 559, 577, 577, 577, 890, 577, 577, 577, 577, 577, 577, 627, 577, 442, 537] (by decide +kernel) (by decide +kernel)
theorem am_wv : ∀ w ∈ am_ids_v.map (fun m => Jvm.Cond.selects (am_y m).cls (am_y m) (am_y m)), w ∈ am_gw := am_gwI [388, 415, 827, 845, 850, 899, 419, 431, 449, 939, 472, 501, 505, 509, 524, 608, 632, 644, 658, 669, 680, 689, 706, 719, 727, 731, 743, 748, 752, 761, 756, 18, 1, 0, 16, 2, 3, 17, 4, 14, 463, 427, 10, 528, 5, 9, 11, 12, 6, 7, 8, 697, 15, 589, 594, 612, 739, 616, 13, 640, 636, 673, 684, 854, 21, 20, 22, 19, 23, 24, 25, 26, 27, 924, 932, 489, 513, 788, 723, 735, 793, 928, 517, 476, 493, 598, 407, 604, 798, 411, 403, 624, 903, 439, 468, 780, 485, 769, 765, 481, 497, 555, 31, 30, 29, 28, 654, 648, 662, 714] (by decide +kernel) (by decide +kernel)
theorem am_wini : ∀ w ∈ (List.range 15).map (fun c => Jvm.Cond.initialized (am_cn c)), w ∈ am_gw := am_gwI [33, 34, 35, 36, 37, 38, 39, 40, 41, 42, 43, 36, 32, 46, 45] (by decide +kernel) (by decide +kernel)
theorem am_winst : ∀ w ∈ (List.range 12).map (fun c => Jvm.Cond.instantiable (am_cn c) (am_Nt c)), w ∈ am_gw := am_gwI [49, 59, 108, 162, 172, 178, 222, 239, 288, 300, 323, 162] (by decide +kernel) (by decide +kernel)
theorem am_warr : ∀ w ∈ [Jvm.Cond.arrayClass Jvm.ClassFile.FieldType.int], w ∈ am_gw := am_gwI [106] (by decide +kernel) (by decide +kernel)
theorem am_wodd : ∀ w ∈ [Jvm.Cond.static ⟨"java/lang/Math", "max", "(II)I"⟩, Jvm.Cond.static ⟨"java/lang/Math", "min", "(II)I"⟩, Jvm.Cond.static (am_yy 1002), Jvm.Cond.native (am_yy 1002), Jvm.Cond.initialized "java/lang/Math", Jvm.Cond.initialized "java/lang/System", Jvm.Cond.instanceMethod objectInit, Jvm.Cond.code objectInit ⟨#[0xb1]⟩ 1 none, Jvm.Cond.code Lib.Math.max.name Lib.Math.max.code 2 (some .int), Jvm.Cond.code Lib.Math.min.name Lib.Math.min.code 2 (some .int)], w ∈ am_gw := am_gwI [329, 520, 565, 566, 44, 47, 54, 55, 330, 521] (by decide +kernel) (by decide +kernel)
theorem am_own : ∀ m, m < 267 → (am_y m).cls = am_cn (am_ow m) ∧ plainName (am_y m).cls = true ∧ am_ow m < 15 ∧ ((am_y m).cls ≠ "java/lang/invoke/MethodHandle" ∧ (am_y m).cls ≠ "java/lang/invoke/VarHandle") := by decide +kernel
def am_chk1 (m pc : Nat) : Bool := match am_code m pc with
  | some e => am_chk m pc e
  | none => true
theorem am_none {n pc : Nat} {t : Option am_E} (h : n + 1 ≤ pc) : (bif Nat.ble pc n then t else none) = none := by
  have e : Nat.ble pc n = false := by
    cases hb : Nat.ble pc n with
    | false => rfl
    | true => exact absurd (Nat.le_of_ble_eq_true hb) (by omega)
  rw [e]; rfl
theorem am_okI {m n : Nat} (h : (List.range (n + 1)).all (am_chk1 m) = true) (h2 : ∀ pc, n + 1 ≤ pc → am_code m pc = none) : am_okM m := by
  intro pc e he
  by_cases hp : pc < n + 1
  · have h3 := List.all_eq_true.mp h pc (List.mem_range.mpr hp)
    unfold am_chk1 at h3
    rw [he] at h3
    exact h3
  · rw [h2 pc (by omega)] at he
    cases he
