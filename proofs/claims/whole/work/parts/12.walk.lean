theorem dX8_pickSimplest_0 : decode cX8_pickSimplest 0 = .ok (.lconst 0, 1) := by decide +kernel
theorem dX8_pickSimplest_1 : decode cX8_pickSimplest 1 = .ok (.lstore 9, 2) := by decide +kernel
theorem dX8_pickSimplest_3 : decode cX8_pickSimplest 3 = .ok (.lconst 1, 1) := by decide +kernel
theorem dX8_pickSimplest_4 : decode cX8_pickSimplest 4 = .ok (.lstore 11, 2) := by decide +kernel
theorem dX8_pickSimplest_6 : decode cX8_pickSimplest 6 = .ok (.lconst 1, 1) := by decide +kernel
theorem dX8_pickSimplest_7 : decode cX8_pickSimplest 7 = .ok (.lstore 13, 2) := by decide +kernel
theorem dX8_pickSimplest_9 : decode cX8_pickSimplest 9 = .ok (.lconst 0, 1) := by decide +kernel
theorem dX8_pickSimplest_10 : decode cX8_pickSimplest 10 = .ok (.lstore 15, 2) := by decide +kernel
theorem dX8_pickSimplest_12 : decode cX8_pickSimplest 12 = .ok (.iconst 0, 1) := by decide +kernel
theorem dX8_pickSimplest_13 : decode cX8_pickSimplest 13 = .ok (.istore 17, 2) := by decide +kernel
theorem dX8_pickSimplest_15 : decode cX8_pickSimplest 15 = .ok (.iload 17, 2) := by decide +kernel
theorem dX8_pickSimplest_17 : decode cX8_pickSimplest 17 = .ok (.bipush 100, 2) := by decide +kernel
theorem dX8_pickSimplest_19 : decode cX8_pickSimplest 19 = .ok (.if_icmp .ge 139, 3) := by decide +kernel
theorem dX8_pickSimplest_22 : decode cX8_pickSimplest 22 = .ok (.lload_n 3, 1) := by decide +kernel
theorem dX8_pickSimplest_23 : decode cX8_pickSimplest 23 = .ok (.lconst 0, 1) := by decide +kernel
theorem dX8_pickSimplest_24 : decode cX8_pickSimplest 24 = .ok (.lcmp, 1) := by decide +kernel
theorem dX8_pickSimplest_25 : decode cX8_pickSimplest 25 = .ok (.ifCond .le 133, 3) := by decide +kernel
theorem dX8_pickSimplest_28 : decode cX8_pickSimplest 28 = .ok (.lload_n 1, 1) := by decide +kernel
theorem dX8_pickSimplest_29 : decode cX8_pickSimplest 29 = .ok (.lload_n 3, 1) := by decide +kernel
theorem dX8_pickSimplest_30 : decode cX8_pickSimplest 30 = .ok (.invokestatic 58, 3) := by decide +kernel
theorem dX8_pickSimplest_33 : decode cX8_pickSimplest 33 = .ok (.lstore 18, 2) := by decide +kernel
theorem dX8_pickSimplest_35 : decode cX8_pickSimplest 35 = .ok (.lload 18, 2) := by decide +kernel
theorem dX8_pickSimplest_37 : decode cX8_pickSimplest 37 = .ok (.lconst 1, 1) := by decide +kernel
theorem dX8_pickSimplest_38 : decode cX8_pickSimplest 38 = .ok (.ladd, 1) := by decide +kernel
theorem dX8_pickSimplest_39 : decode cX8_pickSimplest 39 = .ok (.lload 7, 2) := by decide +kernel
theorem dX8_pickSimplest_41 : decode cX8_pickSimplest 41 = .ok (.lmul, 1) := by decide +kernel
theorem dX8_pickSimplest_42 : decode cX8_pickSimplest 42 = .ok (.lload 5, 2) := by decide +kernel
theorem dX8_pickSimplest_44 : decode cX8_pickSimplest 44 = .ok (.lcmp, 1) := by decide +kernel
theorem dX8_pickSimplest_45 : decode cX8_pickSimplest 45 = .ok (.ifCond .ge 7, 3) := by decide +kernel
theorem dX8_pickSimplest_48 : decode cX8_pickSimplest 48 = .ok (.iconst 1, 1) := by decide +kernel
theorem dX8_pickSimplest_49 : decode cX8_pickSimplest 49 = .ok (.goto 4, 3) := by decide +kernel
theorem dX8_pickSimplest_52 : decode cX8_pickSimplest 52 = .ok (.iconst 0, 1) := by decide +kernel
theorem dX8_pickSimplest_53 : decode cX8_pickSimplest 53 = .ok (.istore 20, 2) := by decide +kernel
theorem dX8_pickSimplest_55 : decode cX8_pickSimplest 55 = .ok (.iload 20, 2) := by decide +kernel
theorem dX8_pickSimplest_57 : decode cX8_pickSimplest 57 = .ok (.ifCond .eq 10, 3) := by decide +kernel
theorem dX8_pickSimplest_60 : decode cX8_pickSimplest 60 = .ok (.lload 18, 2) := by decide +kernel
theorem dX8_pickSimplest_62 : decode cX8_pickSimplest 62 = .ok (.lconst 1, 1) := by decide +kernel
theorem dX8_pickSimplest_63 : decode cX8_pickSimplest 63 = .ok (.ladd, 1) := by decide +kernel
theorem dX8_pickSimplest_64 : decode cX8_pickSimplest 64 = .ok (.goto 5, 3) := by decide +kernel
theorem dX8_pickSimplest_67 : decode cX8_pickSimplest 67 = .ok (.lload 18, 2) := by decide +kernel
theorem dX8_pickSimplest_69 : decode cX8_pickSimplest 69 = .ok (.lstore 21, 2) := by decide +kernel
theorem dX8_pickSimplest_71 : decode cX8_pickSimplest 71 = .ok (.lload 21, 2) := by decide +kernel
theorem dX8_pickSimplest_73 : decode cX8_pickSimplest 73 = .ok (.lload 13, 2) := by decide +kernel
theorem dX8_pickSimplest_75 : decode cX8_pickSimplest 75 = .ok (.lmul, 1) := by decide +kernel
theorem dX8_pickSimplest_76 : decode cX8_pickSimplest 76 = .ok (.lload 9, 2) := by decide +kernel
theorem dX8_pickSimplest_78 : decode cX8_pickSimplest 78 = .ok (.ladd, 1) := by decide +kernel
theorem dX8_pickSimplest_79 : decode cX8_pickSimplest 79 = .ok (.lstore 23, 2) := by decide +kernel
theorem dX8_pickSimplest_81 : decode cX8_pickSimplest 81 = .ok (.lload 21, 2) := by decide +kernel
theorem dX8_pickSimplest_83 : decode cX8_pickSimplest 83 = .ok (.lload 15, 2) := by decide +kernel
theorem dX8_pickSimplest_85 : decode cX8_pickSimplest 85 = .ok (.lmul, 1) := by decide +kernel
theorem dX8_pickSimplest_86 : decode cX8_pickSimplest 86 = .ok (.lload 11, 2) := by decide +kernel
theorem dX8_pickSimplest_88 : decode cX8_pickSimplest 88 = .ok (.ladd, 1) := by decide +kernel
theorem dX8_pickSimplest_89 : decode cX8_pickSimplest 89 = .ok (.lstore 25, 2) := by decide +kernel
theorem dX8_pickSimplest_91 : decode cX8_pickSimplest 91 = .ok (.iload 20, 2) := by decide +kernel
theorem dX8_pickSimplest_93 : decode cX8_pickSimplest 93 = .ok (.ifCond .eq 12, 3) := by decide +kernel
theorem dX8_pickSimplest_96 : decode cX8_pickSimplest 96 = .ok (.aload_n 0, 1) := by decide +kernel
theorem dX8_pickSimplest_97 : decode cX8_pickSimplest 97 = .ok (.lload 23, 2) := by decide +kernel
theorem dX8_pickSimplest_99 : decode cX8_pickSimplest 99 = .ok (.lload 25, 2) := by decide +kernel
theorem dX8_pickSimplest_101 : decode cX8_pickSimplest 101 = .ok (.invokevirtual 61, 3) := by decide +kernel
theorem dX8_pickSimplest_104 : decode cX8_pickSimplest 104 = .ok (.return_, 1) := by decide +kernel
theorem dX8_pickSimplest_105 : decode cX8_pickSimplest 105 = .ok (.lload 13, 2) := by decide +kernel
theorem dX8_pickSimplest_107 : decode cX8_pickSimplest 107 = .ok (.lstore 9, 2) := by decide +kernel
theorem dX8_pickSimplest_109 : decode cX8_pickSimplest 109 = .ok (.lload 15, 2) := by decide +kernel
theorem dX8_pickSimplest_111 : decode cX8_pickSimplest 111 = .ok (.lstore 11, 2) := by decide +kernel
theorem dX8_pickSimplest_113 : decode cX8_pickSimplest 113 = .ok (.lload 23, 2) := by decide +kernel
theorem dX8_pickSimplest_115 : decode cX8_pickSimplest 115 = .ok (.lstore 13, 2) := by decide +kernel
theorem dX8_pickSimplest_117 : decode cX8_pickSimplest 117 = .ok (.lload 25, 2) := by decide +kernel
theorem dX8_pickSimplest_119 : decode cX8_pickSimplest 119 = .ok (.lstore 15, 2) := by decide +kernel
theorem dX8_pickSimplest_121 : decode cX8_pickSimplest 121 = .ok (.lload_n 1, 1) := by decide +kernel
theorem dX8_pickSimplest_122 : decode cX8_pickSimplest 122 = .ok (.lload 18, 2) := by decide +kernel
theorem dX8_pickSimplest_124 : decode cX8_pickSimplest 124 = .ok (.lload_n 3, 1) := by decide +kernel
theorem dX8_pickSimplest_125 : decode cX8_pickSimplest 125 = .ok (.lmul, 1) := by decide +kernel
theorem dX8_pickSimplest_126 : decode cX8_pickSimplest 126 = .ok (.lsub, 1) := by decide +kernel
theorem dX8_pickSimplest_127 : decode cX8_pickSimplest 127 = .ok (.lstore 27, 2) := by decide +kernel
theorem dX8_pickSimplest_129 : decode cX8_pickSimplest 129 = .ok (.lload 5, 2) := by decide +kernel
theorem dX8_pickSimplest_131 : decode cX8_pickSimplest 131 = .ok (.lload 18, 2) := by decide +kernel
theorem dX8_pickSimplest_133 : decode cX8_pickSimplest 133 = .ok (.lload 7, 2) := by decide +kernel
theorem dX8_pickSimplest_135 : decode cX8_pickSimplest 135 = .ok (.lmul, 1) := by decide +kernel
theorem dX8_pickSimplest_136 : decode cX8_pickSimplest 136 = .ok (.lsub, 1) := by decide +kernel
theorem dX8_pickSimplest_137 : decode cX8_pickSimplest 137 = .ok (.lstore 29, 2) := by decide +kernel
theorem dX8_pickSimplest_139 : decode cX8_pickSimplest 139 = .ok (.lload 7, 2) := by decide +kernel
theorem dX8_pickSimplest_141 : decode cX8_pickSimplest 141 = .ok (.lstore_n 1, 1) := by decide +kernel
theorem dX8_pickSimplest_142 : decode cX8_pickSimplest 142 = .ok (.lload_n 3, 1) := by decide +kernel
theorem dX8_pickSimplest_143 : decode cX8_pickSimplest 143 = .ok (.lstore 5, 2) := by decide +kernel
theorem dX8_pickSimplest_145 : decode cX8_pickSimplest 145 = .ok (.lload 29, 2) := by decide +kernel
theorem dX8_pickSimplest_147 : decode cX8_pickSimplest 147 = .ok (.lstore_n 3, 1) := by decide +kernel
theorem dX8_pickSimplest_148 : decode cX8_pickSimplest 148 = .ok (.lload 27, 2) := by decide +kernel
theorem dX8_pickSimplest_150 : decode cX8_pickSimplest 150 = .ok (.lstore 7, 2) := by decide +kernel
theorem dX8_pickSimplest_152 : decode cX8_pickSimplest 152 = .ok (.iinc 17 1, 3) := by decide +kernel
theorem dX8_pickSimplest_155 : decode cX8_pickSimplest 155 = .ok (.goto (-140), 3) := by decide +kernel
theorem dX8_pickSimplest_158 : decode cX8_pickSimplest 158 = .ok (.return_, 1) := by decide +kernel
def rm_fSp_pickSimplest : Room := { frames := 3, cells := 0, slots := 0, locals := 116 }
set_option maxHeartbeats 4000000 in
set_option maxRecDepth 100000 in
theorem c_fSp_pickSimplest (l : Launch) (X : eX) (sz : Nat) (a1 : Int64) (a2 : Int64) (a3 : Int64) (a4 : Int64) (σ : sT) (σz : sT) (h0 : fSp_pickSimplest a1 a2 a3 a4 σ = some σz) : ctV l yX8_pickSimplest cX8_pickSimplest 31 none rm_fSp_pickSimplest [.ref (X.2.1 15), .long a1, .long a2, .long a3, .long a4] (wC X) (tC X) (aC X) X sz σ σz := by
  refine ct_of (by decide +kernel) (Nat.le_of_ble_eq_true rfl) ?_
  intro p e s m args below meth c ls hz B hl Z
  have B : Bd p s m args meth c RX8 cX8_pickSimplest 31 none := B
  have hl : lv_has ls 31 [(0, .ref (X.2.1 15)), (1, .long a1), (3, .long a2), (5, .long a3), (7, .long a4)] := hl
  have hx := B.1
  have hb := B.2.1
  unfold fSp_pickSimplest at h0
  refine lv_lconst (v := (0 : Int64)) hx hb dX8_pickSimplest_0 (by decide) ?_
  refine lv_lstore (lv' := [(9, .long (0 : Int64)), (0, .ref (X.2.1 15)), (1, .long a1), (3, .long a2), (5, .long a3), (7, .long a4)]) hx hb dX8_pickSimplest_1 hl (by decide) rfl (fun ls hl => ?_)
  refine lv_lconst (v := (1 : Int64)) hx hb dX8_pickSimplest_3 (by decide) ?_
  refine lv_lstore (lv' := [(11, .long (1 : Int64)), (9, .long (0 : Int64)), (0, .ref (X.2.1 15)), (1, .long a1), (3, .long a2), (5, .long a3), (7, .long a4)]) hx hb dX8_pickSimplest_4 hl (by decide) rfl (fun ls hl => ?_)
  refine lv_lconst (v := (1 : Int64)) hx hb dX8_pickSimplest_6 (by decide) ?_
  refine lv_lstore (lv' := [(13, .long (1 : Int64)), (11, .long (1 : Int64)), (9, .long (0 : Int64)), (0, .ref (X.2.1 15)), (1, .long a1), (3, .long a2), (5, .long a3), (7, .long a4)]) hx hb dX8_pickSimplest_7 hl (by decide) rfl (fun ls hl => ?_)
  refine lv_lconst (v := (0 : Int64)) hx hb dX8_pickSimplest_9 (by decide) ?_
  refine lv_lstore (lv' := [(15, .long (0 : Int64)), (13, .long (1 : Int64)), (11, .long (1 : Int64)), (9, .long (0 : Int64)), (0, .ref (X.2.1 15)), (1, .long a1), (3, .long a2), (5, .long a3), (7, .long a4)]) hx hb dX8_pickSimplest_10 hl (by decide) rfl (fun ls hl => ?_)
  refine lv_iconst (v := (0 : Int32)) hx hb dX8_pickSimplest_12 (by decide) ?_
  refine lv_istore (lv' := [(17, .int (0 : Int32)), (15, .long (0 : Int64)), (13, .long (1 : Int64)), (11, .long (1 : Int64)), (9, .long (0 : Int64)), (0, .ref (X.2.1 15)), (1, .long a1), (3, .long a2), (5, .long a3), (7, .long a4)]) hx hb dX8_pickSimplest_13 hl (by decide) rfl (fun ls hl => ?_)
  obtain ⟨K12, eK12, h3⟩ := dlt_s h0
  clear h0
  have kK12 : ∀ (x10 : Int64) (x11 : Int64) (H : Heap) (locs : List Loc) (ls : Array Slot), Wd (wC X) (tC X) (aC X) X s σ H locs → lv_has ls 31 [(0, .ref (X.2.1 15)), (23, .long x10), (25, .long x11)] → K12 x10 x11 = some σz → W p l e rm_fSp_pickSimplest s m args below meth c H locs 0 0 (MQ below (va_Qv (fun u => u = σz) (poW (wC X) (tC X) (aC X) X sz) (aA (aC X) sz)) args s 0 0 (aA (aC X) sz)) (F0 m 96 ls []) := by
    intro x10 x11 H locs ls Z hl h1
    rw [eK12] at h1
    refine lv_aload_n hx hb dX8_pickSimplest_96 rfl (lv_at hl 0 rfl) ?_
    refine lv_lload hx hb dX8_pickSimplest_97 (lv_at hl 1 rfl) ?_
    refine lv_lload hx hb dX8_pickSimplest_99 (lv_at hl 2 rfl) ?_
    obtain ⟨σ14, hc12, h2⟩ := db1_s h1
    clear h1
    refine cV_V [.long x10, .long x11] [] B mx_yX8_choose (c_fSp_choose l X _ x10 x11 σ σ14 hc12) kl_RX8_61 mi_yX8_choose (rv_15 _ _) hcl_8 Z hl rfl rfl ⟨Nat.le_of_ble_eq_true rfl, Nat.le_of_ble_eq_true rfl⟩ rfl rfl (Nat.le_of_ble_eq_true rfl) dX8_pickSimplest_101 (fun H locs Z => ?_)
    clear hc12
    exact reV B Z hz h2 dX8_pickSimplest_104
  clear eK12
  have lL15 : ∀ (n : Nat), ∀ (x1 : Int64) (x2 : Int64) (x3 : Int64) (x4 : Int64) (x5 : Int64) (x6 : Int64) (x7 : Int64) (x8 : Int64) (x9 : Int32) (H : Heap) (locs : List Loc) (ls : Array Slot), Wd (wC X) (tC X) (aC X) X s σ H locs → lv_has ls 31 [(0, .ref (X.2.1 15)), (1, .long x1), (3, .long x2), (5, .long x3), (7, .long x4), (9, .long x5), (11, .long x6), (13, .long x7), (15, .long x8), (17, .int x9)] → fSp_pickSimplest_L15 σ K12 n x1 x2 x3 x4 x5 x6 x7 x8 x9 = some σz → W p l e rm_fSp_pickSimplest s m args below meth c H locs 0 0 (MQ below (va_Qv (fun u => u = σz) (poW (wC X) (tC X) (aC X) X sz) (aA (aC X) sz)) args s 0 0 (aA (aC X) sz)) (F0 m 15 ls []) := by
    intro n
    induction n with
    | zero =>
      intro x1 x2 x3 x4 x5 x6 x7 x8 x9 H locs ls Z hl h
      exact nomatch (show (none : Option (sT)) = some _ from h)
    | succ n15 ih10 =>
      intro x1 x2 x3 x4 x5 x6 x7 x8 x9 H locs ls Z hl h4
      unfold fSp_pickSimplest_L15 at h4
      refine lv_iload hx hb dX8_pickSimplest_15 (lv_at hl 9 rfl) ?_
      refine lv_bipush (v := (100 : Int32)) hx hb dX8_pickSimplest_17 (by decide) ?_
      refine lv_icmp_ge (tgt := 158) hx hb dX8_pickSimplest_19 (by decide) (fun c16 => ?_) (fun c16 => ?_)
      · have h5 := dit h4 c16
        clear h4
        exact reV B Z hz h5 dX8_pickSimplest_158
      · have h6 := dif h4 c16
        clear h4
        refine lv_lload_n hx hb dX8_pickSimplest_22 rfl (lv_at hl 2 rfl) ?_
        refine lv_lconst (v := (0 : Int64)) hx hb dX8_pickSimplest_23 (by decide) ?_
        refine W.lcmp hx hb dX8_pickSimplest_24 ?_
        refine lv_if_le (tgt := 158) hx hb dX8_pickSimplest_25 (by decide) (fun c17 => ?_) (fun c17 => ?_)
        · have h7 := dit h6 c17
          clear h6
          exact reV B Z hz h7 dX8_pickSimplest_158
        · have h8 := dif h6 c17
          clear h6
          refine lv_lload_n hx hb dX8_pickSimplest_28 rfl (lv_at hl 1 rfl) ?_
          refine lv_lload_n hx hb dX8_pickSimplest_29 rfl (lv_at hl 2 rfl) ?_
          obtain ⟨r19, hc17, h9⟩ := db1_s h8
          clear h8
          refine cS_L [.long x1, .long x2] [] B mx_yJ9_floorDiv_f86c9 (c_fJM_floorDiv l X _ x1 x2 σ r19 hc17) kl_RX8_58 ks_yJ9_floorDiv_f86c9 Z hl rfl rfl ⟨Nat.le_of_ble_eq_true rfl, Nat.le_of_ble_eq_true rfl⟩ rfl rfl (Nat.le_of_ble_eq_true rfl) dX8_pickSimplest_30 (fun H locs Z => ?_)
          clear hc17
          refine lv_lstore (lv' := [(18, .long r19), (0, .ref (X.2.1 15)), (1, .long x1), (3, .long x2), (5, .long x3), (7, .long x4), (9, .long x5), (11, .long x6), (13, .long x7), (15, .long x8), (17, .int x9)]) hx hb dX8_pickSimplest_33 hl (by decide) rfl (fun ls hl => ?_)
          refine lv_lload hx hb dX8_pickSimplest_35 (lv_at hl 0 rfl) ?_
          refine lv_lconst (v := (1 : Int64)) hx hb dX8_pickSimplest_37 (by decide) ?_
          refine lv_ladd hx hb dX8_pickSimplest_38 ?_
          refine lv_lload hx hb dX8_pickSimplest_39 (lv_at hl 5 rfl) ?_
          refine lv_lmul hx hb dX8_pickSimplest_41 ?_
          refine lv_lload hx hb dX8_pickSimplest_42 (lv_at hl 4 rfl) ?_
          refine W.lcmp hx hb dX8_pickSimplest_44 ?_
          obtain ⟨J21, eJ21, h21⟩ := dlt_s h9
          clear h9
          have kJ21 : ∀ (x20 : Int32) (H : Heap) (locs : List Loc) (ls : Array Slot), Wd (wC X) (tC X) (aC X) X s σ H locs → lv_has ls 31 [(0, .ref (X.2.1 15)), (1, .long x1), (3, .long x2), (5, .long x3), (7, .long x4), (9, .long x5), (11, .long x6), (13, .long x7), (15, .long x8), (17, .int x9), (18, .long r19)] → J21 x20 = some σz → W p l e rm_fSp_pickSimplest s m args below meth c H locs 0 0 (MQ below (va_Qv (fun u => u = σz) (poW (wC X) (tC X) (aC X) X sz) (aA (aC X) sz)) args s 0 0 (aA (aC X) sz)) (F0 m 53 ls [.int x20]) := by
            intro x20 H locs ls Z hl h10
            rw [eJ21] at h10
            refine lv_istore (lv' := [(20, .int x20), (0, .ref (X.2.1 15)), (1, .long x1), (3, .long x2), (5, .long x3), (7, .long x4), (9, .long x5), (11, .long x6), (13, .long x7), (15, .long x8), (17, .int x9), (18, .long r19)]) hx hb dX8_pickSimplest_53 hl (by decide) rfl (fun ls hl => ?_)
            refine lv_iload hx hb dX8_pickSimplest_55 (lv_at hl 0 rfl) ?_
            obtain ⟨J23, eJ23, h18⟩ := dlt_s h10
            clear h10
            have kJ23 : ∀ (x22 : Int64) (H : Heap) (locs : List Loc) (ls : Array Slot), Wd (wC X) (tC X) (aC X) X s σ H locs → lv_has ls 31 [(0, .ref (X.2.1 15)), (1, .long x1), (3, .long x2), (5, .long x3), (7, .long x4), (9, .long x5), (11, .long x6), (13, .long x7), (15, .long x8), (17, .int x9), (18, .long r19), (20, .int x20)] → J23 x22 = some σz → W p l e rm_fSp_pickSimplest s m args below meth c H locs 0 0 (MQ below (va_Qv (fun u => u = σz) (poW (wC X) (tC X) (aC X) X sz) (aA (aC X) sz)) args s 0 0 (aA (aC X) sz)) (F0 m 69 ls [.long x22]) := by
              intro x22 H locs ls Z hl h11
              rw [eJ23] at h11
              refine lv_lstore (lv' := [(21, .long x22), (0, .ref (X.2.1 15)), (1, .long x1), (3, .long x2), (5, .long x3), (7, .long x4), (9, .long x5), (11, .long x6), (13, .long x7), (15, .long x8), (17, .int x9), (18, .long r19), (20, .int x20)]) hx hb dX8_pickSimplest_69 hl (by decide) rfl (fun ls hl => ?_)
              refine lv_lload hx hb dX8_pickSimplest_71 (lv_at hl 0 rfl) ?_
              refine lv_lload hx hb dX8_pickSimplest_73 (lv_at hl 8 rfl) ?_
              refine lv_lmul hx hb dX8_pickSimplest_75 ?_
              refine lv_lload hx hb dX8_pickSimplest_76 (lv_at hl 6 rfl) ?_
              refine lv_ladd hx hb dX8_pickSimplest_78 ?_
              refine lv_topl (fun x24 ex24 => ?_)
              have h12 := dlt_e ex24 h11
              clear ex24 h11
              refine lv_lstore (lv' := [(23, .long x24), (21, .long x22), (0, .ref (X.2.1 15)), (1, .long x1), (3, .long x2), (5, .long x3), (7, .long x4), (9, .long x5), (11, .long x6), (13, .long x7), (15, .long x8), (17, .int x9), (18, .long r19), (20, .int x20)]) hx hb dX8_pickSimplest_79 hl (by decide) rfl (fun ls hl => ?_)
              refine lv_lload hx hb dX8_pickSimplest_81 (lv_at hl 1 rfl) ?_
              refine lv_lload hx hb dX8_pickSimplest_83 (lv_at hl 10 rfl) ?_
              refine lv_lmul hx hb dX8_pickSimplest_85 ?_
              refine lv_lload hx hb dX8_pickSimplest_86 (lv_at hl 8 rfl) ?_
              refine lv_ladd hx hb dX8_pickSimplest_88 ?_
              refine lv_topl (fun x25 ex25 => ?_)
              have h13 := dlt_e ex25 h12
              clear ex25 h12
              refine lv_lstore (lv' := [(25, .long x25), (23, .long x24), (21, .long x22), (0, .ref (X.2.1 15)), (1, .long x1), (3, .long x2), (5, .long x3), (7, .long x4), (9, .long x5), (11, .long x6), (13, .long x7), (15, .long x8), (17, .int x9), (18, .long r19), (20, .int x20)]) hx hb dX8_pickSimplest_89 hl (by decide) rfl (fun ls hl => ?_)
              refine lv_iload hx hb dX8_pickSimplest_91 (lv_at hl 14 rfl) ?_
              refine lv_if_eq (tgt := 105) hx hb dX8_pickSimplest_93 (by decide) (fun c26 => ?_) (fun c26 => ?_)
              · have h14 := dit h13 c26
                clear h13
                refine lv_lload hx hb dX8_pickSimplest_105 (lv_at hl 10 rfl) ?_
                refine lv_lstore (lv' := [(9, .long x7), (25, .long x25), (23, .long x24), (21, .long x22), (0, .ref (X.2.1 15)), (1, .long x1), (3, .long x2), (5, .long x3), (7, .long x4), (11, .long x6), (13, .long x7), (15, .long x8), (17, .int x9), (18, .long r19), (20, .int x20)]) hx hb dX8_pickSimplest_107 hl (by decide) rfl (fun ls hl => ?_)
                refine lv_lload hx hb dX8_pickSimplest_109 (lv_at hl 11 rfl) ?_
                refine lv_lstore (lv' := [(11, .long x8), (9, .long x7), (25, .long x25), (23, .long x24), (21, .long x22), (0, .ref (X.2.1 15)), (1, .long x1), (3, .long x2), (5, .long x3), (7, .long x4), (13, .long x7), (15, .long x8), (17, .int x9), (18, .long r19), (20, .int x20)]) hx hb dX8_pickSimplest_111 hl (by decide) rfl (fun ls hl => ?_)
                refine lv_lload hx hb dX8_pickSimplest_113 (lv_at hl 3 rfl) ?_
                refine lv_lstore (lv' := [(13, .long x24), (11, .long x8), (9, .long x7), (25, .long x25), (23, .long x24), (21, .long x22), (0, .ref (X.2.1 15)), (1, .long x1), (3, .long x2), (5, .long x3), (7, .long x4), (15, .long x8), (17, .int x9), (18, .long r19), (20, .int x20)]) hx hb dX8_pickSimplest_115 hl (by decide) rfl (fun ls hl => ?_)
                refine lv_lload hx hb dX8_pickSimplest_117 (lv_at hl 3 rfl) ?_
                refine lv_lstore (lv' := [(15, .long x25), (13, .long x24), (11, .long x8), (9, .long x7), (25, .long x25), (23, .long x24), (21, .long x22), (0, .ref (X.2.1 15)), (1, .long x1), (3, .long x2), (5, .long x3), (7, .long x4), (17, .int x9), (18, .long r19), (20, .int x20)]) hx hb dX8_pickSimplest_119 hl (by decide) rfl (fun ls hl => ?_)
                refine lv_lload_n hx hb dX8_pickSimplest_121 rfl (lv_at hl 8 rfl) ?_
                refine lv_lload hx hb dX8_pickSimplest_122 (lv_at hl 13 rfl) ?_
                refine lv_lload_n hx hb dX8_pickSimplest_124 rfl (lv_at hl 9 rfl) ?_
                refine lv_lmul hx hb dX8_pickSimplest_125 ?_
                refine lv_lsub hx hb dX8_pickSimplest_126 ?_
                refine lv_topl (fun x27 ex27 => ?_)
                have h15 := dlt_e ex27 h14
                clear ex27 h14
                refine lv_lstore (lv' := [(27, .long x27), (15, .long x25), (13, .long x24), (11, .long x8), (9, .long x7), (25, .long x25), (23, .long x24), (21, .long x22), (0, .ref (X.2.1 15)), (1, .long x1), (3, .long x2), (5, .long x3), (7, .long x4), (17, .int x9), (18, .long r19), (20, .int x20)]) hx hb dX8_pickSimplest_127 hl (by decide) rfl (fun ls hl => ?_)
                refine lv_lload hx hb dX8_pickSimplest_129 (lv_at hl 11 rfl) ?_
                refine lv_lload hx hb dX8_pickSimplest_131 (lv_at hl 14 rfl) ?_
                refine lv_lload hx hb dX8_pickSimplest_133 (lv_at hl 12 rfl) ?_
                refine lv_lmul hx hb dX8_pickSimplest_135 ?_
                refine lv_lsub hx hb dX8_pickSimplest_136 ?_
                refine lv_topl (fun x28 ex28 => ?_)
                have h16 := dlt_e ex28 h15
                clear ex28 h15
                refine lv_lstore (lv' := [(29, .long x28), (27, .long x27), (15, .long x25), (13, .long x24), (11, .long x8), (9, .long x7), (25, .long x25), (23, .long x24), (21, .long x22), (0, .ref (X.2.1 15)), (1, .long x1), (3, .long x2), (5, .long x3), (7, .long x4), (17, .int x9), (18, .long r19), (20, .int x20)]) hx hb dX8_pickSimplest_137 hl (by decide) rfl (fun ls hl => ?_)
                refine lv_lload hx hb dX8_pickSimplest_139 (lv_at hl 13 rfl) ?_
                refine lv_lstore_n (lv' := [(1, .long x4), (29, .long x28), (27, .long x27), (15, .long x25), (13, .long x24), (11, .long x8), (9, .long x7), (25, .long x25), (23, .long x24), (21, .long x22), (0, .ref (X.2.1 15)), (3, .long x2), (5, .long x3), (7, .long x4), (17, .int x9), (18, .long r19), (20, .int x20)]) hx hb dX8_pickSimplest_141 rfl hl (by decide) rfl (fun ls hl => ?_)
                refine lv_lload_n hx hb dX8_pickSimplest_142 rfl (lv_at hl 11 rfl) ?_
                refine lv_lstore (lv' := [(5, .long x2), (1, .long x4), (29, .long x28), (27, .long x27), (15, .long x25), (13, .long x24), (11, .long x8), (9, .long x7), (25, .long x25), (23, .long x24), (21, .long x22), (0, .ref (X.2.1 15)), (3, .long x2), (7, .long x4), (17, .int x9), (18, .long r19), (20, .int x20)]) hx hb dX8_pickSimplest_143 hl (by decide) rfl (fun ls hl => ?_)
                refine lv_lload hx hb dX8_pickSimplest_145 (lv_at hl 2 rfl) ?_
                refine lv_lstore_n (lv' := [(3, .long x28), (5, .long x2), (1, .long x4), (29, .long x28), (27, .long x27), (15, .long x25), (13, .long x24), (11, .long x8), (9, .long x7), (25, .long x25), (23, .long x24), (21, .long x22), (0, .ref (X.2.1 15)), (7, .long x4), (17, .int x9), (18, .long r19), (20, .int x20)]) hx hb dX8_pickSimplest_147 rfl hl (by decide) rfl (fun ls hl => ?_)
                refine lv_lload hx hb dX8_pickSimplest_148 (lv_at hl 4 rfl) ?_
                refine lv_lstore (lv' := [(7, .long x27), (3, .long x28), (5, .long x2), (1, .long x4), (29, .long x28), (27, .long x27), (15, .long x25), (13, .long x24), (11, .long x8), (9, .long x7), (25, .long x25), (23, .long x24), (21, .long x22), (0, .ref (X.2.1 15)), (17, .int x9), (18, .long r19), (20, .int x20)]) hx hb dX8_pickSimplest_150 hl (by decide) rfl (fun ls hl => ?_)
                refine lv_iinc (v := x9 + (1 : Int32)) (lv' := [(17, .int (x9 + (1 : Int32))), (7, .long x27), (3, .long x28), (5, .long x2), (1, .long x4), (29, .long x28), (27, .long x27), (15, .long x25), (13, .long x24), (11, .long x8), (9, .long x7), (25, .long x25), (23, .long x24), (21, .long x22), (0, .ref (X.2.1 15)), (18, .long r19), (20, .int x20)]) hx hb dX8_pickSimplest_152 hl (k := 14) rfl (by rfl) (by decide) rfl (fun ls hl => ?_)
                refine lv_goto (tgt := 15) hx hb dX8_pickSimplest_155 (by decide) ?_
                exact ih10 x4 x28 x2 x27 x7 x8 x24 x25 (x9 + (1 : Int32)) _ _ _ Z (lv_sub hl [14, 4, 2, 3, 1, 10, 9, 8, 7, 0] rfl) h16
              · have h17 := dif h13 c26
                clear h13
                exact kK12 x24 x25 _ _ _ Z (lv_sub hl [3, 1, 0] rfl) h17
            clear eJ23
            refine lv_if_eq (tgt := 67) hx hb dX8_pickSimplest_57 (by decide) (fun c29 => ?_) (fun c29 => ?_)
            · have h19 := dit h18 c29
              clear h18
              refine lv_lload hx hb dX8_pickSimplest_67 (lv_at hl 11 rfl) ?_
              exact kJ23 r19 _ _ _ Z (lv_sub hl [1, 2, 3, 4, 5, 6, 7, 8, 9, 10, 11, 0] rfl) h19
            · have h20 := dif h18 c29
              clear h18
              refine lv_lload hx hb dX8_pickSimplest_60 (lv_at hl 11 rfl) ?_
              refine lv_lconst (v := (1 : Int64)) hx hb dX8_pickSimplest_62 (by decide) ?_
              refine lv_ladd hx hb dX8_pickSimplest_63 ?_
              refine lv_goto (tgt := 69) hx hb dX8_pickSimplest_64 (by decide) ?_
              exact kJ23 (r19 + (1 : Int64)) _ _ _ Z (lv_sub hl [1, 2, 3, 4, 5, 6, 7, 8, 9, 10, 11, 0] rfl) h20
          clear eJ21
          refine lv_if_ge (tgt := 52) hx hb dX8_pickSimplest_45 (by decide) (fun c30 => ?_) (fun c30 => ?_)
          · have h22 := dit h21 c30
            clear h21
            refine lv_iconst (v := (0 : Int32)) hx hb dX8_pickSimplest_52 (by decide) ?_
            exact kJ21 (0 : Int32) _ _ _ Z (lv_sub hl [1, 2, 3, 4, 5, 6, 7, 8, 9, 10, 0] rfl) h22
          · have h23 := dif h21 c30
            clear h21
            refine lv_iconst (v := (1 : Int32)) hx hb dX8_pickSimplest_48 (by decide) ?_
            refine lv_goto (tgt := 53) hx hb dX8_pickSimplest_49 (by decide) ?_
            exact kJ21 (1 : Int32) _ _ _ Z (lv_sub hl [1, 2, 3, 4, 5, 6, 7, 8, 9, 10, 0] rfl) h23
  exact lL15 FU a1 a2 a3 a4 (0 : Int64) (1 : Int64) (1 : Int64) (0 : Int64) (0 : Int32) _ _ _ Z (lv_sub hl [5, 6, 7, 8, 9, 4, 3, 2, 1, 0] rfl) h3
theorem dX8_pickBetween_0 : decode cX8_pickBetween 0 = .ok (.aload_n 0, 1) := by decide +kernel
theorem dX8_pickBetween_1 : decode cX8_pickBetween 1 = .ok (.getfield 42, 3) := by decide +kernel
theorem dX8_pickBetween_4 : decode cX8_pickBetween 4 = .ok (.lconst 0, 1) := by decide +kernel
theorem dX8_pickBetween_5 : decode cX8_pickBetween 5 = .ok (.lcmp, 1) := by decide +kernel
theorem dX8_pickBetween_6 : decode cX8_pickBetween 6 = .ok (.ifCond .lt 26, 3) := by decide +kernel
theorem dX8_pickBetween_9 : decode cX8_pickBetween 9 = .ok (.aload_n 0, 1) := by decide +kernel
theorem dX8_pickBetween_10 : decode cX8_pickBetween 10 = .ok (.aload_n 0, 1) := by decide +kernel
theorem dX8_pickBetween_11 : decode cX8_pickBetween 11 = .ok (.getfield 42, 3) := by decide +kernel
theorem dX8_pickBetween_14 : decode cX8_pickBetween 14 = .ok (.aload_n 0, 1) := by decide +kernel
theorem dX8_pickBetween_15 : decode cX8_pickBetween 15 = .ok (.getfield 9, 3) := by decide +kernel
theorem dX8_pickBetween_18 : decode cX8_pickBetween 18 = .ok (.aload_n 0, 1) := by decide +kernel
theorem dX8_pickBetween_19 : decode cX8_pickBetween 19 = .ok (.getfield 31, 3) := by decide +kernel
theorem dX8_pickBetween_22 : decode cX8_pickBetween 22 = .ok (.aload_n 0, 1) := by decide +kernel
theorem dX8_pickBetween_23 : decode cX8_pickBetween 23 = .ok (.getfield 15, 3) := by decide +kernel
theorem dX8_pickBetween_26 : decode cX8_pickBetween 26 = .ok (.invokevirtual 74, 3) := by decide +kernel
theorem dX8_pickBetween_29 : decode cX8_pickBetween 29 = .ok (.goto 52, 3) := by decide +kernel
theorem dX8_pickBetween_32 : decode cX8_pickBetween 32 = .ok (.aload_n 0, 1) := by decide +kernel
theorem dX8_pickBetween_33 : decode cX8_pickBetween 33 = .ok (.getfield 31, 3) := by decide +kernel
theorem dX8_pickBetween_36 : decode cX8_pickBetween 36 = .ok (.lconst 0, 1) := by decide +kernel
theorem dX8_pickBetween_37 : decode cX8_pickBetween 37 = .ok (.lcmp, 1) := by decide +kernel
theorem dX8_pickBetween_38 : decode cX8_pickBetween 38 = .ok (.ifCond .le 12, 3) := by decide +kernel
theorem dX8_pickBetween_41 : decode cX8_pickBetween 41 = .ok (.aload_n 0, 1) := by decide +kernel
theorem dX8_pickBetween_42 : decode cX8_pickBetween 42 = .ok (.lconst 0, 1) := by decide +kernel
theorem dX8_pickBetween_43 : decode cX8_pickBetween 43 = .ok (.lconst 1, 1) := by decide +kernel
theorem dX8_pickBetween_44 : decode cX8_pickBetween 44 = .ok (.invokevirtual 61, 3) := by decide +kernel
theorem dX8_pickBetween_47 : decode cX8_pickBetween 47 = .ok (.goto 34, 3) := by decide +kernel
theorem dX8_pickBetween_50 : decode cX8_pickBetween 50 = .ok (.aload_n 0, 1) := by decide +kernel
theorem dX8_pickBetween_51 : decode cX8_pickBetween 51 = .ok (.aload_n 0, 1) := by decide +kernel
theorem dX8_pickBetween_52 : decode cX8_pickBetween 52 = .ok (.getfield 31, 3) := by decide +kernel
theorem dX8_pickBetween_55 : decode cX8_pickBetween 55 = .ok (.lneg, 1) := by decide +kernel
theorem dX8_pickBetween_56 : decode cX8_pickBetween 56 = .ok (.aload_n 0, 1) := by decide +kernel
theorem dX8_pickBetween_57 : decode cX8_pickBetween 57 = .ok (.getfield 15, 3) := by decide +kernel
theorem dX8_pickBetween_60 : decode cX8_pickBetween 60 = .ok (.aload_n 0, 1) := by decide +kernel
theorem dX8_pickBetween_61 : decode cX8_pickBetween 61 = .ok (.getfield 42, 3) := by decide +kernel
theorem dX8_pickBetween_64 : decode cX8_pickBetween 64 = .ok (.lneg, 1) := by decide +kernel
theorem dX8_pickBetween_65 : decode cX8_pickBetween 65 = .ok (.aload_n 0, 1) := by decide +kernel
theorem dX8_pickBetween_66 : decode cX8_pickBetween 66 = .ok (.getfield 9, 3) := by decide +kernel
theorem dX8_pickBetween_69 : decode cX8_pickBetween 69 = .ok (.invokevirtual 74, 3) := by decide +kernel
theorem dX8_pickBetween_72 : decode cX8_pickBetween 72 = .ok (.aload_n 0, 1) := by decide +kernel
theorem dX8_pickBetween_73 : decode cX8_pickBetween 73 = .ok (.aload_n 0, 1) := by decide +kernel
theorem dX8_pickBetween_74 : decode cX8_pickBetween 74 = .ok (.getfield 68, 3) := by decide +kernel
theorem dX8_pickBetween_77 : decode cX8_pickBetween 77 = .ok (.lneg, 1) := by decide +kernel
theorem dX8_pickBetween_78 : decode cX8_pickBetween 78 = .ok (.putfield 68, 3) := by decide +kernel
theorem dX8_pickBetween_81 : decode cX8_pickBetween 81 = .ok (.return_, 1) := by decide +kernel
def rm_fSp_pickBetween : Room := { frames := 4, cells := 0, slots := 0, locals := 166 }
set_option maxHeartbeats 4000000 in
set_option maxRecDepth 100000 in
theorem c_fSp_pickBetween (l : Launch) (X : eX) (sz : Nat)  (σ : sT) (σz : sT) (h0 : fSp_pickBetween σ = some σz) : ctV l yX8_pickBetween cX8_pickBetween 1 none rm_fSp_pickBetween [.ref (X.2.1 15)] (wC X) (tC X) (aC X) X sz σ σz := by
  refine ct_of (by decide +kernel) (Nat.le_of_ble_eq_true rfl) ?_
  intro p e s m args below meth c ls hz B hl Z
  have B : Bd p s m args meth c RX8 cX8_pickBetween 1 none := B
  have hl : lv_has ls 1 [(0, .ref (X.2.1 15))] := hl
  have hx := B.1
  have hb := B.2.1
  unfold fSp_pickBetween at h0
  refine lv_aload_n hx hb dX8_pickBetween_0 rfl (lv_at hl 0 rfl) ?_
  refine g_15_0 B Z kf_RX8_42 dX8_pickBetween_1 ?_
  refine lv_lconst (v := (0 : Int64)) hx hb dX8_pickBetween_4 (by decide) ?_
  refine W.lcmp hx hb dX8_pickBetween_5 ?_
  refine lv_if_lt (tgt := 32) hx hb dX8_pickBetween_6 (by decide) (fun c1 => ?_) (fun c1 => ?_)
  · have h1 := dit h0 c1
    clear h0
    refine lv_aload_n hx hb dX8_pickBetween_32 rfl (lv_at hl 0 rfl) ?_
    refine g_15_3 B Z kf_RX8_31 dX8_pickBetween_33 ?_
    refine lv_lconst (v := (0 : Int64)) hx hb dX8_pickBetween_36 (by decide) ?_
    refine W.lcmp hx hb dX8_pickBetween_37 ?_
    refine lv_if_le (tgt := 50) hx hb dX8_pickBetween_38 (by decide) (fun c2 => ?_) (fun c2 => ?_)
    · have h2 := dit h1 c2
      clear h1
      refine lv_aload_n hx hb dX8_pickBetween_50 rfl (lv_at hl 0 rfl) ?_
      refine lv_aload_n hx hb dX8_pickBetween_51 rfl (lv_at hl 0 rfl) ?_
      refine g_15_3 B Z kf_RX8_31 dX8_pickBetween_52 ?_
      refine lv_lneg hx hb dX8_pickBetween_55 ?_
      refine lv_aload_n hx hb dX8_pickBetween_56 rfl (lv_at hl 0 rfl) ?_
      refine g_15_4 B Z kf_RX8_15 dX8_pickBetween_57 ?_
      refine lv_aload_n hx hb dX8_pickBetween_60 rfl (lv_at hl 0 rfl) ?_
      refine g_15_0 B Z kf_RX8_42 dX8_pickBetween_61 ?_
      refine lv_lneg hx hb dX8_pickBetween_64 ?_
      refine lv_aload_n hx hb dX8_pickBetween_65 rfl (lv_at hl 0 rfl) ?_
      refine g_15_1 B Z kf_RX8_9 dX8_pickBetween_66 ?_
      obtain ⟨σ4, hc2, h3⟩ := db1_s h2
      clear h2
      refine cV_V [.long (-(σ.2 15 3)), .long (σ.2 15 4), .long (-(σ.2 15 0)), .long (σ.2 15 1)] [] B mx_yX8_pickSimplest (c_fSp_pickSimplest l X _ (-(σ.2 15 3)) (σ.2 15 4) (-(σ.2 15 0)) (σ.2 15 1) σ σ4 hc2) kl_RX8_74 mi_yX8_pickSimplest (rv_15 _ _) hcl_8 Z hl rfl rfl ⟨Nat.le_of_ble_eq_true rfl, Nat.le_of_ble_eq_true rfl⟩ rfl rfl (Nat.le_of_ble_eq_true rfl) dX8_pickBetween_69 (fun H locs Z => ?_)
      clear hc2
      refine lv_aload_n hx hb dX8_pickBetween_72 rfl (lv_at hl 0 rfl) ?_
      refine lv_aload_n hx hb dX8_pickBetween_73 rfl (lv_at hl 0 rfl) ?_
      refine g_15_6 B Z kf_RX8_68 dX8_pickBetween_74 ?_
      refine lv_lneg hx hb dX8_pickBetween_77 ?_
      refine s_15_6 B Z kf_RX8_68 dX8_pickBetween_78 (fun H locs Z => ?_)
      obtain ⟨σ5, eσ5, h4⟩ := dlt_s h3
      clear h3
      replace Z := Wd.eq eσ5 Z
      clear eσ5
      exact reV B Z hz h4 dX8_pickBetween_81
    · have h5 := dif h1 c2
      clear h1
      refine lv_aload_n hx hb dX8_pickBetween_41 rfl (lv_at hl 0 rfl) ?_
      refine lv_lconst (v := (0 : Int64)) hx hb dX8_pickBetween_42 (by decide) ?_
      refine lv_lconst (v := (1 : Int64)) hx hb dX8_pickBetween_43 (by decide) ?_
      obtain ⟨σ7, hc5, h6⟩ := db1_s h5
      clear h5
      refine cV_V [.long (0 : Int64), .long (1 : Int64)] [] B mx_yX8_choose (c_fSp_choose l X _ (0 : Int64) (1 : Int64) σ σ7 hc5) kl_RX8_61 mi_yX8_choose (rv_15 _ _) hcl_8 Z hl rfl rfl ⟨Nat.le_of_ble_eq_true rfl, Nat.le_of_ble_eq_true rfl⟩ rfl rfl (Nat.le_of_ble_eq_true rfl) dX8_pickBetween_44 (fun H locs Z => ?_)
      clear hc5
      refine lv_goto (tgt := 81) hx hb dX8_pickBetween_47 (by decide) ?_
      exact reV B Z hz h6 dX8_pickBetween_81
  · have h7 := dif h0 c1
    clear h0
    refine lv_aload_n hx hb dX8_pickBetween_9 rfl (lv_at hl 0 rfl) ?_
    refine lv_aload_n hx hb dX8_pickBetween_10 rfl (lv_at hl 0 rfl) ?_
    refine g_15_0 B Z kf_RX8_42 dX8_pickBetween_11 ?_
    refine lv_aload_n hx hb dX8_pickBetween_14 rfl (lv_at hl 0 rfl) ?_
    refine g_15_1 B Z kf_RX8_9 dX8_pickBetween_15 ?_
    refine lv_aload_n hx hb dX8_pickBetween_18 rfl (lv_at hl 0 rfl) ?_
    refine g_15_3 B Z kf_RX8_31 dX8_pickBetween_19 ?_
    refine lv_aload_n hx hb dX8_pickBetween_22 rfl (lv_at hl 0 rfl) ?_
    refine g_15_4 B Z kf_RX8_15 dX8_pickBetween_23 ?_
    obtain ⟨σ9, hc7, h8⟩ := db1_s h7
    clear h7
    refine cV_V [.long (σ.2 15 0), .long (σ.2 15 1), .long (σ.2 15 3), .long (σ.2 15 4)] [] B mx_yX8_pickSimplest (c_fSp_pickSimplest l X _ (σ.2 15 0) (σ.2 15 1) (σ.2 15 3) (σ.2 15 4) σ σ9 hc7) kl_RX8_74 mi_yX8_pickSimplest (rv_15 _ _) hcl_8 Z hl rfl rfl ⟨Nat.le_of_ble_eq_true rfl, Nat.le_of_ble_eq_true rfl⟩ rfl rfl (Nat.le_of_ble_eq_true rfl) dX8_pickBetween_26 (fun H locs Z => ?_)
    clear hc7
    refine lv_goto (tgt := 81) hx hb dX8_pickBetween_29 (by decide) ?_
    exact reV B Z hz h8 dX8_pickBetween_81
theorem dX8_pick_0 : decode cX8_pick 0 = .ok (.aload_n 0, 1) := by decide +kernel
theorem dX8_pick_1 : decode cX8_pick 1 = .ok (.getfield 9, 3) := by decide +kernel
theorem dX8_pick_4 : decode cX8_pick 4 = .ok (.lconst 0, 1) := by decide +kernel
theorem dX8_pick_5 : decode cX8_pick 5 = .ok (.lcmp, 1) := by decide +kernel
theorem dX8_pick_6 : decode cX8_pick 6 = .ok (.ifCond .le 25, 3) := by decide +kernel
theorem dX8_pick_9 : decode cX8_pick 9 = .ok (.aload_n 0, 1) := by decide +kernel
theorem dX8_pick_10 : decode cX8_pick 10 = .ok (.getfield 45, 3) := by decide +kernel
theorem dX8_pick_13 : decode cX8_pick 13 = .ok (.ifCond .ne 18, 3) := by decide +kernel
theorem dX8_pick_16 : decode cX8_pick 16 = .ok (.aload_n 0, 1) := by decide +kernel
theorem dX8_pick_17 : decode cX8_pick 17 = .ok (.aload_n 0, 1) := by decide +kernel
theorem dX8_pick_18 : decode cX8_pick 18 = .ok (.getfield 42, 3) := by decide +kernel
theorem dX8_pick_21 : decode cX8_pick 21 = .ok (.aload_n 0, 1) := by decide +kernel
theorem dX8_pick_22 : decode cX8_pick 22 = .ok (.getfield 9, 3) := by decide +kernel
theorem dX8_pick_25 : decode cX8_pick 25 = .ok (.invokevirtual 61, 3) := by decide +kernel
theorem dX8_pick_28 : decode cX8_pick 28 = .ok (.goto 127, 3) := by decide +kernel
theorem dX8_pick_31 : decode cX8_pick 31 = .ok (.aload_n 0, 1) := by decide +kernel
theorem dX8_pick_32 : decode cX8_pick 32 = .ok (.getfield 15, 3) := by decide +kernel
theorem dX8_pick_35 : decode cX8_pick 35 = .ok (.lconst 0, 1) := by decide +kernel
theorem dX8_pick_36 : decode cX8_pick 36 = .ok (.lcmp, 1) := by decide +kernel
theorem dX8_pick_37 : decode cX8_pick 37 = .ok (.ifCond .le 25, 3) := by decide +kernel
theorem dX8_pick_40 : decode cX8_pick 40 = .ok (.aload_n 0, 1) := by decide +kernel
theorem dX8_pick_41 : decode cX8_pick 41 = .ok (.getfield 38, 3) := by decide +kernel
theorem dX8_pick_44 : decode cX8_pick 44 = .ok (.ifCond .ne 18, 3) := by decide +kernel
theorem dX8_pick_47 : decode cX8_pick 47 = .ok (.aload_n 0, 1) := by decide +kernel
theorem dX8_pick_48 : decode cX8_pick 48 = .ok (.aload_n 0, 1) := by decide +kernel
theorem dX8_pick_49 : decode cX8_pick 49 = .ok (.getfield 31, 3) := by decide +kernel
theorem dX8_pick_52 : decode cX8_pick 52 = .ok (.aload_n 0, 1) := by decide +kernel
theorem dX8_pick_53 : decode cX8_pick 53 = .ok (.getfield 15, 3) := by decide +kernel
theorem dX8_pick_56 : decode cX8_pick 56 = .ok (.invokevirtual 61, 3) := by decide +kernel
theorem dX8_pick_59 : decode cX8_pick 59 = .ok (.goto 96, 3) := by decide +kernel
theorem dX8_pick_62 : decode cX8_pick 62 = .ok (.aload_n 0, 1) := by decide +kernel
theorem dX8_pick_63 : decode cX8_pick 63 = .ok (.getfield 9, 3) := by decide +kernel
theorem dX8_pick_66 : decode cX8_pick 66 = .ok (.lconst 0, 1) := by decide +kernel
theorem dX8_pick_67 : decode cX8_pick 67 = .ok (.lcmp, 1) := by decide +kernel
theorem dX8_pick_68 : decode cX8_pick 68 = .ok (.ifCond .le 19, 3) := by decide +kernel
theorem dX8_pick_71 : decode cX8_pick 71 = .ok (.aload_n 0, 1) := by decide +kernel
theorem dX8_pick_72 : decode cX8_pick 72 = .ok (.getfield 15, 3) := by decide +kernel
theorem dX8_pick_75 : decode cX8_pick 75 = .ok (.lconst 0, 1) := by decide +kernel
theorem dX8_pick_76 : decode cX8_pick 76 = .ok (.lcmp, 1) := by decide +kernel
theorem dX8_pick_77 : decode cX8_pick 77 = .ok (.ifCond .le 10, 3) := by decide +kernel
theorem dX8_pick_80 : decode cX8_pick 80 = .ok (.aload_n 0, 1) := by decide +kernel
theorem dX8_pick_81 : decode cX8_pick 81 = .ok (.invokevirtual 65, 3) := by decide +kernel
theorem dX8_pick_84 : decode cX8_pick 84 = .ok (.goto 71, 3) := by decide +kernel
theorem dX8_pick_87 : decode cX8_pick 87 = .ok (.aload_n 0, 1) := by decide +kernel
theorem dX8_pick_88 : decode cX8_pick 88 = .ok (.getfield 9, 3) := by decide +kernel
theorem dX8_pick_91 : decode cX8_pick 91 = .ok (.lconst 0, 1) := by decide +kernel
theorem dX8_pick_92 : decode cX8_pick 92 = .ok (.lcmp, 1) := by decide +kernel
theorem dX8_pick_93 : decode cX8_pick 93 = .ok (.ifCond .le 24, 3) := by decide +kernel
theorem dX8_pick_96 : decode cX8_pick 96 = .ok (.aload_n 0, 1) := by decide +kernel
theorem dX8_pick_97 : decode cX8_pick 97 = .ok (.aload_n 0, 1) := by decide +kernel
theorem dX8_pick_98 : decode cX8_pick 98 = .ok (.getfield 42, 3) := by decide +kernel
theorem dX8_pick_101 : decode cX8_pick 101 = .ok (.aload_n 0, 1) := by decide +kernel
theorem dX8_pick_102 : decode cX8_pick 102 = .ok (.getfield 9, 3) := by decide +kernel
theorem dX8_pick_105 : decode cX8_pick 105 = .ok (.invokestatic 58, 3) := by decide +kernel
theorem dX8_pick_108 : decode cX8_pick 108 = .ok (.lconst 1, 1) := by decide +kernel
theorem dX8_pick_109 : decode cX8_pick 109 = .ok (.ladd, 1) := by decide +kernel
theorem dX8_pick_110 : decode cX8_pick 110 = .ok (.lconst 1, 1) := by decide +kernel
theorem dX8_pick_111 : decode cX8_pick 111 = .ok (.invokevirtual 61, 3) := by decide +kernel
theorem dX8_pick_114 : decode cX8_pick 114 = .ok (.goto 41, 3) := by decide +kernel
theorem dX8_pick_117 : decode cX8_pick 117 = .ok (.aload_n 0, 1) := by decide +kernel
theorem dX8_pick_118 : decode cX8_pick 118 = .ok (.getfield 15, 3) := by decide +kernel
theorem dX8_pick_121 : decode cX8_pick 121 = .ok (.lconst 0, 1) := by decide +kernel
theorem dX8_pick_122 : decode cX8_pick 122 = .ok (.lcmp, 1) := by decide +kernel
theorem dX8_pick_123 : decode cX8_pick 123 = .ok (.ifCond .le 26, 3) := by decide +kernel
theorem dX8_pick_126 : decode cX8_pick 126 = .ok (.aload_n 0, 1) := by decide +kernel
theorem dX8_pick_127 : decode cX8_pick 127 = .ok (.aload_n 0, 1) := by decide +kernel
theorem dX8_pick_128 : decode cX8_pick 128 = .ok (.getfield 31, 3) := by decide +kernel
theorem dX8_pick_131 : decode cX8_pick 131 = .ok (.lneg, 1) := by decide +kernel
theorem dX8_pick_132 : decode cX8_pick 132 = .ok (.aload_n 0, 1) := by decide +kernel
theorem dX8_pick_133 : decode cX8_pick 133 = .ok (.getfield 15, 3) := by decide +kernel
theorem dX8_pick_136 : decode cX8_pick 136 = .ok (.invokestatic 58, 3) := by decide +kernel
theorem dX8_pick_139 : decode cX8_pick 139 = .ok (.lneg, 1) := by decide +kernel
theorem dX8_pick_140 : decode cX8_pick 140 = .ok (.lconst 1, 1) := by decide +kernel
theorem dX8_pick_141 : decode cX8_pick 141 = .ok (.lsub, 1) := by decide +kernel
theorem dX8_pick_142 : decode cX8_pick 142 = .ok (.lconst 1, 1) := by decide +kernel
theorem dX8_pick_143 : decode cX8_pick 143 = .ok (.invokevirtual 61, 3) := by decide +kernel
theorem dX8_pick_146 : decode cX8_pick 146 = .ok (.goto 9, 3) := by decide +kernel
theorem dX8_pick_149 : decode cX8_pick 149 = .ok (.aload_n 0, 1) := by decide +kernel
theorem dX8_pick_150 : decode cX8_pick 150 = .ok (.lconst 0, 1) := by decide +kernel
theorem dX8_pick_151 : decode cX8_pick 151 = .ok (.lconst 1, 1) := by decide +kernel
theorem dX8_pick_152 : decode cX8_pick 152 = .ok (.invokevirtual 61, 3) := by decide +kernel
theorem dX8_pick_155 : decode cX8_pick 155 = .ok (.return_, 1) := by decide +kernel
def rm_fSp_pick : Room := { frames := 5, cells := 0, slots := 0, locals := 186 }
set_option maxHeartbeats 4000000 in
set_option maxRecDepth 100000 in
theorem c_fSp_pick (l : Launch) (X : eX) (sz : Nat)  (σ : sT) (σz : sT) (h0 : fSp_pick σ = some σz) : ctV l yX8_pick cX8_pick 1 none rm_fSp_pick [.ref (X.2.1 15)] (wC X) (tC X) (aC X) X sz σ σz := by
  refine ct_of (by decide +kernel) (Nat.le_of_ble_eq_true rfl) ?_
  intro p e s m args below meth c ls hz B hl Z
  have B : Bd p s m args meth c RX8 cX8_pick 1 none := B
  have hl : lv_has ls 1 [(0, .ref (X.2.1 15))] := hl
  have hx := B.1
  have hb := B.2.1
  unfold fSp_pick at h0
  refine lv_aload_n hx hb dX8_pick_0 rfl (lv_at hl 0 rfl) ?_
  refine g_15_1 B Z kf_RX8_9 dX8_pick_1 ?_
  refine lv_lconst (v := (0 : Int64)) hx hb dX8_pick_4 (by decide) ?_
  refine W.lcmp hx hb dX8_pick_5 ?_
  obtain ⟨J1, eJ1, h25⟩ := dlt_s h0
  clear h0
  have kJ1 : ∀ (H : Heap) (locs : List Loc) (ls : Array Slot), Wd (wC X) (tC X) (aC X) X s σ H locs → lv_has ls 1 [(0, .ref (X.2.1 15))] → J1 () = some σz → W p l e rm_fSp_pick s m args below meth c H locs 0 0 (MQ below (va_Qv (fun u => u = σz) (poW (wC X) (tC X) (aC X) X sz) (aA (aC X) sz)) args s 0 0 (aA (aC X) sz)) (F0 m 31 ls []) := by
    intro  H locs ls Z hl h1
    rw [eJ1] at h1
    refine lv_aload_n hx hb dX8_pick_31 rfl (lv_at hl 0 rfl) ?_
    refine g_15_4 B Z kf_RX8_15 dX8_pick_32 ?_
    refine lv_lconst (v := (0 : Int64)) hx hb dX8_pick_35 (by decide) ?_
    refine W.lcmp hx hb dX8_pick_36 ?_
    obtain ⟨J2, eJ2, h19⟩ := dlt_s h1
    clear h1
    have kJ2 : ∀ (H : Heap) (locs : List Loc) (ls : Array Slot), Wd (wC X) (tC X) (aC X) X s σ H locs → lv_has ls 1 [(0, .ref (X.2.1 15))] → J2 () = some σz → W p l e rm_fSp_pick s m args below meth c H locs 0 0 (MQ below (va_Qv (fun u => u = σz) (poW (wC X) (tC X) (aC X) X sz) (aA (aC X) sz)) args s 0 0 (aA (aC X) sz)) (F0 m 62 ls []) := by
      intro  H locs ls Z hl h2
      rw [eJ2] at h2
      refine lv_aload_n hx hb dX8_pick_62 rfl (lv_at hl 0 rfl) ?_
      refine g_15_1 B Z kf_RX8_9 dX8_pick_63 ?_
      refine lv_lconst (v := (0 : Int64)) hx hb dX8_pick_66 (by decide) ?_
      refine W.lcmp hx hb dX8_pick_67 ?_
      obtain ⟨J3, eJ3, h13⟩ := dlt_s h2
      clear h2
      have kJ3 : ∀ (H : Heap) (locs : List Loc) (ls : Array Slot), Wd (wC X) (tC X) (aC X) X s σ H locs → lv_has ls 1 [(0, .ref (X.2.1 15))] → J3 () = some σz → W p l e rm_fSp_pick s m args below meth c H locs 0 0 (MQ below (va_Qv (fun u => u = σz) (poW (wC X) (tC X) (aC X) X sz) (aA (aC X) sz)) args s 0 0 (aA (aC X) sz)) (F0 m 87 ls []) := by
        intro  H locs ls Z hl h3
        rw [eJ3] at h3
        refine lv_aload_n hx hb dX8_pick_87 rfl (lv_at hl 0 rfl) ?_
        refine g_15_1 B Z kf_RX8_9 dX8_pick_88 ?_
        refine lv_lconst (v := (0 : Int64)) hx hb dX8_pick_91 (by decide) ?_
        refine W.lcmp hx hb dX8_pick_92 ?_
        refine lv_if_le (tgt := 117) hx hb dX8_pick_93 (by decide) (fun c4 => ?_) (fun c4 => ?_)
        · have h4 := dit h3 c4
          clear h3
          refine lv_aload_n hx hb dX8_pick_117 rfl (lv_at hl 0 rfl) ?_
          refine g_15_4 B Z kf_RX8_15 dX8_pick_118 ?_
          refine lv_lconst (v := (0 : Int64)) hx hb dX8_pick_121 (by decide) ?_
          refine W.lcmp hx hb dX8_pick_122 ?_
          refine lv_if_le (tgt := 149) hx hb dX8_pick_123 (by decide) (fun c5 => ?_) (fun c5 => ?_)
          · have h5 := dit h4 c5
            clear h4
            refine lv_aload_n hx hb dX8_pick_149 rfl (lv_at hl 0 rfl) ?_
            refine lv_lconst (v := (0 : Int64)) hx hb dX8_pick_150 (by decide) ?_
            refine lv_lconst (v := (1 : Int64)) hx hb dX8_pick_151 (by decide) ?_
            obtain ⟨σ7, hc5, h6⟩ := db1_s h5
            clear h5
            refine cV_V [.long (0 : Int64), .long (1 : Int64)] [] B mx_yX8_choose (c_fSp_choose l X _ (0 : Int64) (1 : Int64) σ σ7 hc5) kl_RX8_61 mi_yX8_choose (rv_15 _ _) hcl_8 Z hl rfl rfl ⟨Nat.le_of_ble_eq_true rfl, Nat.le_of_ble_eq_true rfl⟩ rfl rfl (Nat.le_of_ble_eq_true rfl) dX8_pick_152 (fun H locs Z => ?_)
            clear hc5
            exact reV B Z hz h6 dX8_pick_155
          · have h7 := dif h4 c5
            clear h4
            refine lv_aload_n hx hb dX8_pick_126 rfl (lv_at hl 0 rfl) ?_
            refine lv_aload_n hx hb dX8_pick_127 rfl (lv_at hl 0 rfl) ?_
            refine g_15_3 B Z kf_RX8_31 dX8_pick_128 ?_
            refine lv_lneg hx hb dX8_pick_131 ?_
            refine lv_aload_n hx hb dX8_pick_132 rfl (lv_at hl 0 rfl) ?_
            refine g_15_4 B Z kf_RX8_15 dX8_pick_133 ?_
            obtain ⟨r9, hc7, h8⟩ := db1_s h7
            clear h7
            refine cS_L [.long (-(σ.2 15 3)), .long (σ.2 15 4)] [.ref (X.2.1 15)] B mx_yJ9_floorDiv_f86c9 (c_fJM_floorDiv l X _ (-(σ.2 15 3)) (σ.2 15 4) σ r9 hc7) kl_RX8_58 ks_yJ9_floorDiv_f86c9 Z hl rfl rfl ⟨Nat.le_of_ble_eq_true rfl, Nat.le_of_ble_eq_true rfl⟩ rfl rfl (Nat.le_of_ble_eq_true rfl) dX8_pick_136 (fun H locs Z => ?_)
            clear hc7
            refine lv_lneg hx hb dX8_pick_139 ?_
            refine lv_lconst (v := (1 : Int64)) hx hb dX8_pick_140 (by decide) ?_
            refine lv_lsub hx hb dX8_pick_141 ?_
            refine lv_lconst (v := (1 : Int64)) hx hb dX8_pick_142 (by decide) ?_
            obtain ⟨σ11, hc9, h9⟩ := db1_s h8
            clear h8
            refine cV_V [.long ((-r9) - (1 : Int64)), .long (1 : Int64)] [] B mx_yX8_choose (c_fSp_choose l X _ ((-r9) - (1 : Int64)) (1 : Int64) σ σ11 hc9) kl_RX8_61 mi_yX8_choose (rv_15 _ _) hcl_8 Z hl rfl rfl ⟨Nat.le_of_ble_eq_true rfl, Nat.le_of_ble_eq_true rfl⟩ rfl rfl (Nat.le_of_ble_eq_true rfl) dX8_pick_143 (fun H locs Z => ?_)
            clear hc9
            refine lv_goto (tgt := 155) hx hb dX8_pick_146 (by decide) ?_
            exact reV B Z hz h9 dX8_pick_155
        · have h10 := dif h3 c4
          clear h3
          refine lv_aload_n hx hb dX8_pick_96 rfl (lv_at hl 0 rfl) ?_
          refine lv_aload_n hx hb dX8_pick_97 rfl (lv_at hl 0 rfl) ?_
          refine g_15_0 B Z kf_RX8_42 dX8_pick_98 ?_
          refine lv_aload_n hx hb dX8_pick_101 rfl (lv_at hl 0 rfl) ?_
          refine g_15_1 B Z kf_RX8_9 dX8_pick_102 ?_
          obtain ⟨r13, hc11, h11⟩ := db1_s h10
          clear h10
          refine cS_L [.long (σ.2 15 0), .long (σ.2 15 1)] [.ref (X.2.1 15)] B mx_yJ9_floorDiv_f86c9 (c_fJM_floorDiv l X _ (σ.2 15 0) (σ.2 15 1) σ r13 hc11) kl_RX8_58 ks_yJ9_floorDiv_f86c9 Z hl rfl rfl ⟨Nat.le_of_ble_eq_true rfl, Nat.le_of_ble_eq_true rfl⟩ rfl rfl (Nat.le_of_ble_eq_true rfl) dX8_pick_105 (fun H locs Z => ?_)
          clear hc11
          refine lv_lconst (v := (1 : Int64)) hx hb dX8_pick_108 (by decide) ?_
          refine lv_ladd hx hb dX8_pick_109 ?_
          refine lv_lconst (v := (1 : Int64)) hx hb dX8_pick_110 (by decide) ?_
          obtain ⟨σ15, hc13, h12⟩ := db1_s h11
          clear h11
          refine cV_V [.long (r13 + (1 : Int64)), .long (1 : Int64)] [] B mx_yX8_choose (c_fSp_choose l X _ (r13 + (1 : Int64)) (1 : Int64) σ σ15 hc13) kl_RX8_61 mi_yX8_choose (rv_15 _ _) hcl_8 Z hl rfl rfl ⟨Nat.le_of_ble_eq_true rfl, Nat.le_of_ble_eq_true rfl⟩ rfl rfl (Nat.le_of_ble_eq_true rfl) dX8_pick_111 (fun H locs Z => ?_)
          clear hc13
          refine lv_goto (tgt := 155) hx hb dX8_pick_114 (by decide) ?_
          exact reV B Z hz h12 dX8_pick_155
      clear eJ3
      refine lv_if_le (tgt := 87) hx hb dX8_pick_68 (by decide) (fun c16 => ?_) (fun c16 => ?_)
      · have h14 := dit h13 c16
        clear h13
        exact kJ3  _ _ _ Z (lv_sub hl [0] rfl) h14
      · have h15 := dif h13 c16
        clear h13
        refine lv_aload_n hx hb dX8_pick_71 rfl (lv_at hl 0 rfl) ?_
        refine g_15_4 B Z kf_RX8_15 dX8_pick_72 ?_
        refine lv_lconst (v := (0 : Int64)) hx hb dX8_pick_75 (by decide) ?_
        refine W.lcmp hx hb dX8_pick_76 ?_
        refine lv_if_le (tgt := 87) hx hb dX8_pick_77 (by decide) (fun c17 => ?_) (fun c17 => ?_)
        · have h16 := dit h15 c17
          clear h15
          exact kJ3  _ _ _ Z (lv_sub hl [0] rfl) h16
        · have h17 := dif h15 c17
          clear h15
          refine lv_aload_n hx hb dX8_pick_80 rfl (lv_at hl 0 rfl) ?_
          obtain ⟨σ19, hc17, h18⟩ := db1_s h17
          clear h17
          refine cV_V [] [] B mx_yX8_pickBetween (c_fSp_pickBetween l X _ σ σ19 hc17) kl_RX8_65 mi_yX8_pickBetween (rv_15 _ _) hcl_8 Z hl rfl rfl ⟨Nat.le_of_ble_eq_true rfl, Nat.le_of_ble_eq_true rfl⟩ rfl rfl (Nat.le_of_ble_eq_true rfl) dX8_pick_81 (fun H locs Z => ?_)
          clear hc17
          refine lv_goto (tgt := 155) hx hb dX8_pick_84 (by decide) ?_
          exact reV B Z hz h18 dX8_pick_155
    clear eJ2
    refine lv_if_le (tgt := 62) hx hb dX8_pick_37 (by decide) (fun c20 => ?_) (fun c20 => ?_)
    · have h20 := dit h19 c20
      clear h19
      exact kJ2  _ _ _ Z (lv_sub hl [0] rfl) h20
    · have h21 := dif h19 c20
      clear h19
      refine lv_aload_n hx hb dX8_pick_40 rfl (lv_at hl 0 rfl) ?_
      refine g_15_5 B Z kf_RX8_38 dX8_pick_41 ?_
      refine lv_if_ne (tgt := 62) hx hb dX8_pick_44 (by decide) (fun c21 => ?_) (fun c21 => ?_)
      · have h22 := dif h21 c21
        clear h21
        exact kJ2  _ _ _ Z (lv_sub hl [0] rfl) h22
      · have h23 := dit h21 c21
        clear h21
        refine lv_aload_n hx hb dX8_pick_47 rfl (lv_at hl 0 rfl) ?_
        refine lv_aload_n hx hb dX8_pick_48 rfl (lv_at hl 0 rfl) ?_
        refine g_15_3 B Z kf_RX8_31 dX8_pick_49 ?_
        refine lv_aload_n hx hb dX8_pick_52 rfl (lv_at hl 0 rfl) ?_
        refine g_15_4 B Z kf_RX8_15 dX8_pick_53 ?_
        obtain ⟨σ23, hc21, h24⟩ := db1_s h23
        clear h23
        refine cV_V [.long (σ.2 15 3), .long (σ.2 15 4)] [] B mx_yX8_choose (c_fSp_choose l X _ (σ.2 15 3) (σ.2 15 4) σ σ23 hc21) kl_RX8_61 mi_yX8_choose (rv_15 _ _) hcl_8 Z hl rfl rfl ⟨Nat.le_of_ble_eq_true rfl, Nat.le_of_ble_eq_true rfl⟩ rfl rfl (Nat.le_of_ble_eq_true rfl) dX8_pick_56 (fun H locs Z => ?_)
        clear hc21
        refine lv_goto (tgt := 155) hx hb dX8_pick_59 (by decide) ?_
        exact reV B Z hz h24 dX8_pick_155
  clear eJ1
  refine lv_if_le (tgt := 31) hx hb dX8_pick_6 (by decide) (fun c24 => ?_) (fun c24 => ?_)
  · have h26 := dit h25 c24
    clear h25
    exact kJ1  _ _ _ Z (lv_sub hl [0] rfl) h26
  · have h27 := dif h25 c24
    clear h25
    refine lv_aload_n hx hb dX8_pick_9 rfl (lv_at hl 0 rfl) ?_
    refine g_15_2 B Z kf_RX8_45 dX8_pick_10 ?_
    refine lv_if_ne (tgt := 31) hx hb dX8_pick_13 (by decide) (fun c25 => ?_) (fun c25 => ?_)
    · have h28 := dif h27 c25
      clear h27
      exact kJ1  _ _ _ Z (lv_sub hl [0] rfl) h28
    · have h29 := dit h27 c25
      clear h27
      refine lv_aload_n hx hb dX8_pick_16 rfl (lv_at hl 0 rfl) ?_
      refine lv_aload_n hx hb dX8_pick_17 rfl (lv_at hl 0 rfl) ?_
      refine g_15_0 B Z kf_RX8_42 dX8_pick_18 ?_
      refine lv_aload_n hx hb dX8_pick_21 rfl (lv_at hl 0 rfl) ?_
      refine g_15_1 B Z kf_RX8_9 dX8_pick_22 ?_
      obtain ⟨σ27, hc25, h30⟩ := db1_s h29
      clear h29
      refine cV_V [.long (σ.2 15 0), .long (σ.2 15 1)] [] B mx_yX8_choose (c_fSp_choose l X _ (σ.2 15 0) (σ.2 15 1) σ σ27 hc25) kl_RX8_61 mi_yX8_choose (rv_15 _ _) hcl_8 Z hl rfl rfl ⟨Nat.le_of_ble_eq_true rfl, Nat.le_of_ble_eq_true rfl⟩ rfl rfl (Nat.le_of_ble_eq_true rfl) dX8_pick_25 (fun H locs Z => ?_)
      clear hc25
      refine lv_goto (tgt := 155) hx hb dX8_pick_28 (by decide) ?_
      exact reV B Z hz h30 dX8_pick_155
theorem dX7_solve_0 : decode cX7_solve 0 = .ok (.iconst 0, 1) := by decide +kernel
theorem dX7_solve_1 : decode cX7_solve 1 = .ok (.istore_n 3, 1) := by decide +kernel
theorem dX7_solve_2 : decode cX7_solve 2 = .ok (.iload_n 3, 1) := by decide +kernel
theorem dX7_solve_3 : decode cX7_solve 3 = .ok (.iload_n 2, 1) := by decide +kernel
theorem dX7_solve_4 : decode cX7_solve 4 = .ok (.if_icmp .gt 59, 3) := by decide +kernel
theorem dX7_solve_7 : decode cX7_solve 7 = .ok (.iload_n 3, 1) := by decide +kernel
theorem dX7_solve_8 : decode cX7_solve 8 = .ok (.iconst 3, 1) := by decide +kernel
theorem dX7_solve_9 : decode cX7_solve 9 = .ok (.if_icmp .ge 54, 3) := by decide +kernel
theorem dX7_solve_12 : decode cX7_solve 12 = .ok (.aload_n 0, 1) := by decide +kernel
theorem dX7_solve_13 : decode cX7_solve 13 = .ok (.iload_n 1, 1) := by decide +kernel
theorem dX7_solve_14 : decode cX7_solve 14 = .ok (.iload_n 3, 1) := by decide +kernel
theorem dX7_solve_15 : decode cX7_solve 15 = .ok (.invokevirtual 132, 3) := by decide +kernel
theorem dX7_solve_18 : decode cX7_solve 18 = .ok (.aload_n 0, 1) := by decide +kernel
theorem dX7_solve_19 : decode cX7_solve 19 = .ok (.iload_n 3, 1) := by decide +kernel
theorem dX7_solve_20 : decode cX7_solve 20 = .ok (.invokevirtual 115, 3) := by decide +kernel
theorem dX7_solve_23 : decode cX7_solve 23 = .ok (.pop, 1) := by decide +kernel
theorem dX7_solve_24 : decode cX7_solve 24 = .ok (.aload_n 0, 1) := by decide +kernel
theorem dX7_solve_25 : decode cX7_solve 25 = .ok (.getfield 29, 3) := by decide +kernel
theorem dX7_solve_28 : decode cX7_solve 28 = .ok (.invokevirtual 136, 3) := by decide +kernel
theorem dX7_solve_31 : decode cX7_solve 31 = .ok (.aload_n 0, 1) := by decide +kernel
theorem dX7_solve_32 : decode cX7_solve 32 = .ok (.getfield 44, 3) := by decide +kernel
theorem dX7_solve_35 : decode cX7_solve 35 = .ok (.iload_n 3, 1) := by decide +kernel
theorem dX7_solve_36 : decode cX7_solve 36 = .ok (.aload_n 0, 1) := by decide +kernel
theorem dX7_solve_37 : decode cX7_solve 37 = .ok (.getfield 29, 3) := by decide +kernel
theorem dX7_solve_40 : decode cX7_solve 40 = .ok (.getfield 139, 3) := by decide +kernel
theorem dX7_solve_43 : decode cX7_solve 43 = .ok (.lastore, 1) := by decide +kernel
theorem dX7_solve_44 : decode cX7_solve 44 = .ok (.aload_n 0, 1) := by decide +kernel
theorem dX7_solve_45 : decode cX7_solve 45 = .ok (.getfield 47, 3) := by decide +kernel
theorem dX7_solve_48 : decode cX7_solve 48 = .ok (.iload_n 3, 1) := by decide +kernel
theorem dX7_solve_49 : decode cX7_solve 49 = .ok (.aload_n 0, 1) := by decide +kernel
theorem dX7_solve_50 : decode cX7_solve 50 = .ok (.getfield 29, 3) := by decide +kernel
theorem dX7_solve_53 : decode cX7_solve 53 = .ok (.getfield 143, 3) := by decide +kernel
theorem dX7_solve_56 : decode cX7_solve 56 = .ok (.lastore, 1) := by decide +kernel
theorem dX7_solve_57 : decode cX7_solve 57 = .ok (.iinc 3 1, 3) := by decide +kernel
theorem dX7_solve_60 : decode cX7_solve 60 = .ok (.goto (-58), 3) := by decide +kernel
theorem dX7_solve_63 : decode cX7_solve 63 = .ok (.return_, 1) := by decide +kernel
def rm_fSo_solve : Room := { frames := 6, cells := 0, slots := 0, locals := 207 }
set_option maxHeartbeats 4000000 in
set_option maxRecDepth 100000 in
theorem c_fSo_solve (l : Launch) (X : eX) (sz : Nat) (a1 : Int32) (a2 : Int32) (σ : sT) (σz : sT) (h0 : fSo_solve a1 a2 σ = some σz) : ctV l yX7_solve cX7_solve 4 none rm_fSo_solve [.ref (X.2.1 5), .int a1, .int a2] (wC X) (tC X) (aC X) X sz σ σz := by
  refine ct_of (by decide +kernel) (Nat.le_of_ble_eq_true rfl) ?_
  intro p e s m args below meth c ls hz B hl Z
  have B : Bd p s m args meth c RX7 cX7_solve 4 none := B
  have hl : lv_has ls 4 [(0, .ref (X.2.1 5)), (1, .int a1), (2, .int a2)] := hl
  have hx := B.1
  have hb := B.2.1
  unfold fSo_solve at h0
  refine lv_iconst (v := (0 : Int32)) hx hb dX7_solve_0 (by decide) ?_
  refine lv_istore_n (lv' := [(3, .int (0 : Int32)), (0, .ref (X.2.1 5)), (1, .int a1), (2, .int a2)]) hx hb dX7_solve_1 rfl hl (by decide) rfl (fun ls hl => ?_)
  have lL2 : ∀ (n : Nat), ∀ (x1 : Int32) (σ2 : sT) (H : Heap) (locs : List Loc) (ls : Array Slot), Wd (wC X) (tC X) (aC X) X s σ2 H locs → lv_has ls 4 [(0, .ref (X.2.1 5)), (1, .int a1), (2, .int a2), (3, .int x1)] → fSo_solve_L2 a1 a2 n x1 σ2 = some σz → W p l e rm_fSo_solve s m args below meth c H locs 0 0 (MQ below (va_Qv (fun u => u = σz) (poW (wC X) (tC X) (aC X) X sz) (aA (aC X) sz)) args s 0 0 (aA (aC X) sz)) (F0 m 2 ls []) := by
    intro n
    induction n with
    | zero =>
      intro x1 σ2 H locs ls Z hl h
      exact nomatch (show (none : Option (sT)) = some _ from h)
    | succ n3 ih2 =>
      intro x1 σ2 H locs ls Z hl h1
      unfold fSo_solve_L2 at h1
      refine lv_iload_n hx hb dX7_solve_2 rfl (lv_at hl 3 rfl) ?_
      refine lv_iload_n hx hb dX7_solve_3 rfl (lv_at hl 2 rfl) ?_
      refine lv_icmp_gt (tgt := 63) hx hb dX7_solve_4 (by decide) (fun c4 => ?_) (fun c4 => ?_)
      · have h2 := dit h1 c4
        clear h1
        exact reV B Z hz h2 dX7_solve_63
      · have h3 := dif h1 c4
        clear h1
        refine lv_iload_n hx hb dX7_solve_7 rfl (lv_at hl 3 rfl) ?_
        refine lv_iconst (v := (3 : Int32)) hx hb dX7_solve_8 (by decide) ?_
        refine lv_icmp_ge (tgt := 63) hx hb dX7_solve_9 (by decide) (fun c5 => ?_) (fun c5 => ?_)
        · have h4 := dit h3 c5
          clear h3
          exact reV B Z hz h4 dX7_solve_63
        · have h5 := dif h3 c5
          clear h3
          refine lv_aload_n hx hb dX7_solve_12 rfl (lv_at hl 0 rfl) ?_
          refine lv_iload_n hx hb dX7_solve_13 rfl (lv_at hl 1 rfl) ?_
          refine lv_iload_n hx hb dX7_solve_14 rfl (lv_at hl 3 rfl) ?_
          obtain ⟨σ7, hc5, h6⟩ := db1_s h5
          clear h5
          refine cV_V [.int a1, .int x1] [] B mx_yX7_loadWithValues (c_fSo_loadWithValues l X _ a1 x1 σ2 σ7 hc5) kl_RX7_132 mi_yX7_loadWithValues (rv_5 _ _) hcl_7 Z hl rfl rfl ⟨Nat.le_of_ble_eq_true rfl, Nat.le_of_ble_eq_true rfl⟩ rfl rfl (Nat.le_of_ble_eq_true rfl) dX7_solve_15 (fun H locs Z => ?_)
          clear hc5
          refine lv_aload_n hx hb dX7_solve_18 rfl (lv_at hl 0 rfl) ?_
          refine lv_iload_n hx hb dX7_solve_19 rfl (lv_at hl 3 rfl) ?_
          obtain ⟨r9, σ10, hc7, h7⟩ := db2_s h6
          clear h6
          refine cV_I [.int x1] [] B mx_yX7_narrow (c_fSo_narrow l X _ x1 σ7 r9 σ10 hc7) kl_RX7_115 mi_yX7_narrow (rv_5 _ _) hcl_7 Z hl rfl rfl ⟨Nat.le_of_ble_eq_true rfl, Nat.le_of_ble_eq_true rfl⟩ rfl rfl (Nat.le_of_ble_eq_true rfl) dX7_solve_20 (fun H locs Z => ?_)
          clear hc7
          refine lv_pop hx hb dX7_solve_23 rfl ?_
          refine lv_aload_n hx hb dX7_solve_24 rfl (lv_at hl 0 rfl) ?_
          refine g_5_4 B Z kf_RX7_29 dX7_solve_25 ?_
          obtain ⟨σ12, hc10, h8⟩ := db1_s h7
          clear h7
          refine cV_V [] [] B mx_yX8_pick (c_fSp_pick l X _ σ10 σ12 hc10) kl_RX7_136 mi_yX8_pick (rv_15 _ _) hcl_8 Z hl rfl rfl ⟨Nat.le_of_ble_eq_true rfl, Nat.le_of_ble_eq_true rfl⟩ rfl rfl (Nat.le_of_ble_eq_true rfl) dX7_solve_28 (fun H locs Z => ?_)
          clear hc10
          refine lv_aload_n hx hb dX7_solve_31 rfl (lv_at hl 0 rfl) ?_
          refine g_5_7 B Z kf_RX7_44 dX7_solve_32 ?_
          refine lv_iload_n hx hb dX7_solve_35 rfl (lv_at hl 3 rfl) ?_
          refine lv_aload_n hx hb dX7_solve_36 rfl (lv_at hl 0 rfl) ?_
          refine g_5_4 B Z kf_RX7_29 dX7_solve_37 ?_
          refine gn_15_6 B Z kx_RX7_139 dX7_solve_40 ?_
          obtain ⟨z13, h9⟩ := dck_s h8
          clear h8
          refine st_18 B Z z13 dX7_solve_43 (fun H locs Z => ?_)
          obtain ⟨σ14, eσ14, h10⟩ := dlt_s h9
          clear h9
          replace Z := Wd.eq eσ14 Z
          clear eσ14
          refine lv_aload_n hx hb dX7_solve_44 rfl (lv_at hl 0 rfl) ?_
          refine g_5_8 B Z kf_RX7_47 dX7_solve_45 ?_
          refine lv_iload_n hx hb dX7_solve_48 rfl (lv_at hl 3 rfl) ?_
          refine lv_aload_n hx hb dX7_solve_49 rfl (lv_at hl 0 rfl) ?_
          refine g_5_4 B Z kf_RX7_29 dX7_solve_50 ?_
          refine gn_15_7 B Z kx_RX7_143 dX7_solve_53 ?_
          obtain ⟨z15, h11⟩ := dck_s h10
          clear h10
          refine st_19 B Z z15 dX7_solve_56 (fun H locs Z => ?_)
          obtain ⟨σ16, eσ16, h12⟩ := dlt_s h11
          clear h11
          replace Z := Wd.eq eσ16 Z
          clear eσ16
          refine lv_iinc (v := x1 + (1 : Int32)) (lv' := [(3, .int (x1 + (1 : Int32))), (0, .ref (X.2.1 5)), (1, .int a1), (2, .int a2)]) hx hb dX7_solve_57 hl (k := 3) rfl (by rfl) (by decide) rfl (fun ls hl => ?_)
          refine lv_goto (tgt := 2) hx hb dX7_solve_60 (by decide) ?_
          exact ih2 (x1 + (1 : Int32)) σ16 _ _ _ Z (lv_sub hl [1, 2, 3, 0] rfl) h12
  exact lL2 FU (0 : Int32) σ _ _ _ Z (lv_sub hl [1, 2, 3, 0] rfl) h0
theorem dX11_point_0 : decode cX11_point 0 = .ok (.aload_n 0, 1) := by decide +kernel
theorem dX11_point_1 : decode cX11_point 1 = .ok (.getfield 10, 3) := by decide +kernel
theorem dX11_point_4 : decode cX11_point 4 = .ok (.iload_n 1, 1) := by decide +kernel
theorem dX11_point_5 : decode cX11_point 5 = .ok (.invokevirtual 118, 3) := by decide +kernel
theorem dX11_point_8 : decode cX11_point 8 = .ok (.ifCond .eq 21, 3) := by decide +kernel
theorem dX11_point_11 : decode cX11_point 11 = .ok (.iload_n 2, 1) := by decide +kernel
theorem dX11_point_12 : decode cX11_point 12 = .ok (.iconst 0, 1) := by decide +kernel
theorem dX11_point_13 : decode cX11_point 13 = .ok (.iconst 2, 1) := by decide +kernel
theorem dX11_point_14 : decode cX11_point 14 = .ok (.invokestatic 106, 3) := by decide +kernel
theorem dX11_point_17 : decode cX11_point 17 = .ok (.ifCond .eq 12, 3) := by decide +kernel
theorem dX11_point_20 : decode cX11_point 20 = .ok (.iload_n 3, 1) := by decide +kernel
theorem dX11_point_21 : decode cX11_point 21 = .ok (.iconst 0, 1) := by decide +kernel
theorem dX11_point_22 : decode cX11_point 22 = .ok (.iconst 1, 1) := by decide +kernel
theorem dX11_point_23 : decode cX11_point 23 = .ok (.invokestatic 106, 3) := by decide +kernel
theorem dX11_point_26 : decode cX11_point 26 = .ok (.ifCond .ne 9, 3) := by decide +kernel
theorem dX11_point_29 : decode cX11_point 29 = .ok (.aload_n 0, 1) := by decide +kernel
theorem dX11_point_30 : decode cX11_point 30 = .ok (.invokevirtual 77, 3) := by decide +kernel
theorem dX11_point_33 : decode cX11_point 33 = .ok (.i2l, 1) := by decide +kernel
theorem dX11_point_34 : decode cX11_point 34 = .ok (.lreturn, 1) := by decide +kernel
theorem dX11_point_35 : decode cX11_point 35 = .ok (.aload_n 0, 1) := by decide +kernel
theorem dX11_point_36 : decode cX11_point 36 = .ok (.getfield 21, 3) := by decide +kernel
theorem dX11_point_39 : decode cX11_point 39 = .ok (.iload_n 1, 1) := by decide +kernel
theorem dX11_point_40 : decode cX11_point 40 = .ok (.invokevirtual 121, 3) := by decide +kernel
theorem dX11_point_43 : decode cX11_point 43 = .ok (.ifCond .ne 9, 3) := by decide +kernel
theorem dX11_point_46 : decode cX11_point 46 = .ok (.aload_n 0, 1) := by decide +kernel
theorem dX11_point_47 : decode cX11_point 47 = .ok (.invokevirtual 124, 3) := by decide +kernel
theorem dX11_point_50 : decode cX11_point 50 = .ok (.i2l, 1) := by decide +kernel
theorem dX11_point_51 : decode cX11_point 51 = .ok (.lreturn, 1) := by decide +kernel
theorem dX11_point_52 : decode cX11_point 52 = .ok (.aload_n 0, 1) := by decide +kernel
theorem dX11_point_53 : decode cX11_point 53 = .ok (.getfield 21, 3) := by decide +kernel
theorem dX11_point_56 : decode cX11_point 56 = .ok (.iload_n 1, 1) := by decide +kernel
theorem dX11_point_57 : decode cX11_point 57 = .ok (.iload_n 2, 1) := by decide +kernel
theorem dX11_point_58 : decode cX11_point 58 = .ok (.invokevirtual 153, 3) := by decide +kernel
theorem dX11_point_61 : decode cX11_point 61 = .ok (.iload_n 3, 1) := by decide +kernel
theorem dX11_point_62 : decode cX11_point 62 = .ok (.ifCond .ne 15, 3) := by decide +kernel
theorem dX11_point_65 : decode cX11_point 65 = .ok (.aload_n 0, 1) := by decide +kernel
theorem dX11_point_66 : decode cX11_point 66 = .ok (.getfield 21, 3) := by decide +kernel
theorem dX11_point_69 : decode cX11_point 69 = .ok (.getfield 157, 3) := by decide +kernel
theorem dX11_point_72 : decode cX11_point 72 = .ok (.iload_n 2, 1) := by decide +kernel
theorem dX11_point_73 : decode cX11_point 73 = .ok (.laload, 1) := by decide +kernel
theorem dX11_point_74 : decode cX11_point 74 = .ok (.goto 12, 3) := by decide +kernel
theorem dX11_point_77 : decode cX11_point 77 = .ok (.aload_n 0, 1) := by decide +kernel
theorem dX11_point_78 : decode cX11_point 78 = .ok (.getfield 21, 3) := by decide +kernel
theorem dX11_point_81 : decode cX11_point 81 = .ok (.getfield 161, 3) := by decide +kernel
theorem dX11_point_84 : decode cX11_point 84 = .ok (.iload_n 2, 1) := by decide +kernel
theorem dX11_point_85 : decode cX11_point 85 = .ok (.laload, 1) := by decide +kernel
theorem dX11_point_86 : decode cX11_point 86 = .ok (.lreturn, 1) := by decide +kernel
def rm_fRM_point : Room := { frames := 8, cells := 0, slots := 0, locals := 250 }
set_option maxHeartbeats 4000000 in
set_option maxRecDepth 100000 in
theorem c_fRM_point (l : Launch) (X : eX) (sz : Nat) (a1 : Int32) (a2 : Int32) (a3 : Int32) (σ : sT) (rz : Int64) (σz : sT) (h0 : fRM_point a1 a2 a3 σ = some (rz, σz)) : ctL l yX11_point cX11_point 4 (some .long) rm_fRM_point [.ref (X.2.1 0), .int a1, .int a2, .int a3] (wC X) (tC X) (aC X) X sz σ rz σz := by
  refine ct_of (by decide +kernel) (Nat.le_of_ble_eq_true rfl) ?_
  intro p e s m args below meth c ls hz B hl Z
  have B : Bd p s m args meth c RX11 cX11_point 4 (some .long) := B
  have hl : lv_has ls 4 [(0, .ref (X.2.1 0)), (1, .int a1), (2, .int a2), (3, .int a3)] := hl
  have hx := B.1
  have hb := B.2.1
  unfold fRM_point at h0
  refine lv_aload_n hx hb dX11_point_0 rfl (lv_at hl 0 rfl) ?_
  refine g_0_0 B Z kf_RX11_10 dX11_point_1 ?_
  refine lv_iload_n hx hb dX11_point_4 rfl (lv_at hl 1 rfl) ?_
  obtain ⟨r2, hc0, h1⟩ := db1_s h0
  clear h0
  refine cV_I [.int a1] [] B mx_yX0_covers (c_fBk_covers l X _ a1 σ r2 hc0) kl_RX11_118 mi_yX0_covers (rv_1 _ _) hcl_0 Z hl rfl rfl ⟨Nat.le_of_ble_eq_true rfl, Nat.le_of_ble_eq_true rfl⟩ rfl rfl (Nat.le_of_ble_eq_true rfl) dX11_point_5 (fun H locs Z => ?_)
  clear hc0
  obtain ⟨J3, eJ3, h4⟩ := dlt_s h1
  clear h1
  have kJ3 : ∀ (H : Heap) (locs : List Loc) (ls : Array Slot), Wd (wC X) (tC X) (aC X) X s σ H locs → lv_has ls 4 [(0, .ref (X.2.1 0))] → J3 () = some (rz, σz) → W p l e rm_fRM_point s m args below meth c H locs 0 0 (MQ below (va_Ql (fun a u => a = rz ∧ u = σz) (poW (wC X) (tC X) (aC X) X sz) (aA (aC X) sz)) args s 0 0 (aA (aC X) sz)) (F0 m 29 ls []) := by
    intro  H locs ls Z hl h2
    rw [eJ3] at h2
    refine lv_aload_n hx hb dX11_point_29 rfl (lv_at hl 0 rfl) ?_
    obtain ⟨r5, σ6, hc3, h3⟩ := db2_s h2
    clear h2
    refine cV_I [] [] B mx_yX11_bad (c_fRM_bad l X _ σ r5 σ6 hc3) kl_RX11_77 mi_yX11_bad (rv_0 _ _) hcl_11 Z hl rfl rfl ⟨Nat.le_of_ble_eq_true rfl, Nat.le_of_ble_eq_true rfl⟩ rfl rfl (Nat.le_of_ble_eq_true rfl) dX11_point_30 (fun H locs Z => ?_)
    clear hc3
    refine lv_i2l hx hb dX11_point_33 rfl ?_
    exact reL B Z hz h3 dX11_point_34
  clear eJ3
  refine lv_if_eq (tgt := 29) hx hb dX11_point_8 (by decide) (fun c7 => ?_) (fun c7 => ?_)
  · have h5 := dit h4 c7
    clear h4
    exact kJ3  _ _ _ Z (lv_sub hl [0] rfl) h5
  · have h6 := dif h4 c7
    clear h4
    refine lv_iload_n hx hb dX11_point_11 rfl (lv_at hl 2 rfl) ?_
    refine lv_iconst (v := (0 : Int32)) hx hb dX11_point_12 (by decide) ?_
    refine lv_iconst (v := (2 : Int32)) hx hb dX11_point_13 (by decide) ?_
    obtain ⟨r9, hc7, h7⟩ := db1_s h6
    clear h6
    refine cS_I [.int a2, .int (0 : Int32), .int (2 : Int32)] [] B mx_yX11_isWithin (c_fRM_isWithin l X _ a2 (0 : Int32) (2 : Int32) σ r9 hc7) kl_RX11_106 ks_yX11_isWithin Z hl rfl rfl ⟨Nat.le_of_ble_eq_true rfl, Nat.le_of_ble_eq_true rfl⟩ rfl rfl (Nat.le_of_ble_eq_true rfl) dX11_point_14 (fun H locs Z => ?_)
    clear hc7
    refine lv_if_eq (tgt := 29) hx hb dX11_point_17 (by decide) (fun c10 => ?_) (fun c10 => ?_)
    · have h8 := dit h7 c10
      clear h7
      exact kJ3  _ _ _ Z (lv_sub hl [0] rfl) h8
    · have h9 := dif h7 c10
      clear h7
      refine lv_iload_n hx hb dX11_point_20 rfl (lv_at hl 3 rfl) ?_
      refine lv_iconst (v := (0 : Int32)) hx hb dX11_point_21 (by decide) ?_
      refine lv_iconst (v := (1 : Int32)) hx hb dX11_point_22 (by decide) ?_
      obtain ⟨r12, hc10, h10⟩ := db1_s h9
      clear h9
      refine cS_I [.int a3, .int (0 : Int32), .int (1 : Int32)] [] B mx_yX11_isWithin (c_fRM_isWithin l X _ a3 (0 : Int32) (1 : Int32) σ r12 hc10) kl_RX11_106 ks_yX11_isWithin Z hl rfl rfl ⟨Nat.le_of_ble_eq_true rfl, Nat.le_of_ble_eq_true rfl⟩ rfl rfl (Nat.le_of_ble_eq_true rfl) dX11_point_23 (fun H locs Z => ?_)
      clear hc10
      refine lv_if_ne (tgt := 35) hx hb dX11_point_26 (by decide) (fun c13 => ?_) (fun c13 => ?_)
      · have h11 := dif h10 c13
        clear h10
        refine lv_aload_n hx hb dX11_point_35 rfl (lv_at hl 0 rfl) ?_
        refine g_0_1 B Z kf_RX11_21 dX11_point_36 ?_
        refine lv_iload_n hx hb dX11_point_39 rfl (lv_at hl 1 rfl) ?_
        obtain ⟨r15, σ16, hc13, h12⟩ := db2_s h11
        clear h11
        refine cV_I [.int a1] [] B mx_yX7_isSatisfiable (c_fSo_isSatisfiable l X _ a1 σ r15 σ16 hc13) kl_RX11_121 mi_yX7_isSatisfiable (rv_5 _ _) hcl_7 Z hl rfl rfl ⟨Nat.le_of_ble_eq_true rfl, Nat.le_of_ble_eq_true rfl⟩ rfl rfl (Nat.le_of_ble_eq_true rfl) dX11_point_40 (fun H locs Z => ?_)
        clear hc13
        refine lv_if_ne (tgt := 52) hx hb dX11_point_43 (by decide) (fun c17 => ?_) (fun c17 => ?_)
        · have h13 := dif h12 c17
          clear h12
          refine lv_aload_n hx hb dX11_point_52 rfl (lv_at hl 0 rfl) ?_
          refine g_0_1 B Z kf_RX11_21 dX11_point_53 ?_
          refine lv_iload_n hx hb dX11_point_56 rfl (lv_at hl 1 rfl) ?_
          refine lv_iload_n hx hb dX11_point_57 rfl (lv_at hl 2 rfl) ?_
          obtain ⟨σ19, hc17, h14⟩ := db1_s h13
          clear h13
          refine cV_V [.int a1, .int a2] [] B mx_yX7_solve (c_fSo_solve l X _ a1 a2 σ16 σ19 hc17) kl_RX11_153 mi_yX7_solve (rv_5 _ _) hcl_7 Z hl rfl rfl ⟨Nat.le_of_ble_eq_true rfl, Nat.le_of_ble_eq_true rfl⟩ rfl rfl (Nat.le_of_ble_eq_true rfl) dX11_point_58 (fun H locs Z => ?_)
          clear hc17
          refine lv_iload_n hx hb dX11_point_61 rfl (lv_at hl 3 rfl) ?_
          refine lv_if_ne (tgt := 77) hx hb dX11_point_62 (by decide) (fun c20 => ?_) (fun c20 => ?_)
          · have h15 := dif h14 c20
            clear h14
            refine lv_aload_n hx hb dX11_point_77 rfl (lv_at hl 0 rfl) ?_
            refine g_0_1 B Z kf_RX11_21 dX11_point_78 ?_
            refine gn_5_8 B Z kx_RX11_161 dX11_point_81 ?_
            refine lv_iload_n hx hb dX11_point_84 rfl (lv_at hl 2 rfl) ?_
            obtain ⟨z21, h16⟩ := dck_s h15
            clear h15
            refine ld_19 B Z z21 dX11_point_85 ?_
            exact reL B Z hz h16 dX11_point_86
          · have h17 := dit h14 c20
            clear h14
            refine lv_aload_n hx hb dX11_point_65 rfl (lv_at hl 0 rfl) ?_
            refine g_0_1 B Z kf_RX11_21 dX11_point_66 ?_
            refine gn_5_7 B Z kx_RX11_157 dX11_point_69 ?_
            refine lv_iload_n hx hb dX11_point_72 rfl (lv_at hl 2 rfl) ?_
            obtain ⟨z22, h18⟩ := dck_s h17
            clear h17
            refine ld_18 B Z z22 dX11_point_73 ?_
            refine lv_goto (tgt := 86) hx hb dX11_point_74 (by decide) ?_
            exact reL B Z hz h18 dX11_point_86
        · have h19 := dit h12 c17
          clear h12
          refine lv_aload_n hx hb dX11_point_46 rfl (lv_at hl 0 rfl) ?_
          obtain ⟨r24, σ25, hc22, h20⟩ := db2_s h19
          clear h19
          refine cV_I [] [] B mx_yX11_no (c_fRM_no l X _ σ16 r24 σ25 hc22) kl_RX11_124 mi_yX11_no (rv_0 _ _) hcl_11 Z hl rfl rfl ⟨Nat.le_of_ble_eq_true rfl, Nat.le_of_ble_eq_true rfl⟩ rfl rfl (Nat.le_of_ble_eq_true rfl) dX11_point_47 (fun H locs Z => ?_)
          clear hc22
          refine lv_i2l hx hb dX11_point_50 rfl ?_
          exact reL B Z hz h20 dX11_point_51
      · have h21 := dit h10 c13
        clear h10
        exact kJ3  _ _ _ Z (lv_sub hl [0] rfl) h21
theorem dX7_coreOf_0 : decode cX7_coreOf 0 = .ok (.iload_n 1, 1) := by decide +kernel
theorem dX7_coreOf_1 : decode cX7_coreOf 1 = .ok (.istore_n 2, 1) := by decide +kernel
theorem dX7_coreOf_2 : decode cX7_coreOf 2 = .ok (.bipush 11, 2) := by decide +kernel
theorem dX7_coreOf_4 : decode cX7_coreOf 4 = .ok (.istore_n 3, 1) := by decide +kernel
theorem dX7_coreOf_5 : decode cX7_coreOf 5 = .ok (.iload_n 3, 1) := by decide +kernel
theorem dX7_coreOf_6 : decode cX7_coreOf 6 = .ok (.ifCond .lt 37, 3) := by decide +kernel
theorem dX7_coreOf_9 : decode cX7_coreOf 9 = .ok (.iload_n 2, 1) := by decide +kernel
theorem dX7_coreOf_10 : decode cX7_coreOf 10 = .ok (.iconst 1, 1) := by decide +kernel
theorem dX7_coreOf_11 : decode cX7_coreOf 11 = .ok (.iload_n 3, 1) := by decide +kernel
theorem dX7_coreOf_12 : decode cX7_coreOf 12 = .ok (.ishl, 1) := by decide +kernel
theorem dX7_coreOf_13 : decode cX7_coreOf 13 = .ok (.iconst (-1), 1) := by decide +kernel
theorem dX7_coreOf_14 : decode cX7_coreOf 14 = .ok (.ixor, 1) := by decide +kernel
theorem dX7_coreOf_15 : decode cX7_coreOf 15 = .ok (.iand, 1) := by decide +kernel
theorem dX7_coreOf_16 : decode cX7_coreOf 16 = .ok (.istore 4, 2) := by decide +kernel
theorem dX7_coreOf_18 : decode cX7_coreOf 18 = .ok (.iload 4, 2) := by decide +kernel
theorem dX7_coreOf_20 : decode cX7_coreOf 20 = .ok (.iload_n 2, 1) := by decide +kernel
theorem dX7_coreOf_21 : decode cX7_coreOf 21 = .ok (.if_icmp .eq 16, 3) := by decide +kernel
theorem dX7_coreOf_24 : decode cX7_coreOf 24 = .ok (.aload_n 0, 1) := by decide +kernel
theorem dX7_coreOf_25 : decode cX7_coreOf 25 = .ok (.iload 4, 2) := by decide +kernel
theorem dX7_coreOf_27 : decode cX7_coreOf 27 = .ok (.iconst 0, 1) := by decide +kernel
theorem dX7_coreOf_28 : decode cX7_coreOf 28 = .ok (.invokevirtual 119, 3) := by decide +kernel
theorem dX7_coreOf_31 : decode cX7_coreOf 31 = .ok (.ifCond .ne 6, 3) := by decide +kernel
theorem dX7_coreOf_34 : decode cX7_coreOf 34 = .ok (.iload 4, 2) := by decide +kernel
theorem dX7_coreOf_36 : decode cX7_coreOf 36 = .ok (.istore_n 2, 1) := by decide +kernel
theorem dX7_coreOf_37 : decode cX7_coreOf 37 = .ok (.iinc 3 (-1), 3) := by decide +kernel
theorem dX7_coreOf_40 : decode cX7_coreOf 40 = .ok (.goto (-35), 3) := by decide +kernel
theorem dX7_coreOf_43 : decode cX7_coreOf 43 = .ok (.iload_n 2, 1) := by decide +kernel
theorem dX7_coreOf_44 : decode cX7_coreOf 44 = .ok (.ireturn, 1) := by decide +kernel
def rm_fSo_coreOf : Room := { frames := 7, cells := 0, slots := 0, locals := 229 }
set_option maxHeartbeats 4000000 in
set_option maxRecDepth 100000 in
theorem c_fSo_coreOf (l : Launch) (X : eX) (sz : Nat) (a1 : Int32) (σ : sT) (rz : Int32) (σz : sT) (h0 : fSo_coreOf a1 σ = some (rz, σz)) : ctI l yX7_coreOf cX7_coreOf 5 (some .int) rm_fSo_coreOf [.ref (X.2.1 5), .int a1] (wC X) (tC X) (aC X) X sz σ rz σz := by
  refine ct_of (by decide +kernel) (Nat.le_of_ble_eq_true rfl) ?_
  intro p e s m args below meth c ls hz B hl Z
  have B : Bd p s m args meth c RX7 cX7_coreOf 5 (some .int) := B
  have hl : lv_has ls 5 [(0, .ref (X.2.1 5)), (1, .int a1)] := hl
  have hx := B.1
  have hb := B.2.1
  unfold fSo_coreOf at h0
  refine lv_iload_n hx hb dX7_coreOf_0 rfl (lv_at hl 1 rfl) ?_
  refine lv_istore_n (lv' := [(2, .int a1), (0, .ref (X.2.1 5)), (1, .int a1)]) hx hb dX7_coreOf_1 rfl hl (by decide) rfl (fun ls hl => ?_)
  refine lv_bipush (v := (11 : Int32)) hx hb dX7_coreOf_2 (by decide) ?_
  refine lv_istore_n (lv' := [(3, .int (11 : Int32)), (2, .int a1), (0, .ref (X.2.1 5)), (1, .int a1)]) hx hb dX7_coreOf_4 rfl hl (by decide) rfl (fun ls hl => ?_)
  have lL5 : ∀ (n : Nat), ∀ (x1 : Int32) (x2 : Int32) (σ3 : sT) (H : Heap) (locs : List Loc) (ls : Array Slot), Wd (wC X) (tC X) (aC X) X s σ3 H locs → lv_has ls 5 [(0, .ref (X.2.1 5)), (2, .int x1), (3, .int x2)] → fSo_coreOf_L5 n x1 x2 σ3 = some (rz, σz) → W p l e rm_fSo_coreOf s m args below meth c H locs 0 0 (MQ below (va_Qi (fun a u => a = rz ∧ u = σz) (poW (wC X) (tC X) (aC X) X sz) (aA (aC X) sz)) args s 0 0 (aA (aC X) sz)) (F0 m 5 ls []) := by
    intro n
    induction n with
    | zero =>
      intro x1 x2 σ3 H locs ls Z hl h
      exact nomatch (show (none : Option (Int32 × sT)) = some _ from h)
    | succ n4 ih4 =>
      intro x1 x2 σ3 H locs ls Z hl h1
      unfold fSo_coreOf_L5 at h1
      refine lv_iload_n hx hb dX7_coreOf_5 rfl (lv_at hl 2 rfl) ?_
      refine lv_if_lt (tgt := 43) hx hb dX7_coreOf_6 (by decide) (fun c5 => ?_) (fun c5 => ?_)
      · have h2 := dit h1 c5
        clear h1
        refine lv_iload_n hx hb dX7_coreOf_43 rfl (lv_at hl 1 rfl) ?_
        exact reI B Z rfl hz h2 dX7_coreOf_44
      · have h3 := dif h1 c5
        clear h1
        refine lv_iload_n hx hb dX7_coreOf_9 rfl (lv_at hl 1 rfl) ?_
        refine lv_iconst (v := (1 : Int32)) hx hb dX7_coreOf_10 (by decide) ?_
        refine lv_iload_n hx hb dX7_coreOf_11 rfl (lv_at hl 2 rfl) ?_
        refine lv_ishl hx hb dX7_coreOf_12 ?_
        refine lv_iconst (v := (-1 : Int32)) hx hb dX7_coreOf_13 (by decide) ?_
        refine lv_ixor hx hb dX7_coreOf_14 ?_
        refine lv_iand hx hb dX7_coreOf_15 ?_
        refine lv_topi (fun x6 ex6 => ?_)
        have h4 := dlt_e ex6 h3
        clear ex6 h3
        refine lv_istore (lv' := [(4, .int x6), (0, .ref (X.2.1 5)), (2, .int x1), (3, .int x2)]) hx hb dX7_coreOf_16 hl (by decide) rfl (fun ls hl => ?_)
        refine lv_iload hx hb dX7_coreOf_18 (lv_at hl 0 rfl) ?_
        refine lv_iload_n hx hb dX7_coreOf_20 rfl (lv_at hl 2 rfl) ?_
        refine lv_icmp_eq (tgt := 37) hx hb dX7_coreOf_21 (by decide) (fun c7 => ?_) (fun c7 => ?_)
        · have h5 := dit h4 c7
          clear h4
          refine lv_iinc (v := x2 + (-1 : Int32)) (lv' := [(3, .int (x2 + (-1 : Int32))), (4, .int x6), (0, .ref (X.2.1 5)), (2, .int x1)]) hx hb dX7_coreOf_37 hl (k := 3) rfl (by rfl) (by decide) rfl (fun ls hl => ?_)
          refine lv_goto (tgt := 5) hx hb dX7_coreOf_40 (by decide) ?_
          exact ih4 x1 (x2 + (-1 : Int32)) σ3 _ _ _ Z (lv_sub hl [2, 3, 0] rfl) h5
        · have h6 := dif h4 c7
          clear h4
          refine lv_aload_n hx hb dX7_coreOf_24 rfl (lv_at hl 1 rfl) ?_
          refine lv_iload hx hb dX7_coreOf_25 (lv_at hl 0 rfl) ?_
          refine lv_iconst (v := (0 : Int32)) hx hb dX7_coreOf_27 (by decide) ?_
          obtain ⟨r9, σ10, hc7, h7⟩ := db2_s h6
          clear h6
          refine cV_I [.int x6, .int (0 : Int32)] [] B mx_yX7_measure (c_fSo_measure l X _ x6 (0 : Int32) σ3 r9 σ10 hc7) kl_RX7_119 mi_yX7_measure (rv_5 _ _) hcl_7 Z hl rfl rfl ⟨Nat.le_of_ble_eq_true rfl, Nat.le_of_ble_eq_true rfl⟩ rfl rfl (Nat.le_of_ble_eq_true rfl) dX7_coreOf_28 (fun H locs Z => ?_)
          clear hc7
          refine lv_if_ne (tgt := 37) hx hb dX7_coreOf_31 (by decide) (fun c11 => ?_) (fun c11 => ?_)
          · have h8 := dif h7 c11
            clear h7
            refine lv_iinc (v := x2 + (-1 : Int32)) (lv' := [(3, .int (x2 + (-1 : Int32))), (4, .int x6), (0, .ref (X.2.1 5)), (2, .int x1)]) hx hb dX7_coreOf_37 hl (k := 3) rfl (by rfl) (by decide) rfl (fun ls hl => ?_)
            refine lv_goto (tgt := 5) hx hb dX7_coreOf_40 (by decide) ?_
            exact ih4 x1 (x2 + (-1 : Int32)) σ10 _ _ _ Z (lv_sub hl [2, 3, 0] rfl) h8
          · have h9 := dit h7 c11
            clear h7
            refine lv_iload hx hb dX7_coreOf_34 (lv_at hl 0 rfl) ?_
            refine lv_istore_n (lv' := [(2, .int x6), (4, .int x6), (0, .ref (X.2.1 5)), (3, .int x2)]) hx hb dX7_coreOf_36 rfl hl (by decide) rfl (fun ls hl => ?_)
            refine lv_iinc (v := x2 + (-1 : Int32)) (lv' := [(3, .int (x2 + (-1 : Int32))), (2, .int x6), (4, .int x6), (0, .ref (X.2.1 5))]) hx hb dX7_coreOf_37 hl (k := 3) rfl (by rfl) (by decide) rfl (fun ls hl => ?_)
            refine lv_goto (tgt := 5) hx hb dX7_coreOf_40 (by decide) ?_
            exact ih4 x6 (x2 + (-1 : Int32)) σ10 _ _ _ Z (lv_sub hl [3, 1, 0] rfl) h9
  exact lL5 FU a1 (11 : Int32) σ _ _ _ Z (lv_sub hl [2, 1, 0] rfl) h0
theorem dX11_core_0 : decode cX11_core 0 = .ok (.aload_n 0, 1) := by decide +kernel
theorem dX11_core_1 : decode cX11_core 1 = .ok (.getfield 10, 3) := by decide +kernel
theorem dX11_core_4 : decode cX11_core 4 = .ok (.iload_n 1, 1) := by decide +kernel
theorem dX11_core_5 : decode cX11_core 5 = .ok (.invokevirtual 118, 3) := by decide +kernel
theorem dX11_core_8 : decode cX11_core 8 = .ok (.ifCond .ne 8, 3) := by decide +kernel
theorem dX11_core_11 : decode cX11_core 11 = .ok (.aload_n 0, 1) := by decide +kernel
theorem dX11_core_12 : decode cX11_core 12 = .ok (.invokevirtual 77, 3) := by decide +kernel
theorem dX11_core_15 : decode cX11_core 15 = .ok (.ireturn, 1) := by decide +kernel
theorem dX11_core_16 : decode cX11_core 16 = .ok (.aload_n 0, 1) := by decide +kernel
theorem dX11_core_17 : decode cX11_core 17 = .ok (.getfield 21, 3) := by decide +kernel
theorem dX11_core_20 : decode cX11_core 20 = .ok (.iload_n 1, 1) := by decide +kernel
theorem dX11_core_21 : decode cX11_core 21 = .ok (.invokevirtual 121, 3) := by decide +kernel
theorem dX11_core_24 : decode cX11_core 24 = .ok (.ifCond .eq 8, 3) := by decide +kernel
theorem dX11_core_27 : decode cX11_core 27 = .ok (.aload_n 0, 1) := by decide +kernel
theorem dX11_core_28 : decode cX11_core 28 = .ok (.invokevirtual 124, 3) := by decide +kernel
theorem dX11_core_31 : decode cX11_core 31 = .ok (.ireturn, 1) := by decide +kernel
theorem dX11_core_32 : decode cX11_core 32 = .ok (.aload_n 0, 1) := by decide +kernel
theorem dX11_core_33 : decode cX11_core 33 = .ok (.getfield 21, 3) := by decide +kernel
theorem dX11_core_36 : decode cX11_core 36 = .ok (.iload_n 1, 1) := by decide +kernel
theorem dX11_core_37 : decode cX11_core 37 = .ok (.invokevirtual 164, 3) := by decide +kernel
theorem dX11_core_40 : decode cX11_core 40 = .ok (.ireturn, 1) := by decide +kernel
def rm_fRM_core : Room := { frames := 8, cells := 0, slots := 0, locals := 253 }
set_option maxHeartbeats 4000000 in
set_option maxRecDepth 100000 in
theorem c_fRM_core (l : Launch) (X : eX) (sz : Nat) (a1 : Int32) (σ : sT) (rz : Int32) (σz : sT) (h0 : fRM_core a1 σ = some (rz, σz)) : ctI l yX11_core cX11_core 2 (some .int) rm_fRM_core [.ref (X.2.1 0), .int a1] (wC X) (tC X) (aC X) X sz σ rz σz := by
  refine ct_of (by decide +kernel) (Nat.le_of_ble_eq_true rfl) ?_
  intro p e s m args below meth c ls hz B hl Z
  have B : Bd p s m args meth c RX11 cX11_core 2 (some .int) := B
  have hl : lv_has ls 2 [(0, .ref (X.2.1 0)), (1, .int a1)] := hl
  have hx := B.1
  have hb := B.2.1
  unfold fRM_core at h0
  refine lv_aload_n hx hb dX11_core_0 rfl (lv_at hl 0 rfl) ?_
  refine g_0_0 B Z kf_RX11_10 dX11_core_1 ?_
  refine lv_iload_n hx hb dX11_core_4 rfl (lv_at hl 1 rfl) ?_
  obtain ⟨r2, hc0, h1⟩ := db1_s h0
  clear h0
  refine cV_I [.int a1] [] B mx_yX0_covers (c_fBk_covers l X _ a1 σ r2 hc0) kl_RX11_118 mi_yX0_covers (rv_1 _ _) hcl_0 Z hl rfl rfl ⟨Nat.le_of_ble_eq_true rfl, Nat.le_of_ble_eq_true rfl⟩ rfl rfl (Nat.le_of_ble_eq_true rfl) dX11_core_5 (fun H locs Z => ?_)
  clear hc0
  refine lv_if_ne (tgt := 16) hx hb dX11_core_8 (by decide) (fun c3 => ?_) (fun c3 => ?_)
  · have h2 := dif h1 c3
    clear h1
    refine lv_aload_n hx hb dX11_core_16 rfl (lv_at hl 0 rfl) ?_
    refine g_0_1 B Z kf_RX11_21 dX11_core_17 ?_
    refine lv_iload_n hx hb dX11_core_20 rfl (lv_at hl 1 rfl) ?_
    obtain ⟨r5, σ6, hc3, h3⟩ := db2_s h2
    clear h2
    refine cV_I [.int a1] [] B mx_yX7_isSatisfiable (c_fSo_isSatisfiable l X _ a1 σ r5 σ6 hc3) kl_RX11_121 mi_yX7_isSatisfiable (rv_5 _ _) hcl_7 Z hl rfl rfl ⟨Nat.le_of_ble_eq_true rfl, Nat.le_of_ble_eq_true rfl⟩ rfl rfl (Nat.le_of_ble_eq_true rfl) dX11_core_21 (fun H locs Z => ?_)
    clear hc3
    refine lv_if_eq (tgt := 32) hx hb dX11_core_24 (by decide) (fun c7 => ?_) (fun c7 => ?_)
    · have h4 := dit h3 c7
      clear h3
      refine lv_aload_n hx hb dX11_core_32 rfl (lv_at hl 0 rfl) ?_
      refine g_0_1 B Z kf_RX11_21 dX11_core_33 ?_
      refine lv_iload_n hx hb dX11_core_36 rfl (lv_at hl 1 rfl) ?_
      obtain ⟨r9, σ10, hc7, h5⟩ := db2_s h4
      clear h4
      refine cV_I [.int a1] [] B mx_yX7_coreOf (c_fSo_coreOf l X _ a1 σ6 r9 σ10 hc7) kl_RX11_164 mi_yX7_coreOf (rv_5 _ _) hcl_7 Z hl rfl rfl ⟨Nat.le_of_ble_eq_true rfl, Nat.le_of_ble_eq_true rfl⟩ rfl rfl (Nat.le_of_ble_eq_true rfl) dX11_core_37 (fun H locs Z => ?_)
      clear hc7
      exact reI B Z rfl hz h5 dX11_core_40
    · have h6 := dif h3 c7
      clear h3
      refine lv_aload_n hx hb dX11_core_27 rfl (lv_at hl 0 rfl) ?_
      obtain ⟨r12, σ13, hc10, h7⟩ := db2_s h6
      clear h6
      refine cV_I [] [] B mx_yX11_no (c_fRM_no l X _ σ6 r12 σ13 hc10) kl_RX11_124 mi_yX11_no (rv_0 _ _) hcl_11 Z hl rfl rfl ⟨Nat.le_of_ble_eq_true rfl, Nat.le_of_ble_eq_true rfl⟩ rfl rfl (Nat.le_of_ble_eq_true rfl) dX11_core_28 (fun H locs Z => ?_)
      clear hc10
      exact reI B Z rfl hz h7 dX11_core_31
  · have h8 := dit h1 c3
    clear h1
    refine lv_aload_n hx hb dX11_core_11 rfl (lv_at hl 0 rfl) ?_
    obtain ⟨r15, σ16, hc13, h9⟩ := db2_s h8
    clear h8
    refine cV_I [] [] B mx_yX11_bad (c_fRM_bad l X _ σ r15 σ16 hc13) kl_RX11_77 mi_yX11_bad (rv_0 _ _) hcl_11 Z hl rfl rfl ⟨Nat.le_of_ble_eq_true rfl, Nat.le_of_ble_eq_true rfl⟩ rfl rfl (Nat.le_of_ble_eq_true rfl) dX11_core_12 (fun H locs Z => ?_)
    clear hc13
    exact reI B Z rfl hz h9 dX11_core_15
theorem dX9_shorten_0 : decode cX9_shorten 0 = .ok (.lconst 0, 1) := by decide +kernel
theorem dX9_shorten_1 : decode cX9_shorten 1 = .ok (.lstore_n 1, 1) := by decide +kernel
theorem dX9_shorten_2 : decode cX9_shorten 2 = .ok (.iconst 0, 1) := by decide +kernel
theorem dX9_shorten_3 : decode cX9_shorten 3 = .ok (.istore_n 3, 1) := by decide +kernel
theorem dX9_shorten_4 : decode cX9_shorten 4 = .ok (.iload_n 3, 1) := by decide +kernel
theorem dX9_shorten_5 : decode cX9_shorten 5 = .ok (.aload_n 0, 1) := by decide +kernel
theorem dX9_shorten_6 : decode cX9_shorten 6 = .ok (.getfield 25, 3) := by decide +kernel
theorem dX9_shorten_9 : decode cX9_shorten 9 = .ok (.if_icmp .ge 21, 3) := by decide +kernel
theorem dX9_shorten_12 : decode cX9_shorten 12 = .ok (.lload_n 1, 1) := by decide +kernel
theorem dX9_shorten_13 : decode cX9_shorten 13 = .ok (.aload_n 0, 1) := by decide +kernel
theorem dX9_shorten_14 : decode cX9_shorten 14 = .ok (.getfield 18, 3) := by decide +kernel
theorem dX9_shorten_17 : decode cX9_shorten 17 = .ok (.iload_n 3, 1) := by decide +kernel
theorem dX9_shorten_18 : decode cX9_shorten 18 = .ok (.iaload, 1) := by decide +kernel
theorem dX9_shorten_19 : decode cX9_shorten 19 = .ok (.i2l, 1) := by decide +kernel
theorem dX9_shorten_20 : decode cX9_shorten 20 = .ok (.invokestatic 59, 3) := by decide +kernel
theorem dX9_shorten_23 : decode cX9_shorten 23 = .ok (.lstore_n 1, 1) := by decide +kernel
theorem dX9_shorten_24 : decode cX9_shorten 24 = .ok (.iinc 3 1, 3) := by decide +kernel
theorem dX9_shorten_27 : decode cX9_shorten 27 = .ok (.goto (-23), 3) := by decide +kernel
theorem dX9_shorten_30 : decode cX9_shorten 30 = .ok (.iconst 0, 1) := by decide +kernel
theorem dX9_shorten_31 : decode cX9_shorten 31 = .ok (.istore_n 3, 1) := by decide +kernel
theorem dX9_shorten_32 : decode cX9_shorten 32 = .ok (.iload_n 3, 1) := by decide +kernel
theorem dX9_shorten_33 : decode cX9_shorten 33 = .ok (.aload_n 0, 1) := by decide +kernel
theorem dX9_shorten_34 : decode cX9_shorten 34 = .ok (.getfield 25, 3) := by decide +kernel
theorem dX9_shorten_37 : decode cX9_shorten 37 = .ok (.if_icmp .ge 31, 3) := by decide +kernel
theorem dX9_shorten_40 : decode cX9_shorten 40 = .ok (.lload_n 1, 1) := by decide +kernel
theorem dX9_shorten_41 : decode cX9_shorten 41 = .ok (.lconst 1, 1) := by decide +kernel
theorem dX9_shorten_42 : decode cX9_shorten 42 = .ok (.lcmp, 1) := by decide +kernel
theorem dX9_shorten_43 : decode cX9_shorten 43 = .ok (.ifCond .le 25, 3) := by decide +kernel
theorem dX9_shorten_46 : decode cX9_shorten 46 = .ok (.aload_n 0, 1) := by decide +kernel
theorem dX9_shorten_47 : decode cX9_shorten 47 = .ok (.getfield 18, 3) := by decide +kernel
theorem dX9_shorten_50 : decode cX9_shorten 50 = .ok (.iload_n 3, 1) := by decide +kernel
theorem dX9_shorten_51 : decode cX9_shorten 51 = .ok (.aload_n 0, 1) := by decide +kernel
theorem dX9_shorten_52 : decode cX9_shorten 52 = .ok (.getfield 18, 3) := by decide +kernel
theorem dX9_shorten_55 : decode cX9_shorten 55 = .ok (.iload_n 3, 1) := by decide +kernel
theorem dX9_shorten_56 : decode cX9_shorten 56 = .ok (.iaload, 1) := by decide +kernel
theorem dX9_shorten_57 : decode cX9_shorten 57 = .ok (.i2l, 1) := by decide +kernel
theorem dX9_shorten_58 : decode cX9_shorten 58 = .ok (.lload_n 1, 1) := by decide +kernel
theorem dX9_shorten_59 : decode cX9_shorten 59 = .ok (.ldiv, 1) := by decide +kernel
theorem dX9_shorten_60 : decode cX9_shorten 60 = .ok (.l2i, 1) := by decide +kernel
theorem dX9_shorten_61 : decode cX9_shorten 61 = .ok (.iastore, 1) := by decide +kernel
theorem dX9_shorten_62 : decode cX9_shorten 62 = .ok (.iinc 3 1, 3) := by decide +kernel
theorem dX9_shorten_65 : decode cX9_shorten 65 = .ok (.goto (-33), 3) := by decide +kernel
theorem dX9_shorten_68 : decode cX9_shorten 68 = .ok (.return_, 1) := by decide +kernel
def rm_fWt_shorten : Room := { frames := 2, cells := 0, slots := 0, locals := 90 }
set_option maxHeartbeats 4000000 in
set_option maxRecDepth 100000 in
theorem c_fWt_shorten (l : Launch) (X : eX) (sz : Nat)  (σ : sT) (σz : sT) (h0 : fWt_shorten σ = some σz) : ctV l yX9_shorten cX9_shorten 4 none rm_fWt_shorten [.ref (X.2.1 20)] (wC X) (tC X) (aC X) X sz σ σz := by
  refine ct_of (by decide +kernel) (Nat.le_of_ble_eq_true rfl) ?_
  intro p e s m args below meth c ls hz B hl Z
  have B : Bd p s m args meth c RX9 cX9_shorten 4 none := B
  have hl : lv_has ls 4 [(0, .ref (X.2.1 20))] := hl
  have hx := B.1
  have hb := B.2.1
  unfold fWt_shorten at h0
  refine lv_lconst (v := (0 : Int64)) hx hb dX9_shorten_0 (by decide) ?_
  refine lv_lstore_n (lv' := [(1, .long (0 : Int64)), (0, .ref (X.2.1 20))]) hx hb dX9_shorten_1 rfl hl (by decide) rfl (fun ls hl => ?_)
  refine lv_iconst (v := (0 : Int32)) hx hb dX9_shorten_2 (by decide) ?_
  refine lv_istore_n (lv' := [(3, .int (0 : Int32)), (1, .long (0 : Int64)), (0, .ref (X.2.1 20))]) hx hb dX9_shorten_3 rfl hl (by decide) rfl (fun ls hl => ?_)
  obtain ⟨K4, eK4, h11⟩ := dlt_s h0
  clear h0
  have kK4 : ∀ (x3 : Int64) (H : Heap) (locs : List Loc) (ls : Array Slot), Wd (wC X) (tC X) (aC X) X s σ H locs → lv_has ls 4 [(0, .ref (X.2.1 20)), (1, .long x3)] → K4 x3 = some σz → W p l e rm_fWt_shorten s m args below meth c H locs 0 0 (MQ below (va_Qv (fun u => u = σz) (poW (wC X) (tC X) (aC X) X sz) (aA (aC X) sz)) args s 0 0 (aA (aC X) sz)) (F0 m 30 ls []) := by
    intro x3 H locs ls Z hl h1
    rw [eK4] at h1
    refine lv_iconst (v := (0 : Int32)) hx hb dX9_shorten_30 (by decide) ?_
    refine lv_istore_n (lv' := [(3, .int (0 : Int32)), (0, .ref (X.2.1 20)), (1, .long x3)]) hx hb dX9_shorten_31 rfl hl (by decide) rfl (fun ls hl => ?_)
    have lL32 : ∀ (n : Nat), ∀ (x5 : Int32) (σ6 : sT) (H : Heap) (locs : List Loc) (ls : Array Slot), Wd (wC X) (tC X) (aC X) X s σ6 H locs → lv_has ls 4 [(0, .ref (X.2.1 20)), (1, .long x3), (3, .int x5)] → fWt_shorten_L32 x3 n x5 σ6 = some σz → W p l e rm_fWt_shorten s m args below meth c H locs 0 0 (MQ below (va_Qv (fun u => u = σz) (poW (wC X) (tC X) (aC X) X sz) (aA (aC X) sz)) args s 0 0 (aA (aC X) sz)) (F0 m 32 ls []) := by
      intro n
      induction n with
      | zero =>
        intro x5 σ6 H locs ls Z hl h
        exact nomatch (show (none : Option (sT)) = some _ from h)
      | succ n7 ih20 =>
        intro x5 σ6 H locs ls Z hl h2
        unfold fWt_shorten_L32 at h2
        refine lv_iload_n hx hb dX9_shorten_32 rfl (lv_at hl 2 rfl) ?_
        refine lv_aload_n hx hb dX9_shorten_33 rfl (lv_at hl 0 rfl) ?_
        refine g_20_4 B Z kf_RX9_25 dX9_shorten_34 ?_
        refine lv_icmp_ge (tgt := 68) hx hb dX9_shorten_37 (by decide) (fun c8 => ?_) (fun c8 => ?_)
        · have h3 := dit h2 c8
          clear h2
          exact reV B Z hz h3 dX9_shorten_68
        · have h4 := dif h2 c8
          clear h2
          refine lv_lload_n hx hb dX9_shorten_40 rfl (lv_at hl 1 rfl) ?_
          refine lv_lconst (v := (1 : Int64)) hx hb dX9_shorten_41 (by decide) ?_
          refine W.lcmp hx hb dX9_shorten_42 ?_
          refine lv_if_le (tgt := 68) hx hb dX9_shorten_43 (by decide) (fun c9 => ?_) (fun c9 => ?_)
          · have h5 := dit h4 c9
            clear h4
            exact reV B Z hz h5 dX9_shorten_68
          · have h6 := dif h4 c9
            clear h4
            refine lv_aload_n hx hb dX9_shorten_46 rfl (lv_at hl 0 rfl) ?_
            refine g_20_3 B Z kf_RX9_18 dX9_shorten_47 ?_
            refine lv_iload_n hx hb dX9_shorten_50 rfl (lv_at hl 2 rfl) ?_
            refine lv_aload_n hx hb dX9_shorten_51 rfl (lv_at hl 0 rfl) ?_
            refine g_20_3 B Z kf_RX9_18 dX9_shorten_52 ?_
            refine lv_iload_n hx hb dX9_shorten_55 rfl (lv_at hl 2 rfl) ?_
            obtain ⟨z10, h7⟩ := dck_s h6
            clear h6
            refine ld_23 B Z z10 dX9_shorten_56 ?_
            refine lv_i2l hx hb dX9_shorten_57 rfl ?_
            refine lv_lload_n hx hb dX9_shorten_58 rfl (lv_at hl 1 rfl) ?_
            obtain ⟨z11, h8⟩ := dck_s h7
            clear h7
            refine lv_ldiv hx hb dX9_shorten_59 (okE_s z11) ?_
            refine lv_l2i hx hb dX9_shorten_60 rfl ?_
            obtain ⟨z12, h9⟩ := dck_s h8
            clear h8
            refine st_23 B Z z12 dX9_shorten_61 (fun H locs Z => ?_)
            obtain ⟨σ13, eσ13, h10⟩ := dlt_s h9
            clear h9
            replace Z := Wd.eq eσ13 Z
            clear eσ13
            refine lv_iinc (v := x5 + (1 : Int32)) (lv' := [(3, .int (x5 + (1 : Int32))), (0, .ref (X.2.1 20)), (1, .long x3)]) hx hb dX9_shorten_62 hl (k := 2) rfl (by rfl) (by decide) rfl (fun ls hl => ?_)
            refine lv_goto (tgt := 32) hx hb dX9_shorten_65 (by decide) ?_
            exact ih20 (x5 + (1 : Int32)) σ13 _ _ _ Z (lv_sub hl [1, 2, 0] rfl) h10
    exact lL32 FU (0 : Int32) σ _ _ _ Z (lv_sub hl [1, 2, 0] rfl) h1
  clear eK4
  have lL4 : ∀ (n : Nat), ∀ (x1 : Int64) (x2 : Int32) (H : Heap) (locs : List Loc) (ls : Array Slot), Wd (wC X) (tC X) (aC X) X s σ H locs → lv_has ls 4 [(0, .ref (X.2.1 20)), (1, .long x1), (3, .int x2)] → fWt_shorten_L4 σ K4 n x1 x2 = some σz → W p l e rm_fWt_shorten s m args below meth c H locs 0 0 (MQ below (va_Qv (fun u => u = σz) (poW (wC X) (tC X) (aC X) X sz) (aA (aC X) sz)) args s 0 0 (aA (aC X) sz)) (F0 m 4 ls []) := by
    intro n
    induction n with
    | zero =>
      intro x1 x2 H locs ls Z hl h
      exact nomatch (show (none : Option (sT)) = some _ from h)
    | succ n14 ih4 =>
      intro x1 x2 H locs ls Z hl h12
      unfold fWt_shorten_L4 at h12
      refine lv_iload_n hx hb dX9_shorten_4 rfl (lv_at hl 2 rfl) ?_
      refine lv_aload_n hx hb dX9_shorten_5 rfl (lv_at hl 0 rfl) ?_
      refine g_20_4 B Z kf_RX9_25 dX9_shorten_6 ?_
      refine lv_icmp_ge (tgt := 30) hx hb dX9_shorten_9 (by decide) (fun c15 => ?_) (fun c15 => ?_)
      · have h13 := dit h12 c15
        clear h12
        exact kK4 x1 _ _ _ Z (lv_sub hl [0, 1] rfl) h13
      · have h14 := dif h12 c15
        clear h12
        refine lv_lload_n hx hb dX9_shorten_12 rfl (lv_at hl 1 rfl) ?_
        refine lv_aload_n hx hb dX9_shorten_13 rfl (lv_at hl 0 rfl) ?_
        refine g_20_3 B Z kf_RX9_18 dX9_shorten_14 ?_
        refine lv_iload_n hx hb dX9_shorten_17 rfl (lv_at hl 2 rfl) ?_
        obtain ⟨z16, h15⟩ := dck_s h14
        clear h14
        refine ld_23 B Z z16 dX9_shorten_18 ?_
        refine lv_i2l hx hb dX9_shorten_19 rfl ?_
        obtain ⟨r18, hc16, h16⟩ := db1_s h15
        clear h15
        refine cSN_L [.long x1, .long ((σ.1 23 x2.toNatClampNeg).toInt64)] [] B mx_yX11_gcd (c_fRM_gcd l X _ x1 ((σ.1 23 x2.toNatClampNeg).toInt64) σ r18 hc16) kx_RX9_59 ks_yX11_gcd Z hl rfl rfl ⟨Nat.le_of_ble_eq_true rfl, Nat.le_of_ble_eq_true rfl⟩ rfl rfl (Nat.le_of_ble_eq_true rfl) dX9_shorten_20 (fun H locs Z => ?_)
        clear hc16
        refine lv_lstore_n (lv' := [(1, .long r18), (0, .ref (X.2.1 20)), (3, .int x2)]) hx hb dX9_shorten_23 rfl hl (by decide) rfl (fun ls hl => ?_)
        refine lv_iinc (v := x2 + (1 : Int32)) (lv' := [(3, .int (x2 + (1 : Int32))), (1, .long r18), (0, .ref (X.2.1 20))]) hx hb dX9_shorten_24 hl (k := 2) rfl (by rfl) (by decide) rfl (fun ls hl => ?_)
        refine lv_goto (tgt := 4) hx hb dX9_shorten_27 (by decide) ?_
        exact ih4 r18 (x2 + (1 : Int32)) _ _ _ Z (lv_sub hl [2, 1, 0] rfl) h16
  exact lL4 FU (0 : Int64) (0 : Int32) _ _ _ Z (lv_sub hl [2, 1, 0] rfl) h11
