theorem dX4_keep_0 : decode cX4_keep 0 = .ok (.lload_n 1, 1) := by decide +kernel
theorem dX4_keep_1 : decode cX4_keep 1 = .ok (.lconst 0, 1) := by decide +kernel
theorem dX4_keep_2 : decode cX4_keep 2 = .ok (.lcmp, 1) := by decide +kernel
theorem dX4_keep_3 : decode cX4_keep 3 = .ok (.ifCond .ne 93, 3) := by decide +kernel
theorem dX4_keep_6 : decode cX4_keep 6 = .ok (.lload_n 3, 1) := by decide +kernel
theorem dX4_keep_7 : decode cX4_keep 7 = .ok (.lconst 0, 1) := by decide +kernel
theorem dX4_keep_8 : decode cX4_keep 8 = .ok (.lcmp, 1) := by decide +kernel
theorem dX4_keep_9 : decode cX4_keep 9 = .ok (.ifCond .ne 87, 3) := by decide +kernel
theorem dX4_keep_12 : decode cX4_keep 12 = .ok (.lload 5, 2) := by decide +kernel
theorem dX4_keep_14 : decode cX4_keep 14 = .ok (.lconst 0, 1) := by decide +kernel
theorem dX4_keep_15 : decode cX4_keep 15 = .ok (.lcmp, 1) := by decide +kernel
theorem dX4_keep_16 : decode cX4_keep 16 = .ok (.ifCond .ne 80, 3) := by decide +kernel
theorem dX4_keep_19 : decode cX4_keep 19 = .ok (.iload 9, 2) := by decide +kernel
theorem dX4_keep_21 : decode cX4_keep 21 = .ok (.ifCond .ne 18, 3) := by decide +kernel
theorem dX4_keep_24 : decode cX4_keep 24 = .ok (.lload 7, 2) := by decide +kernel
theorem dX4_keep_26 : decode cX4_keep 26 = .ok (.lconst 0, 1) := by decide +kernel
theorem dX4_keep_27 : decode cX4_keep 27 = .ok (.lcmp, 1) := by decide +kernel
theorem dX4_keep_28 : decode cX4_keep 28 = .ok (.ifCond .le 7, 3) := by decide +kernel
theorem dX4_keep_31 : decode cX4_keep 31 = .ok (.iconst 1, 1) := by decide +kernel
theorem dX4_keep_32 : decode cX4_keep 32 = .ok (.goto 40, 3) := by decide +kernel
theorem dX4_keep_35 : decode cX4_keep 35 = .ok (.iconst 0, 1) := by decide +kernel
theorem dX4_keep_36 : decode cX4_keep 36 = .ok (.goto 36, 3) := by decide +kernel
theorem dX4_keep_39 : decode cX4_keep 39 = .ok (.iload 9, 2) := by decide +kernel
theorem dX4_keep_41 : decode cX4_keep 41 = .ok (.iconst 1, 1) := by decide +kernel
theorem dX4_keep_42 : decode cX4_keep 42 = .ok (.if_icmp .ne 18, 3) := by decide +kernel
theorem dX4_keep_45 : decode cX4_keep 45 = .ok (.lload 7, 2) := by decide +kernel
theorem dX4_keep_47 : decode cX4_keep 47 = .ok (.lconst 0, 1) := by decide +kernel
theorem dX4_keep_48 : decode cX4_keep 48 = .ok (.lcmp, 1) := by decide +kernel
theorem dX4_keep_49 : decode cX4_keep 49 = .ok (.ifCond .lt 7, 3) := by decide +kernel
theorem dX4_keep_52 : decode cX4_keep 52 = .ok (.iconst 1, 1) := by decide +kernel
theorem dX4_keep_53 : decode cX4_keep 53 = .ok (.goto 19, 3) := by decide +kernel
theorem dX4_keep_56 : decode cX4_keep 56 = .ok (.iconst 0, 1) := by decide +kernel
theorem dX4_keep_57 : decode cX4_keep 57 = .ok (.goto 15, 3) := by decide +kernel
theorem dX4_keep_60 : decode cX4_keep 60 = .ok (.lload 7, 2) := by decide +kernel
theorem dX4_keep_62 : decode cX4_keep 62 = .ok (.lconst 0, 1) := by decide +kernel
theorem dX4_keep_63 : decode cX4_keep 63 = .ok (.lcmp, 1) := by decide +kernel
theorem dX4_keep_64 : decode cX4_keep 64 = .ok (.ifCond .ne 7, 3) := by decide +kernel
theorem dX4_keep_67 : decode cX4_keep 67 = .ok (.iconst 1, 1) := by decide +kernel
theorem dX4_keep_68 : decode cX4_keep 68 = .ok (.goto 4, 3) := by decide +kernel
theorem dX4_keep_71 : decode cX4_keep 71 = .ok (.iconst 0, 1) := by decide +kernel
theorem dX4_keep_72 : decode cX4_keep 72 = .ok (.istore 10, 2) := by decide +kernel
theorem dX4_keep_74 : decode cX4_keep 74 = .ok (.aload_n 0, 1) := by decide +kernel
theorem dX4_keep_75 : decode cX4_keep 75 = .ok (.aload_n 0, 1) := by decide +kernel
theorem dX4_keep_76 : decode cX4_keep 76 = .ok (.getfield 29, 3) := by decide +kernel
theorem dX4_keep_79 : decode cX4_keep 79 = .ok (.ifCond .ne 8, 3) := by decide +kernel
theorem dX4_keep_82 : decode cX4_keep 82 = .ok (.iload 10, 2) := by decide +kernel
theorem dX4_keep_84 : decode cX4_keep 84 = .ok (.ifCond .ne 7, 3) := by decide +kernel
theorem dX4_keep_87 : decode cX4_keep 87 = .ok (.iconst 1, 1) := by decide +kernel
theorem dX4_keep_88 : decode cX4_keep 88 = .ok (.goto 4, 3) := by decide +kernel
theorem dX4_keep_91 : decode cX4_keep 91 = .ok (.iconst 0, 1) := by decide +kernel
theorem dX4_keep_92 : decode cX4_keep 92 = .ok (.putfield 29, 3) := by decide +kernel
theorem dX4_keep_95 : decode cX4_keep 95 = .ok (.return_, 1) := by decide +kernel
theorem dX4_keep_96 : decode cX4_keep 96 = .ok (.aload_n 0, 1) := by decide +kernel
theorem dX4_keep_97 : decode cX4_keep 97 = .ok (.getfield 25, 3) := by decide +kernel
theorem dX4_keep_100 : decode cX4_keep 100 = .ok (.aload_n 0, 1) := by decide +kernel
theorem dX4_keep_101 : decode cX4_keep 101 = .ok (.getfield 21, 3) := by decide +kernel
theorem dX4_keep_104 : decode cX4_keep 104 = .ok (.arraylength, 1) := by decide +kernel
theorem dX4_keep_105 : decode cX4_keep 105 = .ok (.if_icmp .lt 4, 3) := by decide +kernel
theorem dX4_keep_108 : decode cX4_keep 108 = .ok (.return_, 1) := by decide +kernel
theorem dX4_keep_109 : decode cX4_keep 109 = .ok (.aload_n 0, 1) := by decide +kernel
theorem dX4_keep_110 : decode cX4_keep 110 = .ok (.getfield 25, 3) := by decide +kernel
theorem dX4_keep_113 : decode cX4_keep 113 = .ok (.iconst 4, 1) := by decide +kernel
theorem dX4_keep_114 : decode cX4_keep 114 = .ok (.imul, 1) := by decide +kernel
theorem dX4_keep_115 : decode cX4_keep 115 = .ok (.istore 10, 2) := by decide +kernel
theorem dX4_keep_117 : decode cX4_keep 117 = .ok (.aload_n 0, 1) := by decide +kernel
theorem dX4_keep_118 : decode cX4_keep 118 = .ok (.getfield 17, 3) := by decide +kernel
theorem dX4_keep_121 : decode cX4_keep 121 = .ok (.iload 10, 2) := by decide +kernel
theorem dX4_keep_123 : decode cX4_keep 123 = .ok (.lload_n 1, 1) := by decide +kernel
theorem dX4_keep_124 : decode cX4_keep 124 = .ok (.lastore, 1) := by decide +kernel
theorem dX4_keep_125 : decode cX4_keep 125 = .ok (.aload_n 0, 1) := by decide +kernel
theorem dX4_keep_126 : decode cX4_keep 126 = .ok (.getfield 17, 3) := by decide +kernel
theorem dX4_keep_129 : decode cX4_keep 129 = .ok (.iload 10, 2) := by decide +kernel
theorem dX4_keep_131 : decode cX4_keep 131 = .ok (.iconst 1, 1) := by decide +kernel
theorem dX4_keep_132 : decode cX4_keep 132 = .ok (.iadd, 1) := by decide +kernel
theorem dX4_keep_133 : decode cX4_keep 133 = .ok (.lload_n 3, 1) := by decide +kernel
theorem dX4_keep_134 : decode cX4_keep 134 = .ok (.lastore, 1) := by decide +kernel
theorem dX4_keep_135 : decode cX4_keep 135 = .ok (.aload_n 0, 1) := by decide +kernel
theorem dX4_keep_136 : decode cX4_keep 136 = .ok (.getfield 17, 3) := by decide +kernel
theorem dX4_keep_139 : decode cX4_keep 139 = .ok (.iload 10, 2) := by decide +kernel
theorem dX4_keep_141 : decode cX4_keep 141 = .ok (.iconst 2, 1) := by decide +kernel
theorem dX4_keep_142 : decode cX4_keep 142 = .ok (.iadd, 1) := by decide +kernel
theorem dX4_keep_143 : decode cX4_keep 143 = .ok (.lload 5, 2) := by decide +kernel
theorem dX4_keep_145 : decode cX4_keep 145 = .ok (.lastore, 1) := by decide +kernel
theorem dX4_keep_146 : decode cX4_keep 146 = .ok (.aload_n 0, 1) := by decide +kernel
theorem dX4_keep_147 : decode cX4_keep 147 = .ok (.getfield 17, 3) := by decide +kernel
theorem dX4_keep_150 : decode cX4_keep 150 = .ok (.iload 10, 2) := by decide +kernel
theorem dX4_keep_152 : decode cX4_keep 152 = .ok (.iconst 3, 1) := by decide +kernel
theorem dX4_keep_153 : decode cX4_keep 153 = .ok (.iadd, 1) := by decide +kernel
theorem dX4_keep_154 : decode cX4_keep 154 = .ok (.lload 7, 2) := by decide +kernel
theorem dX4_keep_156 : decode cX4_keep 156 = .ok (.lastore, 1) := by decide +kernel
theorem dX4_keep_157 : decode cX4_keep 157 = .ok (.aload_n 0, 1) := by decide +kernel
theorem dX4_keep_158 : decode cX4_keep 158 = .ok (.getfield 21, 3) := by decide +kernel
theorem dX4_keep_161 : decode cX4_keep 161 = .ok (.aload_n 0, 1) := by decide +kernel
theorem dX4_keep_162 : decode cX4_keep 162 = .ok (.getfield 25, 3) := by decide +kernel
theorem dX4_keep_165 : decode cX4_keep 165 = .ok (.iload 9, 2) := by decide +kernel
theorem dX4_keep_167 : decode cX4_keep 167 = .ok (.iastore, 1) := by decide +kernel
theorem dX4_keep_168 : decode cX4_keep 168 = .ok (.aload_n 0, 1) := by decide +kernel
theorem dX4_keep_169 : decode cX4_keep 169 = .ok (.dup, 1) := by decide +kernel
theorem dX4_keep_170 : decode cX4_keep 170 = .ok (.getfield 25, 3) := by decide +kernel
theorem dX4_keep_173 : decode cX4_keep 173 = .ok (.iconst 1, 1) := by decide +kernel
theorem dX4_keep_174 : decode cX4_keep 174 = .ok (.iadd, 1) := by decide +kernel
theorem dX4_keep_175 : decode cX4_keep 175 = .ok (.putfield 25, 3) := by decide +kernel
theorem dX4_keep_178 : decode cX4_keep 178 = .ok (.return_, 1) := by decide +kernel
def rm_fRw_keep_6 : Room := { frames := 1, cells := 0, slots := 0, locals := 60 }
set_option maxHeartbeats 4000000 in
set_option maxRecDepth 100000 in
theorem c_fRw_keep_6 (l : Launch) (X : eX) (sz : Nat) (a1 : Int64) (a2 : Int64) (a3 : Int64) (a4 : Int64) (a5 : Int32) (σ : sT) (σz : sT) (h0 : fRw_keep 6 7 8 52 13 a1 a2 a3 a4 a5 σ = some σz) : ctV l yX4_keep cX4_keep 11 none rm_fRw_keep_6 [.ref (X.2.1 6), .long a1, .long a2, .long a3, .long a4, .int a5] (wC X) (tC X) (aC X) X sz σ σz := by
  refine ct_of (by decide +kernel) (Nat.le_of_ble_eq_true rfl) ?_
  intro p e s m args below meth c ls hz B hl Z
  have B : Bd p s m args meth c RX4 cX4_keep 11 none := B
  have hl : lv_has ls 11 [(0, .ref (X.2.1 6)), (1, .long a1), (3, .long a2), (5, .long a3), (7, .long a4), (9, .int a5)] := hl
  have hx := B.1
  have hb := B.2.1
  unfold fRw_keep at h0
  refine lv_lload_n hx hb dX4_keep_0 rfl (lv_at hl 1 rfl) ?_
  refine lv_lconst (v := (0 : Int64)) hx hb dX4_keep_1 (by decide) ?_
  refine W.lcmp hx hb dX4_keep_2 ?_
  obtain ⟨J1, eJ1, h16⟩ := dlt_s h0
  clear h0
  have kJ1 : ∀ (H : Heap) (locs : List Loc) (ls : Array Slot), Wd (wC X) (tC X) (aC X) X s σ H locs → lv_has ls 11 [(0, .ref (X.2.1 6)), (1, .long a1), (3, .long a2), (5, .long a3), (7, .long a4), (9, .int a5)] → J1 () = some σz → W p l e rm_fRw_keep_6 s m args below meth c H locs 0 0 (MQ below (va_Qv (fun u => u = σz) (poW (wC X) (tC X) (aC X) X sz) (aA (aC X) sz)) args s 0 0 (aA (aC X) sz)) (F0 m 96 ls []) := by
    intro  H locs ls Z hl h1
    rw [eJ1] at h1
    refine lv_aload_n hx hb dX4_keep_96 rfl (lv_at hl 0 rfl) ?_
    refine g_6_2 B Z kf_RX4_25 dX4_keep_97 ?_
    refine lv_aload_n hx hb dX4_keep_100 rfl (lv_at hl 0 rfl) ?_
    refine g_6_1 B Z kf_RX4_21 dX4_keep_101 ?_
    refine len_8 B Z dX4_keep_104 ?_
    refine lv_icmp_lt (tgt := 109) hx hb dX4_keep_105 (by decide) (fun c2 => ?_) (fun c2 => ?_)
    · have h2 := dit h1 c2
      clear h1
      refine lv_aload_n hx hb dX4_keep_109 rfl (lv_at hl 0 rfl) ?_
      refine g_6_2 B Z kf_RX4_25 dX4_keep_110 ?_
      refine lv_iconst (v := (4 : Int32)) hx hb dX4_keep_113 (by decide) ?_
      refine lv_imul hx hb dX4_keep_114 ?_
      refine lv_topi (fun x3 ex3 => ?_)
      have h3 := dlt_e ex3 h2
      clear ex3 h2
      refine lv_istore (lv' := [(10, .int x3), (0, .ref (X.2.1 6)), (1, .long a1), (3, .long a2), (5, .long a3), (7, .long a4), (9, .int a5)]) hx hb dX4_keep_115 hl (by decide) rfl (fun ls hl => ?_)
      refine lv_aload_n hx hb dX4_keep_117 rfl (lv_at hl 1 rfl) ?_
      refine g_6_0 B Z kf_RX4_17 dX4_keep_118 ?_
      refine lv_iload hx hb dX4_keep_121 (lv_at hl 0 rfl) ?_
      refine lv_lload_n hx hb dX4_keep_123 rfl (lv_at hl 2 rfl) ?_
      obtain ⟨z4, h4⟩ := dck_s h3
      clear h3
      refine st_7 B Z z4 dX4_keep_124 (fun H locs Z => ?_)
      obtain ⟨σ5, eσ5, h5⟩ := dlt_s h4
      clear h4
      replace Z := Wd.eq eσ5 Z
      clear eσ5
      refine lv_aload_n hx hb dX4_keep_125 rfl (lv_at hl 1 rfl) ?_
      refine g_6_0 B Z kf_RX4_17 dX4_keep_126 ?_
      refine lv_iload hx hb dX4_keep_129 (lv_at hl 0 rfl) ?_
      refine lv_iconst (v := (1 : Int32)) hx hb dX4_keep_131 (by decide) ?_
      refine lv_iadd hx hb dX4_keep_132 ?_
      refine lv_lload_n hx hb dX4_keep_133 rfl (lv_at hl 3 rfl) ?_
      obtain ⟨z6, h6⟩ := dck_s h5
      clear h5
      refine st_7 B Z z6 dX4_keep_134 (fun H locs Z => ?_)
      obtain ⟨σ7, eσ7, h7⟩ := dlt_s h6
      clear h6
      replace Z := Wd.eq eσ7 Z
      clear eσ7
      refine lv_aload_n hx hb dX4_keep_135 rfl (lv_at hl 1 rfl) ?_
      refine g_6_0 B Z kf_RX4_17 dX4_keep_136 ?_
      refine lv_iload hx hb dX4_keep_139 (lv_at hl 0 rfl) ?_
      refine lv_iconst (v := (2 : Int32)) hx hb dX4_keep_141 (by decide) ?_
      refine lv_iadd hx hb dX4_keep_142 ?_
      refine lv_lload hx hb dX4_keep_143 (lv_at hl 4 rfl) ?_
      obtain ⟨z8, h8⟩ := dck_s h7
      clear h7
      refine st_7 B Z z8 dX4_keep_145 (fun H locs Z => ?_)
      obtain ⟨σ9, eσ9, h9⟩ := dlt_s h8
      clear h8
      replace Z := Wd.eq eσ9 Z
      clear eσ9
      refine lv_aload_n hx hb dX4_keep_146 rfl (lv_at hl 1 rfl) ?_
      refine g_6_0 B Z kf_RX4_17 dX4_keep_147 ?_
      refine lv_iload hx hb dX4_keep_150 (lv_at hl 0 rfl) ?_
      refine lv_iconst (v := (3 : Int32)) hx hb dX4_keep_152 (by decide) ?_
      refine lv_iadd hx hb dX4_keep_153 ?_
      refine lv_lload hx hb dX4_keep_154 (lv_at hl 5 rfl) ?_
      obtain ⟨z10, h10⟩ := dck_s h9
      clear h9
      refine st_7 B Z z10 dX4_keep_156 (fun H locs Z => ?_)
      obtain ⟨σ11, eσ11, h11⟩ := dlt_s h10
      clear h10
      replace Z := Wd.eq eσ11 Z
      clear eσ11
      refine lv_aload_n hx hb dX4_keep_157 rfl (lv_at hl 1 rfl) ?_
      refine g_6_1 B Z kf_RX4_21 dX4_keep_158 ?_
      refine lv_aload_n hx hb dX4_keep_161 rfl (lv_at hl 1 rfl) ?_
      refine g_6_2 B Z kf_RX4_25 dX4_keep_162 ?_
      refine lv_iload hx hb dX4_keep_165 (lv_at hl 6 rfl) ?_
      obtain ⟨z12, h12⟩ := dck_s h11
      clear h11
      refine st_8 B Z z12 dX4_keep_167 (fun H locs Z => ?_)
      obtain ⟨σ13, eσ13, h13⟩ := dlt_s h12
      clear h12
      replace Z := Wd.eq eσ13 Z
      clear eσ13
      refine lv_aload_n hx hb dX4_keep_168 rfl (lv_at hl 1 rfl) ?_
      refine lv_dup hx hb dX4_keep_169 rfl ?_
      refine g_6_2 B Z kf_RX4_25 dX4_keep_170 ?_
      refine lv_iconst (v := (1 : Int32)) hx hb dX4_keep_173 (by decide) ?_
      refine lv_iadd hx hb dX4_keep_174 ?_
      refine s_6_2 B Z kf_RX4_25 dX4_keep_175 (fun H locs Z => ?_)
      obtain ⟨σ14, eσ14, h14⟩ := dlt_s h13
      clear h13
      replace Z := Wd.eq eσ14 Z
      clear eσ14
      exact reV B Z hz h14 dX4_keep_178
    · have h15 := dif h1 c2
      clear h1
      exact reV B Z hz h15 dX4_keep_108
  clear eJ1
  refine lv_if_ne (tgt := 96) hx hb dX4_keep_3 (by decide) (fun c15 => ?_) (fun c15 => ?_)
  · have h17 := dif h16 c15
    clear h16
    exact kJ1  _ _ _ Z (lv_sub hl [0, 1, 2, 3, 4, 5] rfl) h17
  · have h18 := dit h16 c15
    clear h16
    refine lv_lload_n hx hb dX4_keep_6 rfl (lv_at hl 2 rfl) ?_
    refine lv_lconst (v := (0 : Int64)) hx hb dX4_keep_7 (by decide) ?_
    refine W.lcmp hx hb dX4_keep_8 ?_
    refine lv_if_ne (tgt := 96) hx hb dX4_keep_9 (by decide) (fun c16 => ?_) (fun c16 => ?_)
    · have h19 := dif h18 c16
      clear h18
      exact kJ1  _ _ _ Z (lv_sub hl [0, 1, 2, 3, 4, 5] rfl) h19
    · have h20 := dit h18 c16
      clear h18
      refine lv_lload hx hb dX4_keep_12 (lv_at hl 3 rfl) ?_
      refine lv_lconst (v := (0 : Int64)) hx hb dX4_keep_14 (by decide) ?_
      refine W.lcmp hx hb dX4_keep_15 ?_
      refine lv_if_ne (tgt := 96) hx hb dX4_keep_16 (by decide) (fun c17 => ?_) (fun c17 => ?_)
      · have h21 := dif h20 c17
        clear h20
        exact kJ1  _ _ _ Z (lv_sub hl [0, 1, 2, 3, 4, 5] rfl) h21
      · have h22 := dit h20 c17
        clear h20
        refine lv_iload hx hb dX4_keep_19 (lv_at hl 5 rfl) ?_
        obtain ⟨J19, eJ19, h34⟩ := dlt_s h22
        clear h22
        have kJ19 : ∀ (x18 : Int32) (H : Heap) (locs : List Loc) (ls : Array Slot), Wd (wC X) (tC X) (aC X) X s σ H locs → lv_has ls 11 [(0, .ref (X.2.1 6))] → J19 x18 = some σz → W p l e rm_fRw_keep_6 s m args below meth c H locs 0 0 (MQ below (va_Qv (fun u => u = σz) (poW (wC X) (tC X) (aC X) X sz) (aA (aC X) sz)) args s 0 0 (aA (aC X) sz)) (F0 m 72 ls [.int x18]) := by
          intro x18 H locs ls Z hl h23
          rw [eJ19] at h23
          refine lv_istore (lv' := [(10, .int x18), (0, .ref (X.2.1 6))]) hx hb dX4_keep_72 hl (by decide) rfl (fun ls hl => ?_)
          refine lv_aload_n hx hb dX4_keep_74 rfl (lv_at hl 1 rfl) ?_
          refine lv_aload_n hx hb dX4_keep_75 rfl (lv_at hl 1 rfl) ?_
          refine g_6_3 B Z kf_RX4_29 dX4_keep_76 ?_
          obtain ⟨J21, eJ21, h27⟩ := dlt_s h23
          clear h23
          have kJ21 : ∀ (x20 : Int32) (H : Heap) (locs : List Loc) (ls : Array Slot), Wd (wC X) (tC X) (aC X) X s σ H locs → lv_has ls 11 [] → J21 x20 = some σz → W p l e rm_fRw_keep_6 s m args below meth c H locs 0 0 (MQ below (va_Qv (fun u => u = σz) (poW (wC X) (tC X) (aC X) X sz) (aA (aC X) sz)) args s 0 0 (aA (aC X) sz)) (F0 m 92 ls [.int x20, .ref (X.2.1 6)]) := by
            intro x20 H locs ls Z hl h24
            rw [eJ21] at h24
            obtain ⟨z22, h25⟩ := dck_s h24
            clear h24
            refine s_6_3 B Z z22 kf_RX4_29 dX4_keep_92 (fun H locs Z => ?_)
            obtain ⟨σ23, eσ23, h26⟩ := dlt_s h25
            clear h25
            replace Z := Wd.eq eσ23 Z
            clear eσ23
            exact reV B Z hz h26 dX4_keep_95
          clear eJ21
          obtain ⟨J24, eJ24, h29⟩ := dlt_s h27
          clear h27
          have kJ24 : ∀ (H : Heap) (locs : List Loc) (ls : Array Slot), Wd (wC X) (tC X) (aC X) X s σ H locs → lv_has ls 11 [] → J24 () = some σz → W p l e rm_fRw_keep_6 s m args below meth c H locs 0 0 (MQ below (va_Qv (fun u => u = σz) (poW (wC X) (tC X) (aC X) X sz) (aA (aC X) sz)) args s 0 0 (aA (aC X) sz)) (F0 m 87 ls [.ref (X.2.1 6)]) := by
            intro  H locs ls Z hl h28
            rw [eJ24] at h28
            refine lv_iconst (v := (1 : Int32)) hx hb dX4_keep_87 (by decide) ?_
            refine lv_goto (tgt := 92) hx hb dX4_keep_88 (by decide) ?_
            exact kJ21 (1 : Int32) _ _ _ Z (lv_sub hl [] rfl) h28
          clear eJ24
          refine lv_if_ne (tgt := 87) hx hb dX4_keep_79 (by decide) (fun c25 => ?_) (fun c25 => ?_)
          · have h30 := dif h29 c25
            clear h29
            exact kJ24  _ _ _ Z (lv_sub hl [] rfl) h30
          · have h31 := dit h29 c25
            clear h29
            refine lv_iload hx hb dX4_keep_82 (lv_at hl 0 rfl) ?_
            refine lv_if_ne (tgt := 91) hx hb dX4_keep_84 (by decide) (fun c26 => ?_) (fun c26 => ?_)
            · have h32 := dif h31 c26
              clear h31
              refine lv_iconst (v := (0 : Int32)) hx hb dX4_keep_91 (by decide) ?_
              exact kJ21 (0 : Int32) _ _ _ Z (lv_sub hl [] rfl) h32
            · have h33 := dit h31 c26
              clear h31
              exact kJ24  _ _ _ Z (lv_sub hl [] rfl) h33
        clear eJ19
        refine lv_if_ne (tgt := 39) hx hb dX4_keep_21 (by decide) (fun c27 => ?_) (fun c27 => ?_)
        · have h35 := dif h34 c27
          clear h34
          refine lv_iload hx hb dX4_keep_39 (lv_at hl 5 rfl) ?_
          refine lv_iconst (v := (1 : Int32)) hx hb dX4_keep_41 (by decide) ?_
          refine lv_icmp_ne (tgt := 60) hx hb dX4_keep_42 (by decide) (fun c28 => ?_) (fun c28 => ?_)
          · have h36 := dif h35 c28
            clear h35
            refine lv_lload hx hb dX4_keep_60 (lv_at hl 4 rfl) ?_
            refine lv_lconst (v := (0 : Int64)) hx hb dX4_keep_62 (by decide) ?_
            refine W.lcmp hx hb dX4_keep_63 ?_
            refine lv_if_ne (tgt := 71) hx hb dX4_keep_64 (by decide) (fun c29 => ?_) (fun c29 => ?_)
            · have h37 := dif h36 c29
              clear h36
              refine lv_iconst (v := (0 : Int32)) hx hb dX4_keep_71 (by decide) ?_
              exact kJ19 (0 : Int32) _ _ _ Z (lv_sub hl [0] rfl) h37
            · have h38 := dit h36 c29
              clear h36
              refine lv_iconst (v := (1 : Int32)) hx hb dX4_keep_67 (by decide) ?_
              refine lv_goto (tgt := 72) hx hb dX4_keep_68 (by decide) ?_
              exact kJ19 (1 : Int32) _ _ _ Z (lv_sub hl [0] rfl) h38
          · have h39 := dit h35 c28
            clear h35
            refine lv_lload hx hb dX4_keep_45 (lv_at hl 4 rfl) ?_
            refine lv_lconst (v := (0 : Int64)) hx hb dX4_keep_47 (by decide) ?_
            refine W.lcmp hx hb dX4_keep_48 ?_
            refine lv_if_lt (tgt := 56) hx hb dX4_keep_49 (by decide) (fun c30 => ?_) (fun c30 => ?_)
            · have h40 := dit h39 c30
              clear h39
              refine lv_iconst (v := (0 : Int32)) hx hb dX4_keep_56 (by decide) ?_
              refine lv_goto (tgt := 72) hx hb dX4_keep_57 (by decide) ?_
              exact kJ19 (0 : Int32) _ _ _ Z (lv_sub hl [0] rfl) h40
            · have h41 := dif h39 c30
              clear h39
              refine lv_iconst (v := (1 : Int32)) hx hb dX4_keep_52 (by decide) ?_
              refine lv_goto (tgt := 72) hx hb dX4_keep_53 (by decide) ?_
              exact kJ19 (1 : Int32) _ _ _ Z (lv_sub hl [0] rfl) h41
        · have h42 := dit h34 c27
          clear h34
          refine lv_lload hx hb dX4_keep_24 (lv_at hl 4 rfl) ?_
          refine lv_lconst (v := (0 : Int64)) hx hb dX4_keep_26 (by decide) ?_
          refine W.lcmp hx hb dX4_keep_27 ?_
          refine lv_if_le (tgt := 35) hx hb dX4_keep_28 (by decide) (fun c31 => ?_) (fun c31 => ?_)
          · have h43 := dit h42 c31
            clear h42
            refine lv_iconst (v := (0 : Int32)) hx hb dX4_keep_35 (by decide) ?_
            refine lv_goto (tgt := 72) hx hb dX4_keep_36 (by decide) ?_
            exact kJ19 (0 : Int32) _ _ _ Z (lv_sub hl [0] rfl) h43
          · have h44 := dif h42 c31
            clear h42
            refine lv_iconst (v := (1 : Int32)) hx hb dX4_keep_31 (by decide) ?_
            refine lv_goto (tgt := 72) hx hb dX4_keep_32 (by decide) ?_
            exact kJ19 (1 : Int32) _ _ _ Z (lv_sub hl [0] rfl) h44
theorem dX7_keep_0 : decode cX7_keep 0 = .ok (.aload_n 0, 1) := by decide +kernel
theorem dX7_keep_1 : decode cX7_keep 1 = .ok (.getfield 16, 3) := by decide +kernel
theorem dX7_keep_4 : decode cX7_keep 4 = .ok (.iload_n 2, 1) := by decide +kernel
theorem dX7_keep_5 : decode cX7_keep 5 = .ok (.aload_n 0, 1) := by decide +kernel
theorem dX7_keep_6 : decode cX7_keep 6 = .ok (.getfield 50, 3) := by decide +kernel
theorem dX7_keep_9 : decode cX7_keep 9 = .ok (.iload_n 1, 1) := by decide +kernel
theorem dX7_keep_10 : decode cX7_keep 10 = .ok (.iconst 0, 1) := by decide +kernel
theorem dX7_keep_11 : decode cX7_keep 11 = .ok (.invokevirtual 78, 3) := by decide +kernel
theorem dX7_keep_14 : decode cX7_keep 14 = .ok (.imul, 1) := by decide +kernel
theorem dX7_keep_15 : decode cX7_keep 15 = .ok (.i2l, 1) := by decide +kernel
theorem dX7_keep_16 : decode cX7_keep 16 = .ok (.iload_n 2, 1) := by decide +kernel
theorem dX7_keep_17 : decode cX7_keep 17 = .ok (.aload_n 0, 1) := by decide +kernel
theorem dX7_keep_18 : decode cX7_keep 18 = .ok (.getfield 50, 3) := by decide +kernel
theorem dX7_keep_21 : decode cX7_keep 21 = .ok (.iload_n 1, 1) := by decide +kernel
theorem dX7_keep_22 : decode cX7_keep 22 = .ok (.iconst 1, 1) := by decide +kernel
theorem dX7_keep_23 : decode cX7_keep 23 = .ok (.invokevirtual 78, 3) := by decide +kernel
theorem dX7_keep_26 : decode cX7_keep 26 = .ok (.imul, 1) := by decide +kernel
theorem dX7_keep_27 : decode cX7_keep 27 = .ok (.i2l, 1) := by decide +kernel
theorem dX7_keep_28 : decode cX7_keep 28 = .ok (.iload_n 2, 1) := by decide +kernel
theorem dX7_keep_29 : decode cX7_keep 29 = .ok (.aload_n 0, 1) := by decide +kernel
theorem dX7_keep_30 : decode cX7_keep 30 = .ok (.getfield 50, 3) := by decide +kernel
theorem dX7_keep_33 : decode cX7_keep 33 = .ok (.iload_n 1, 1) := by decide +kernel
theorem dX7_keep_34 : decode cX7_keep 34 = .ok (.iconst 2, 1) := by decide +kernel
theorem dX7_keep_35 : decode cX7_keep 35 = .ok (.invokevirtual 78, 3) := by decide +kernel
theorem dX7_keep_38 : decode cX7_keep 38 = .ok (.imul, 1) := by decide +kernel
theorem dX7_keep_39 : decode cX7_keep 39 = .ok (.i2l, 1) := by decide +kernel
theorem dX7_keep_40 : decode cX7_keep 40 = .ok (.iload_n 2, 1) := by decide +kernel
theorem dX7_keep_41 : decode cX7_keep 41 = .ok (.aload_n 0, 1) := by decide +kernel
theorem dX7_keep_42 : decode cX7_keep 42 = .ok (.getfield 50, 3) := by decide +kernel
theorem dX7_keep_45 : decode cX7_keep 45 = .ok (.iload_n 1, 1) := by decide +kernel
theorem dX7_keep_46 : decode cX7_keep 46 = .ok (.iconst 4, 1) := by decide +kernel
theorem dX7_keep_47 : decode cX7_keep 47 = .ok (.invokevirtual 78, 3) := by decide +kernel
theorem dX7_keep_50 : decode cX7_keep 50 = .ok (.imul, 1) := by decide +kernel
theorem dX7_keep_51 : decode cX7_keep 51 = .ok (.i2l, 1) := by decide +kernel
theorem dX7_keep_52 : decode cX7_keep 52 = .ok (.iload_n 3, 1) := by decide +kernel
theorem dX7_keep_53 : decode cX7_keep 53 = .ok (.invokevirtual 87, 3) := by decide +kernel
theorem dX7_keep_56 : decode cX7_keep 56 = .ok (.return_, 1) := by decide +kernel
def rm_fSo_keep : Room := { frames := 3, cells := 0, slots := 0, locals := 104 }
set_option maxHeartbeats 4000000 in
set_option maxRecDepth 100000 in
theorem c_fSo_keep (l : Launch) (X : eX) (sz : Nat) (a1 : Int32) (a2 : Int32) (a3 : Int32) (σ : sT) (σz : sT) (h0 : fSo_keep a1 a2 a3 σ = some σz) : ctV l yX7_keep cX7_keep 4 none rm_fSo_keep [.ref (X.2.1 5), .int a1, .int a2, .int a3] (wC X) (tC X) (aC X) X sz σ σz := by
  refine ct_of (by decide +kernel) (Nat.le_of_ble_eq_true rfl) ?_
  intro p e s m args below meth c ls hz B hl Z
  have B : Bd p s m args meth c RX7 cX7_keep 4 none := B
  have hl : lv_has ls 4 [(0, .ref (X.2.1 5)), (1, .int a1), (2, .int a2), (3, .int a3)] := hl
  have hx := B.1
  have hb := B.2.1
  unfold fSo_keep at h0
  refine lv_aload_n hx hb dX7_keep_0 rfl (lv_at hl 0 rfl) ?_
  refine g_5_1 B Z kf_RX7_16 dX7_keep_1 ?_
  refine lv_iload_n hx hb dX7_keep_4 rfl (lv_at hl 2 rfl) ?_
  refine lv_aload_n hx hb dX7_keep_5 rfl (lv_at hl 0 rfl) ?_
  refine g_5_0 B Z kf_RX7_50 dX7_keep_6 ?_
  refine lv_iload_n hx hb dX7_keep_9 rfl (lv_at hl 1 rfl) ?_
  refine lv_iconst (v := (0 : Int32)) hx hb dX7_keep_10 (by decide) ?_
  obtain ⟨r2, hc0, h1⟩ := db1_s h0
  clear h0
  refine cV_I [.int a1, .int (0 : Int32)] [.int a2, .ref (X.2.1 6)] B mx_yX0_get (c_fBk_get l X _ a1 (0 : Int32) σ r2 hc0) kl_RX7_78 mi_yX0_get (rv_1 _ _) hcl_0 Z hl rfl rfl ⟨Nat.le_of_ble_eq_true rfl, Nat.le_of_ble_eq_true rfl⟩ rfl rfl (Nat.le_of_ble_eq_true rfl) dX7_keep_11 (fun H locs Z => ?_)
  clear hc0
  refine lv_imul hx hb dX7_keep_14 ?_
  refine lv_i2l hx hb dX7_keep_15 rfl ?_
  refine lv_iload_n hx hb dX7_keep_16 rfl (lv_at hl 2 rfl) ?_
  refine lv_aload_n hx hb dX7_keep_17 rfl (lv_at hl 0 rfl) ?_
  refine g_5_0 B Z kf_RX7_50 dX7_keep_18 ?_
  refine lv_iload_n hx hb dX7_keep_21 rfl (lv_at hl 1 rfl) ?_
  refine lv_iconst (v := (1 : Int32)) hx hb dX7_keep_22 (by decide) ?_
  obtain ⟨r4, hc2, h2⟩ := db1_s h1
  clear h1
  refine cV_I [.int a1, .int (1 : Int32)] [.int a2, .long ((a2 * r2).toInt64), .ref (X.2.1 6)] B mx_yX0_get (c_fBk_get l X _ a1 (1 : Int32) σ r4 hc2) kl_RX7_78 mi_yX0_get (rv_1 _ _) hcl_0 Z hl rfl rfl ⟨Nat.le_of_ble_eq_true rfl, Nat.le_of_ble_eq_true rfl⟩ rfl rfl (Nat.le_of_ble_eq_true rfl) dX7_keep_23 (fun H locs Z => ?_)
  clear hc2
  refine lv_imul hx hb dX7_keep_26 ?_
  refine lv_i2l hx hb dX7_keep_27 rfl ?_
  refine lv_iload_n hx hb dX7_keep_28 rfl (lv_at hl 2 rfl) ?_
  refine lv_aload_n hx hb dX7_keep_29 rfl (lv_at hl 0 rfl) ?_
  refine g_5_0 B Z kf_RX7_50 dX7_keep_30 ?_
  refine lv_iload_n hx hb dX7_keep_33 rfl (lv_at hl 1 rfl) ?_
  refine lv_iconst (v := (2 : Int32)) hx hb dX7_keep_34 (by decide) ?_
  obtain ⟨r6, hc4, h3⟩ := db1_s h2
  clear h2
  refine cV_I [.int a1, .int (2 : Int32)] [.int a2, .long ((a2 * r4).toInt64), .long ((a2 * r2).toInt64), .ref (X.2.1 6)] B mx_yX0_get (c_fBk_get l X _ a1 (2 : Int32) σ r6 hc4) kl_RX7_78 mi_yX0_get (rv_1 _ _) hcl_0 Z hl rfl rfl ⟨Nat.le_of_ble_eq_true rfl, Nat.le_of_ble_eq_true rfl⟩ rfl rfl (Nat.le_of_ble_eq_true rfl) dX7_keep_35 (fun H locs Z => ?_)
  clear hc4
  refine lv_imul hx hb dX7_keep_38 ?_
  refine lv_i2l hx hb dX7_keep_39 rfl ?_
  refine lv_iload_n hx hb dX7_keep_40 rfl (lv_at hl 2 rfl) ?_
  refine lv_aload_n hx hb dX7_keep_41 rfl (lv_at hl 0 rfl) ?_
  refine g_5_0 B Z kf_RX7_50 dX7_keep_42 ?_
  refine lv_iload_n hx hb dX7_keep_45 rfl (lv_at hl 1 rfl) ?_
  refine lv_iconst (v := (4 : Int32)) hx hb dX7_keep_46 (by decide) ?_
  obtain ⟨r8, hc6, h4⟩ := db1_s h3
  clear h3
  refine cV_I [.int a1, .int (4 : Int32)] [.int a2, .long ((a2 * r6).toInt64), .long ((a2 * r4).toInt64), .long ((a2 * r2).toInt64), .ref (X.2.1 6)] B mx_yX0_get (c_fBk_get l X _ a1 (4 : Int32) σ r8 hc6) kl_RX7_78 mi_yX0_get (rv_1 _ _) hcl_0 Z hl rfl rfl ⟨Nat.le_of_ble_eq_true rfl, Nat.le_of_ble_eq_true rfl⟩ rfl rfl (Nat.le_of_ble_eq_true rfl) dX7_keep_47 (fun H locs Z => ?_)
  clear hc6
  refine lv_imul hx hb dX7_keep_50 ?_
  refine lv_i2l hx hb dX7_keep_51 rfl ?_
  refine lv_iload_n hx hb dX7_keep_52 rfl (lv_at hl 3 rfl) ?_
  obtain ⟨σ10, hc8, h5⟩ := db1_s h4
  clear h4
  refine cV_V [.long ((a2 * r2).toInt64), .long ((a2 * r4).toInt64), .long ((a2 * r6).toInt64), .long ((a2 * r8).toInt64), .int a3] [] B mx_yX4_keep (c_fRw_keep_6 l X _ ((a2 * r2).toInt64) ((a2 * r4).toInt64) ((a2 * r6).toInt64) ((a2 * r8).toInt64) a3 σ σ10 hc8) kl_RX7_87 mi_yX4_keep (rv_6 _ _) hcl_4 Z hl rfl rfl ⟨Nat.le_of_ble_eq_true rfl, Nat.le_of_ble_eq_true rfl⟩ rfl rfl (Nat.le_of_ble_eq_true rfl) dX7_keep_53 (fun H locs Z => ?_)
  clear hc8
  exact reV B Z hz h5 dX7_keep_56
theorem dX7_load_0 : decode cX7_load 0 = .ok (.aload_n 0, 1) := by decide +kernel
theorem dX7_load_1 : decode cX7_load 1 = .ok (.getfield 16, 3) := by decide +kernel
theorem dX7_load_4 : decode cX7_load 4 = .ok (.invokevirtual 54, 3) := by decide +kernel
theorem dX7_load_7 : decode cX7_load 7 = .ok (.iconst 0, 1) := by decide +kernel
theorem dX7_load_8 : decode cX7_load 8 = .ok (.istore_n 2, 1) := by decide +kernel
theorem dX7_load_9 : decode cX7_load 9 = .ok (.iload_n 2, 1) := by decide +kernel
theorem dX7_load_10 : decode cX7_load 10 = .ok (.bipush 12, 2) := by decide +kernel
theorem dX7_load_12 : decode cX7_load 12 = .ok (.if_icmp .ge 32, 3) := by decide +kernel
theorem dX7_load_15 : decode cX7_load 15 = .ok (.iload_n 1, 1) := by decide +kernel
theorem dX7_load_16 : decode cX7_load 16 = .ok (.iload_n 2, 1) := by decide +kernel
theorem dX7_load_17 : decode cX7_load 17 = .ok (.invokestatic 74, 3) := by decide +kernel
theorem dX7_load_20 : decode cX7_load 20 = .ok (.ifCond .eq 18, 3) := by decide +kernel
theorem dX7_load_23 : decode cX7_load 23 = .ok (.aload_n 0, 1) := by decide +kernel
theorem dX7_load_24 : decode cX7_load 24 = .ok (.iload_n 2, 1) := by decide +kernel
theorem dX7_load_25 : decode cX7_load 25 = .ok (.iconst 1, 1) := by decide +kernel
theorem dX7_load_26 : decode cX7_load 26 = .ok (.aload_n 0, 1) := by decide +kernel
theorem dX7_load_27 : decode cX7_load 27 = .ok (.getfield 50, 3) := by decide +kernel
theorem dX7_load_30 : decode cX7_load 30 = .ok (.iload_n 2, 1) := by decide +kernel
theorem dX7_load_31 : decode cX7_load 31 = .ok (.iconst 3, 1) := by decide +kernel
theorem dX7_load_32 : decode cX7_load 32 = .ok (.invokevirtual 78, 3) := by decide +kernel
theorem dX7_load_35 : decode cX7_load 35 = .ok (.invokevirtual 83, 3) := by decide +kernel
theorem dX7_load_38 : decode cX7_load 38 = .ok (.iinc 2 1, 3) := by decide +kernel
theorem dX7_load_41 : decode cX7_load 41 = .ok (.goto (-32), 3) := by decide +kernel
theorem dX7_load_44 : decode cX7_load 44 = .ok (.return_, 1) := by decide +kernel
def rm_fSo_load : Room := { frames := 4, cells := 0, slots := 0, locals := 127 }
set_option maxHeartbeats 4000000 in
set_option maxRecDepth 100000 in
theorem c_fSo_load (l : Launch) (X : eX) (sz : Nat) (a1 : Int32) (σ : sT) (σz : sT) (h0 : fSo_load a1 σ = some σz) : ctV l yX7_load cX7_load 3 none rm_fSo_load [.ref (X.2.1 5), .int a1] (wC X) (tC X) (aC X) X sz σ σz := by
  refine ct_of (by decide +kernel) (Nat.le_of_ble_eq_true rfl) ?_
  intro p e s m args below meth c ls hz B hl Z
  have B : Bd p s m args meth c RX7 cX7_load 3 none := B
  have hl : lv_has ls 3 [(0, .ref (X.2.1 5)), (1, .int a1)] := hl
  have hx := B.1
  have hb := B.2.1
  unfold fSo_load at h0
  refine lv_aload_n hx hb dX7_load_0 rfl (lv_at hl 0 rfl) ?_
  refine g_5_1 B Z kf_RX7_16 dX7_load_1 ?_
  obtain ⟨σ2, hc0, h1⟩ := db1_s h0
  clear h0
  refine cV_V [] [] B mx_yX4_empty (c_fRw_empty_6 l X _ σ σ2 hc0) kl_RX7_54 mi_yX4_empty (rv_6 _ _) hcl_4 Z hl rfl rfl ⟨Nat.le_of_ble_eq_true rfl, Nat.le_of_ble_eq_true rfl⟩ rfl rfl (Nat.le_of_ble_eq_true rfl) dX7_load_4 (fun H locs Z => ?_)
  clear hc0
  refine lv_iconst (v := (0 : Int32)) hx hb dX7_load_7 (by decide) ?_
  refine lv_istore_n (lv' := [(2, .int (0 : Int32)), (0, .ref (X.2.1 5)), (1, .int a1)]) hx hb dX7_load_8 rfl hl (by decide) rfl (fun ls hl => ?_)
  have lL9 : ∀ (n : Nat), ∀ (x3 : Int32) (σ4 : sT) (H : Heap) (locs : List Loc) (ls : Array Slot), Wd (wC X) (tC X) (aC X) X s σ4 H locs → lv_has ls 3 [(0, .ref (X.2.1 5)), (1, .int a1), (2, .int x3)] → fSo_load_L9 a1 n x3 σ4 = some σz → W p l e rm_fSo_load s m args below meth c H locs 0 0 (MQ below (va_Qv (fun u => u = σz) (poW (wC X) (tC X) (aC X) X sz) (aA (aC X) sz)) args s 0 0 (aA (aC X) sz)) (F0 m 9 ls []) := by
    intro n
    induction n with
    | zero =>
      intro x3 σ4 H locs ls Z hl h
      exact nomatch (show (none : Option (sT)) = some _ from h)
    | succ n5 ih5 =>
      intro x3 σ4 H locs ls Z hl h2
      unfold fSo_load_L9 at h2
      refine lv_iload_n hx hb dX7_load_9 rfl (lv_at hl 2 rfl) ?_
      refine lv_bipush (v := (12 : Int32)) hx hb dX7_load_10 (by decide) ?_
      refine lv_icmp_ge (tgt := 44) hx hb dX7_load_12 (by decide) (fun c6 => ?_) (fun c6 => ?_)
      · have h3 := dit h2 c6
        clear h2
        exact reV B Z hz h3 dX7_load_44
      · have h4 := dif h2 c6
        clear h2
        refine lv_iload_n hx hb dX7_load_15 rfl (lv_at hl 1 rfl) ?_
        refine lv_iload_n hx hb dX7_load_16 rfl (lv_at hl 2 rfl) ?_
        obtain ⟨r8, hc6, h5⟩ := db1_s h4
        clear h4
        refine cSN_I [.int a1, .int x3] [] B mx_yX11_isIn (c_fRM_isIn l X _ a1 x3 σ4 r8 hc6) kx_RX7_74 ks_yX11_isIn Z hl rfl rfl ⟨Nat.le_of_ble_eq_true rfl, Nat.le_of_ble_eq_true rfl⟩ rfl rfl (Nat.le_of_ble_eq_true rfl) dX7_load_17 (fun H locs Z => ?_)
        clear hc6
        refine lv_if_eq (tgt := 38) hx hb dX7_load_20 (by decide) (fun c9 => ?_) (fun c9 => ?_)
        · have h6 := dit h5 c9
          clear h5
          refine lv_iinc (v := x3 + (1 : Int32)) (lv' := [(2, .int (x3 + (1 : Int32))), (0, .ref (X.2.1 5)), (1, .int a1)]) hx hb dX7_load_38 hl (k := 2) rfl (by rfl) (by decide) rfl (fun ls hl => ?_)
          refine lv_goto (tgt := 9) hx hb dX7_load_41 (by decide) ?_
          exact ih5 (x3 + (1 : Int32)) σ4 _ _ _ Z (lv_sub hl [1, 2, 0] rfl) h6
        · have h7 := dif h5 c9
          clear h5
          refine lv_aload_n hx hb dX7_load_23 rfl (lv_at hl 0 rfl) ?_
          refine lv_iload_n hx hb dX7_load_24 rfl (lv_at hl 2 rfl) ?_
          refine lv_iconst (v := (1 : Int32)) hx hb dX7_load_25 (by decide) ?_
          refine lv_aload_n hx hb dX7_load_26 rfl (lv_at hl 0 rfl) ?_
          refine g_5_0 B Z kf_RX7_50 dX7_load_27 ?_
          refine lv_iload_n hx hb dX7_load_30 rfl (lv_at hl 2 rfl) ?_
          refine lv_iconst (v := (3 : Int32)) hx hb dX7_load_31 (by decide) ?_
          obtain ⟨r11, hc9, h8⟩ := db1_s h7
          clear h7
          refine cV_I [.int x3, .int (3 : Int32)] [.int (1 : Int32), .int x3, .ref (X.2.1 5)] B mx_yX0_get (c_fBk_get l X _ x3 (3 : Int32) σ4 r11 hc9) kl_RX7_78 mi_yX0_get (rv_1 _ _) hcl_0 Z hl rfl rfl ⟨Nat.le_of_ble_eq_true rfl, Nat.le_of_ble_eq_true rfl⟩ rfl rfl (Nat.le_of_ble_eq_true rfl) dX7_load_32 (fun H locs Z => ?_)
          clear hc9
          obtain ⟨σ13, hc11, h9⟩ := db1_s h8
          clear h8
          refine cV_V [.int x3, .int (1 : Int32), .int r11] [] B mx_yX7_keep (c_fSo_keep l X _ x3 (1 : Int32) r11 σ4 σ13 hc11) kl_RX7_83 mi_yX7_keep (rv_5 _ _) hcl_7 Z hl rfl rfl ⟨Nat.le_of_ble_eq_true rfl, Nat.le_of_ble_eq_true rfl⟩ rfl rfl (Nat.le_of_ble_eq_true rfl) dX7_load_35 (fun H locs Z => ?_)
          clear hc11
          refine lv_iinc (v := x3 + (1 : Int32)) (lv' := [(2, .int (x3 + (1 : Int32))), (0, .ref (X.2.1 5)), (1, .int a1)]) hx hb dX7_load_38 hl (k := 2) rfl (by rfl) (by decide) rfl (fun ls hl => ?_)
          refine lv_goto (tgt := 9) hx hb dX7_load_41 (by decide) ?_
          exact ih5 (x3 + (1 : Int32)) σ13 _ _ _ Z (lv_sub hl [1, 2, 0] rfl) h9
  exact lL9 FU (0 : Int32) σ2 _ _ _ Z (lv_sub hl [1, 2, 0] rfl) h1
theorem dX8_reset_0 : decode cX8_reset 0 = .ok (.aload_n 0, 1) := by decide +kernel
theorem dX8_reset_1 : decode cX8_reset 1 = .ok (.lconst 0, 1) := by decide +kernel
theorem dX8_reset_2 : decode cX8_reset 2 = .ok (.putfield 9, 3) := by decide +kernel
theorem dX8_reset_5 : decode cX8_reset 5 = .ok (.aload_n 0, 1) := by decide +kernel
theorem dX8_reset_6 : decode cX8_reset 6 = .ok (.lconst 0, 1) := by decide +kernel
theorem dX8_reset_7 : decode cX8_reset 7 = .ok (.putfield 15, 3) := by decide +kernel
theorem dX8_reset_10 : decode cX8_reset 10 = .ok (.return_, 1) := by decide +kernel
def rm_fSp_reset : Room := { frames := 1, cells := 0, slots := 0, locals := 60 }
set_option maxHeartbeats 4000000 in
set_option maxRecDepth 100000 in
theorem c_fSp_reset (l : Launch) (X : eX) (sz : Nat)  (σ : sT) (σz : sT) (h0 : fSp_reset σ = some σz) : ctV l yX8_reset cX8_reset 1 none rm_fSp_reset [.ref (X.2.1 15)] (wC X) (tC X) (aC X) X sz σ σz := by
  refine ct_of (by decide +kernel) (Nat.le_of_ble_eq_true rfl) ?_
  intro p e s m args below meth c ls hz B hl Z
  have B : Bd p s m args meth c RX8 cX8_reset 1 none := B
  have hl : lv_has ls 1 [(0, .ref (X.2.1 15))] := hl
  have hx := B.1
  have hb := B.2.1
  unfold fSp_reset at h0
  refine lv_aload_n hx hb dX8_reset_0 rfl (lv_at hl 0 rfl) ?_
  refine lv_lconst (v := (0 : Int64)) hx hb dX8_reset_1 (by decide) ?_
  refine s_15_1 B Z kf_RX8_9 dX8_reset_2 (fun H locs Z => ?_)
  obtain ⟨σ1, eσ1, h1⟩ := dlt_s h0
  clear h0
  replace Z := Wd.eq eσ1 Z
  clear eσ1
  refine lv_aload_n hx hb dX8_reset_5 rfl (lv_at hl 0 rfl) ?_
  refine lv_lconst (v := (0 : Int64)) hx hb dX8_reset_6 (by decide) ?_
  refine s_15_4 B Z kf_RX8_15 dX8_reset_7 (fun H locs Z => ?_)
  obtain ⟨σ2, eσ2, h2⟩ := dlt_s h1
  clear h1
  replace Z := Wd.eq eσ2 Z
  clear eσ2
  exact reV B Z hz h2 dX8_reset_10
def rm_fRw_empty_9 : Room := { frames := 1, cells := 0, slots := 0, locals := 60 }
set_option maxHeartbeats 4000000 in
set_option maxRecDepth 100000 in
theorem c_fRw_empty_9 (l : Launch) (X : eX) (sz : Nat)  (σ : sT) (σz : sT) (h0 : fRw_empty 9 10 11 168 42 σ = some σz) : ctV l yX4_empty cX4_empty 1 none rm_fRw_empty_9 [.ref (X.2.1 9)] (wC X) (tC X) (aC X) X sz σ σz := by
  refine ct_of (by decide +kernel) (Nat.le_of_ble_eq_true rfl) ?_
  intro p e s m args below meth c ls hz B hl Z
  have B : Bd p s m args meth c RX4 cX4_empty 1 none := B
  have hl : lv_has ls 1 [(0, .ref (X.2.1 9))] := hl
  have hx := B.1
  have hb := B.2.1
  unfold fRw_empty at h0
  refine lv_aload_n hx hb dX4_empty_0 rfl (lv_at hl 0 rfl) ?_
  refine lv_iconst (v := (0 : Int32)) hx hb dX4_empty_1 (by decide) ?_
  refine s_9_2 B Z kf_RX4_25 dX4_empty_2 (fun H locs Z => ?_)
  obtain ⟨σ1, eσ1, h1⟩ := dlt_s h0
  clear h0
  replace Z := Wd.eq eσ1 Z
  clear eσ1
  refine lv_aload_n hx hb dX4_empty_5 rfl (lv_at hl 0 rfl) ?_
  refine lv_iconst (v := (0 : Int32)) hx hb dX4_empty_6 (by decide) ?_
  refine s_9_3 B Z (by decide) kf_RX4_29 dX4_empty_7 (fun H locs Z => ?_)
  obtain ⟨σ2, eσ2, h2⟩ := dlt_s h1
  clear h1
  replace Z := Wd.eq eσ2 Z
  clear eσ2
  exact reV B Z hz h2 dX4_empty_10
theorem dX4_equalityWith_0 : decode cX4_equalityWith 0 = .ok (.iconst 0, 1) := by decide +kernel
theorem dX4_equalityWith_1 : decode cX4_equalityWith 1 = .ok (.istore_n 2, 1) := by decide +kernel
theorem dX4_equalityWith_2 : decode cX4_equalityWith 2 = .ok (.iload_n 2, 1) := by decide +kernel
theorem dX4_equalityWith_3 : decode cX4_equalityWith 3 = .ok (.aload_n 0, 1) := by decide +kernel
theorem dX4_equalityWith_4 : decode cX4_equalityWith 4 = .ok (.getfield 25, 3) := by decide +kernel
theorem dX4_equalityWith_7 : decode cX4_equalityWith 7 = .ok (.if_icmp .ge 36, 3) := by decide +kernel
theorem dX4_equalityWith_10 : decode cX4_equalityWith 10 = .ok (.aload_n 0, 1) := by decide +kernel
theorem dX4_equalityWith_11 : decode cX4_equalityWith 11 = .ok (.getfield 21, 3) := by decide +kernel
theorem dX4_equalityWith_14 : decode cX4_equalityWith 14 = .ok (.iload_n 2, 1) := by decide +kernel
theorem dX4_equalityWith_15 : decode cX4_equalityWith 15 = .ok (.iaload, 1) := by decide +kernel
theorem dX4_equalityWith_16 : decode cX4_equalityWith 16 = .ok (.iconst 2, 1) := by decide +kernel
theorem dX4_equalityWith_17 : decode cX4_equalityWith 17 = .ok (.if_icmp .ne 20, 3) := by decide +kernel
theorem dX4_equalityWith_20 : decode cX4_equalityWith 20 = .ok (.aload_n 0, 1) := by decide +kernel
theorem dX4_equalityWith_21 : decode cX4_equalityWith 21 = .ok (.getfield 17, 3) := by decide +kernel
theorem dX4_equalityWith_24 : decode cX4_equalityWith 24 = .ok (.iload_n 2, 1) := by decide +kernel
theorem dX4_equalityWith_25 : decode cX4_equalityWith 25 = .ok (.iconst 4, 1) := by decide +kernel
theorem dX4_equalityWith_26 : decode cX4_equalityWith 26 = .ok (.imul, 1) := by decide +kernel
theorem dX4_equalityWith_27 : decode cX4_equalityWith 27 = .ok (.iload_n 1, 1) := by decide +kernel
theorem dX4_equalityWith_28 : decode cX4_equalityWith 28 = .ok (.iadd, 1) := by decide +kernel
theorem dX4_equalityWith_29 : decode cX4_equalityWith 29 = .ok (.laload, 1) := by decide +kernel
theorem dX4_equalityWith_30 : decode cX4_equalityWith 30 = .ok (.lconst 0, 1) := by decide +kernel
theorem dX4_equalityWith_31 : decode cX4_equalityWith 31 = .ok (.lcmp, 1) := by decide +kernel
theorem dX4_equalityWith_32 : decode cX4_equalityWith 32 = .ok (.ifCond .eq 5, 3) := by decide +kernel
theorem dX4_equalityWith_35 : decode cX4_equalityWith 35 = .ok (.iload_n 2, 1) := by decide +kernel
theorem dX4_equalityWith_36 : decode cX4_equalityWith 36 = .ok (.ireturn, 1) := by decide +kernel
theorem dX4_equalityWith_37 : decode cX4_equalityWith 37 = .ok (.iinc 2 1, 3) := by decide +kernel
theorem dX4_equalityWith_40 : decode cX4_equalityWith 40 = .ok (.goto (-38), 3) := by decide +kernel
theorem dX4_equalityWith_43 : decode cX4_equalityWith 43 = .ok (.iconst (-1), 1) := by decide +kernel
theorem dX4_equalityWith_44 : decode cX4_equalityWith 44 = .ok (.ireturn, 1) := by decide +kernel
def rm_fRw_equalityWith_6 : Room := { frames := 1, cells := 0, slots := 0, locals := 60 }
set_option maxHeartbeats 4000000 in
set_option maxRecDepth 100000 in
theorem c_fRw_equalityWith_6 (l : Launch) (X : eX) (sz : Nat) (a1 : Int32) (σ : sT) (rz : Int32) (h0 : fRw_equalityWith 6 7 8 52 13 a1 σ = some rz) : ctI l yX4_equalityWith cX4_equalityWith 3 (some .int) rm_fRw_equalityWith_6 [.ref (X.2.1 6), .int a1] (wC X) (tC X) (aC X) X sz σ rz σ := by
  refine ct_of (by decide +kernel) (Nat.le_of_ble_eq_true rfl) ?_
  intro p e s m args below meth c ls hz B hl Z
  have B : Bd p s m args meth c RX4 cX4_equalityWith 3 (some .int) := B
  have hl : lv_has ls 3 [(0, .ref (X.2.1 6)), (1, .int a1)] := hl
  have hx := B.1
  have hb := B.2.1
  unfold fRw_equalityWith at h0
  refine lv_iconst (v := (0 : Int32)) hx hb dX4_equalityWith_0 (by decide) ?_
  refine lv_istore_n (lv' := [(2, .int (0 : Int32)), (0, .ref (X.2.1 6)), (1, .int a1)]) hx hb dX4_equalityWith_1 rfl hl (by decide) rfl (fun ls hl => ?_)
  have lL2 : ∀ (n : Nat), ∀ (x1 : Int32) (H : Heap) (locs : List Loc) (ls : Array Slot), Wd (wC X) (tC X) (aC X) X s σ H locs → lv_has ls 3 [(0, .ref (X.2.1 6)), (1, .int a1), (2, .int x1)] → fRw_equalityWith_L2 6 7 8 52 13 a1 σ n x1 = some rz → W p l e rm_fRw_equalityWith_6 s m args below meth c H locs 0 0 (MQ below (va_Qi (fun a u => a = rz ∧ u = σ) (poW (wC X) (tC X) (aC X) X sz) (aA (aC X) sz)) args s 0 0 (aA (aC X) sz)) (F0 m 2 ls []) := by
    intro n
    induction n with
    | zero =>
      intro x1 H locs ls Z hl h
      exact nomatch (show (none : Option (Int32)) = some _ from h)
    | succ n2 ih2 =>
      intro x1 H locs ls Z hl h1
      unfold fRw_equalityWith_L2 at h1
      refine lv_iload_n hx hb dX4_equalityWith_2 rfl (lv_at hl 2 rfl) ?_
      refine lv_aload_n hx hb dX4_equalityWith_3 rfl (lv_at hl 0 rfl) ?_
      refine g_6_2 B Z kf_RX4_25 dX4_equalityWith_4 ?_
      refine lv_icmp_ge (tgt := 43) hx hb dX4_equalityWith_7 (by decide) (fun c3 => ?_) (fun c3 => ?_)
      · have h2 := dit h1 c3
        clear h1
        refine lv_iconst (v := (-1 : Int32)) hx hb dX4_equalityWith_43 (by decide) ?_
        exact reI B Z rfl hz (congrArg (Option.map (fun q => (q, σ))) h2) dX4_equalityWith_44
      · have h3 := dif h1 c3
        clear h1
        refine lv_aload_n hx hb dX4_equalityWith_10 rfl (lv_at hl 0 rfl) ?_
        refine g_6_1 B Z kf_RX4_21 dX4_equalityWith_11 ?_
        refine lv_iload_n hx hb dX4_equalityWith_14 rfl (lv_at hl 2 rfl) ?_
        obtain ⟨z4, h4⟩ := dck_s h3
        clear h3
        refine ld_8 B Z z4 dX4_equalityWith_15 ?_
        refine lv_iconst (v := (2 : Int32)) hx hb dX4_equalityWith_16 (by decide) ?_
        refine lv_icmp_ne (tgt := 37) hx hb dX4_equalityWith_17 (by decide) (fun c5 => ?_) (fun c5 => ?_)
        · have h5 := dif h4 c5
          clear h4
          refine lv_iinc (v := x1 + (1 : Int32)) (lv' := [(2, .int (x1 + (1 : Int32))), (0, .ref (X.2.1 6)), (1, .int a1)]) hx hb dX4_equalityWith_37 hl (k := 2) rfl (by rfl) (by decide) rfl (fun ls hl => ?_)
          refine lv_goto (tgt := 2) hx hb dX4_equalityWith_40 (by decide) ?_
          exact ih2 (x1 + (1 : Int32)) _ _ _ Z (lv_sub hl [1, 2, 0] rfl) h5
        · have h6 := dit h4 c5
          clear h4
          refine lv_aload_n hx hb dX4_equalityWith_20 rfl (lv_at hl 0 rfl) ?_
          refine g_6_0 B Z kf_RX4_17 dX4_equalityWith_21 ?_
          refine lv_iload_n hx hb dX4_equalityWith_24 rfl (lv_at hl 2 rfl) ?_
          refine lv_iconst (v := (4 : Int32)) hx hb dX4_equalityWith_25 (by decide) ?_
          refine lv_imul hx hb dX4_equalityWith_26 ?_
          refine lv_iload_n hx hb dX4_equalityWith_27 rfl (lv_at hl 1 rfl) ?_
          refine lv_iadd hx hb dX4_equalityWith_28 ?_
          obtain ⟨z6, h7⟩ := dck_s h6
          clear h6
          refine ld_7 B Z z6 dX4_equalityWith_29 ?_
          refine lv_lconst (v := (0 : Int64)) hx hb dX4_equalityWith_30 (by decide) ?_
          refine W.lcmp hx hb dX4_equalityWith_31 ?_
          refine lv_if_eq (tgt := 37) hx hb dX4_equalityWith_32 (by decide) (fun c7 => ?_) (fun c7 => ?_)
          · have h8 := dit h7 c7
            clear h7
            refine lv_iinc (v := x1 + (1 : Int32)) (lv' := [(2, .int (x1 + (1 : Int32))), (0, .ref (X.2.1 6)), (1, .int a1)]) hx hb dX4_equalityWith_37 hl (k := 2) rfl (by rfl) (by decide) rfl (fun ls hl => ?_)
            refine lv_goto (tgt := 2) hx hb dX4_equalityWith_40 (by decide) ?_
            exact ih2 (x1 + (1 : Int32)) _ _ _ Z (lv_sub hl [1, 2, 0] rfl) h8
          · have h9 := dif h7 c7
            clear h7
            refine lv_iload_n hx hb dX4_equalityWith_35 rfl (lv_at hl 2 rfl) ?_
            exact reI B Z rfl hz (congrArg (Option.map (fun q => (q, σ))) h9) dX4_equalityWith_36
  exact lL2 FU (0 : Int32) _ _ _ Z (lv_sub hl [1, 2, 0] rfl) h0
def rm_fRw_keep_9 : Room := { frames := 1, cells := 0, slots := 0, locals := 60 }
set_option maxHeartbeats 4000000 in
set_option maxRecDepth 100000 in
theorem c_fRw_keep_9 (l : Launch) (X : eX) (sz : Nat) (a1 : Int64) (a2 : Int64) (a3 : Int64) (a4 : Int64) (a5 : Int32) (σ : sT) (σz : sT) (h0 : fRw_keep 9 10 11 168 42 a1 a2 a3 a4 a5 σ = some σz) : ctV l yX4_keep cX4_keep 11 none rm_fRw_keep_9 [.ref (X.2.1 9), .long a1, .long a2, .long a3, .long a4, .int a5] (wC X) (tC X) (aC X) X sz σ σz := by
  refine ct_of (by decide +kernel) (Nat.le_of_ble_eq_true rfl) ?_
  intro p e s m args below meth c ls hz B hl Z
  have B : Bd p s m args meth c RX4 cX4_keep 11 none := B
  have hl : lv_has ls 11 [(0, .ref (X.2.1 9)), (1, .long a1), (3, .long a2), (5, .long a3), (7, .long a4), (9, .int a5)] := hl
  have hx := B.1
  have hb := B.2.1
  unfold fRw_keep at h0
  refine lv_lload_n hx hb dX4_keep_0 rfl (lv_at hl 1 rfl) ?_
  refine lv_lconst (v := (0 : Int64)) hx hb dX4_keep_1 (by decide) ?_
  refine W.lcmp hx hb dX4_keep_2 ?_
  obtain ⟨J1, eJ1, h16⟩ := dlt_s h0
  clear h0
  have kJ1 : ∀ (H : Heap) (locs : List Loc) (ls : Array Slot), Wd (wC X) (tC X) (aC X) X s σ H locs → lv_has ls 11 [(0, .ref (X.2.1 9)), (1, .long a1), (3, .long a2), (5, .long a3), (7, .long a4), (9, .int a5)] → J1 () = some σz → W p l e rm_fRw_keep_9 s m args below meth c H locs 0 0 (MQ below (va_Qv (fun u => u = σz) (poW (wC X) (tC X) (aC X) X sz) (aA (aC X) sz)) args s 0 0 (aA (aC X) sz)) (F0 m 96 ls []) := by
    intro  H locs ls Z hl h1
    rw [eJ1] at h1
    refine lv_aload_n hx hb dX4_keep_96 rfl (lv_at hl 0 rfl) ?_
    refine g_9_2 B Z kf_RX4_25 dX4_keep_97 ?_
    refine lv_aload_n hx hb dX4_keep_100 rfl (lv_at hl 0 rfl) ?_
    refine g_9_1 B Z kf_RX4_21 dX4_keep_101 ?_
    refine len_11 B Z dX4_keep_104 ?_
    refine lv_icmp_lt (tgt := 109) hx hb dX4_keep_105 (by decide) (fun c2 => ?_) (fun c2 => ?_)
    · have h2 := dit h1 c2
      clear h1
      refine lv_aload_n hx hb dX4_keep_109 rfl (lv_at hl 0 rfl) ?_
      refine g_9_2 B Z kf_RX4_25 dX4_keep_110 ?_
      refine lv_iconst (v := (4 : Int32)) hx hb dX4_keep_113 (by decide) ?_
      refine lv_imul hx hb dX4_keep_114 ?_
      refine lv_topi (fun x3 ex3 => ?_)
      have h3 := dlt_e ex3 h2
      clear ex3 h2
      refine lv_istore (lv' := [(10, .int x3), (0, .ref (X.2.1 9)), (1, .long a1), (3, .long a2), (5, .long a3), (7, .long a4), (9, .int a5)]) hx hb dX4_keep_115 hl (by decide) rfl (fun ls hl => ?_)
      refine lv_aload_n hx hb dX4_keep_117 rfl (lv_at hl 1 rfl) ?_
      refine g_9_0 B Z kf_RX4_17 dX4_keep_118 ?_
      refine lv_iload hx hb dX4_keep_121 (lv_at hl 0 rfl) ?_
      refine lv_lload_n hx hb dX4_keep_123 rfl (lv_at hl 2 rfl) ?_
      obtain ⟨z4, h4⟩ := dck_s h3
      clear h3
      refine st_10 B Z z4 dX4_keep_124 (fun H locs Z => ?_)
      obtain ⟨σ5, eσ5, h5⟩ := dlt_s h4
      clear h4
      replace Z := Wd.eq eσ5 Z
      clear eσ5
      refine lv_aload_n hx hb dX4_keep_125 rfl (lv_at hl 1 rfl) ?_
      refine g_9_0 B Z kf_RX4_17 dX4_keep_126 ?_
      refine lv_iload hx hb dX4_keep_129 (lv_at hl 0 rfl) ?_
      refine lv_iconst (v := (1 : Int32)) hx hb dX4_keep_131 (by decide) ?_
      refine lv_iadd hx hb dX4_keep_132 ?_
      refine lv_lload_n hx hb dX4_keep_133 rfl (lv_at hl 3 rfl) ?_
      obtain ⟨z6, h6⟩ := dck_s h5
      clear h5
      refine st_10 B Z z6 dX4_keep_134 (fun H locs Z => ?_)
      obtain ⟨σ7, eσ7, h7⟩ := dlt_s h6
      clear h6
      replace Z := Wd.eq eσ7 Z
      clear eσ7
      refine lv_aload_n hx hb dX4_keep_135 rfl (lv_at hl 1 rfl) ?_
      refine g_9_0 B Z kf_RX4_17 dX4_keep_136 ?_
      refine lv_iload hx hb dX4_keep_139 (lv_at hl 0 rfl) ?_
      refine lv_iconst (v := (2 : Int32)) hx hb dX4_keep_141 (by decide) ?_
      refine lv_iadd hx hb dX4_keep_142 ?_
      refine lv_lload hx hb dX4_keep_143 (lv_at hl 4 rfl) ?_
      obtain ⟨z8, h8⟩ := dck_s h7
      clear h7
      refine st_10 B Z z8 dX4_keep_145 (fun H locs Z => ?_)
      obtain ⟨σ9, eσ9, h9⟩ := dlt_s h8
      clear h8
      replace Z := Wd.eq eσ9 Z
      clear eσ9
      refine lv_aload_n hx hb dX4_keep_146 rfl (lv_at hl 1 rfl) ?_
      refine g_9_0 B Z kf_RX4_17 dX4_keep_147 ?_
      refine lv_iload hx hb dX4_keep_150 (lv_at hl 0 rfl) ?_
      refine lv_iconst (v := (3 : Int32)) hx hb dX4_keep_152 (by decide) ?_
      refine lv_iadd hx hb dX4_keep_153 ?_
      refine lv_lload hx hb dX4_keep_154 (lv_at hl 5 rfl) ?_
      obtain ⟨z10, h10⟩ := dck_s h9
      clear h9
      refine st_10 B Z z10 dX4_keep_156 (fun H locs Z => ?_)
      obtain ⟨σ11, eσ11, h11⟩ := dlt_s h10
      clear h10
      replace Z := Wd.eq eσ11 Z
      clear eσ11
      refine lv_aload_n hx hb dX4_keep_157 rfl (lv_at hl 1 rfl) ?_
      refine g_9_1 B Z kf_RX4_21 dX4_keep_158 ?_
      refine lv_aload_n hx hb dX4_keep_161 rfl (lv_at hl 1 rfl) ?_
      refine g_9_2 B Z kf_RX4_25 dX4_keep_162 ?_
      refine lv_iload hx hb dX4_keep_165 (lv_at hl 6 rfl) ?_
      obtain ⟨z12, h12⟩ := dck_s h11
      clear h11
      refine st_11 B Z z12 dX4_keep_167 (fun H locs Z => ?_)
      obtain ⟨σ13, eσ13, h13⟩ := dlt_s h12
      clear h12
      replace Z := Wd.eq eσ13 Z
      clear eσ13
      refine lv_aload_n hx hb dX4_keep_168 rfl (lv_at hl 1 rfl) ?_
      refine lv_dup hx hb dX4_keep_169 rfl ?_
      refine g_9_2 B Z kf_RX4_25 dX4_keep_170 ?_
      refine lv_iconst (v := (1 : Int32)) hx hb dX4_keep_173 (by decide) ?_
      refine lv_iadd hx hb dX4_keep_174 ?_
      refine s_9_2 B Z kf_RX4_25 dX4_keep_175 (fun H locs Z => ?_)
      obtain ⟨σ14, eσ14, h14⟩ := dlt_s h13
      clear h13
      replace Z := Wd.eq eσ14 Z
      clear eσ14
      exact reV B Z hz h14 dX4_keep_178
    · have h15 := dif h1 c2
      clear h1
      exact reV B Z hz h15 dX4_keep_108
  clear eJ1
  refine lv_if_ne (tgt := 96) hx hb dX4_keep_3 (by decide) (fun c15 => ?_) (fun c15 => ?_)
  · have h17 := dif h16 c15
    clear h16
    exact kJ1  _ _ _ Z (lv_sub hl [0, 1, 2, 3, 4, 5] rfl) h17
  · have h18 := dit h16 c15
    clear h16
    refine lv_lload_n hx hb dX4_keep_6 rfl (lv_at hl 2 rfl) ?_
    refine lv_lconst (v := (0 : Int64)) hx hb dX4_keep_7 (by decide) ?_
    refine W.lcmp hx hb dX4_keep_8 ?_
    refine lv_if_ne (tgt := 96) hx hb dX4_keep_9 (by decide) (fun c16 => ?_) (fun c16 => ?_)
    · have h19 := dif h18 c16
      clear h18
      exact kJ1  _ _ _ Z (lv_sub hl [0, 1, 2, 3, 4, 5] rfl) h19
    · have h20 := dit h18 c16
      clear h18
      refine lv_lload hx hb dX4_keep_12 (lv_at hl 3 rfl) ?_
      refine lv_lconst (v := (0 : Int64)) hx hb dX4_keep_14 (by decide) ?_
      refine W.lcmp hx hb dX4_keep_15 ?_
      refine lv_if_ne (tgt := 96) hx hb dX4_keep_16 (by decide) (fun c17 => ?_) (fun c17 => ?_)
      · have h21 := dif h20 c17
        clear h20
        exact kJ1  _ _ _ Z (lv_sub hl [0, 1, 2, 3, 4, 5] rfl) h21
      · have h22 := dit h20 c17
        clear h20
        refine lv_iload hx hb dX4_keep_19 (lv_at hl 5 rfl) ?_
        obtain ⟨J19, eJ19, h34⟩ := dlt_s h22
        clear h22
        have kJ19 : ∀ (x18 : Int32) (H : Heap) (locs : List Loc) (ls : Array Slot), Wd (wC X) (tC X) (aC X) X s σ H locs → lv_has ls 11 [(0, .ref (X.2.1 9))] → J19 x18 = some σz → W p l e rm_fRw_keep_9 s m args below meth c H locs 0 0 (MQ below (va_Qv (fun u => u = σz) (poW (wC X) (tC X) (aC X) X sz) (aA (aC X) sz)) args s 0 0 (aA (aC X) sz)) (F0 m 72 ls [.int x18]) := by
          intro x18 H locs ls Z hl h23
          rw [eJ19] at h23
          refine lv_istore (lv' := [(10, .int x18), (0, .ref (X.2.1 9))]) hx hb dX4_keep_72 hl (by decide) rfl (fun ls hl => ?_)
          refine lv_aload_n hx hb dX4_keep_74 rfl (lv_at hl 1 rfl) ?_
          refine lv_aload_n hx hb dX4_keep_75 rfl (lv_at hl 1 rfl) ?_
          refine g_9_3 B Z kf_RX4_29 dX4_keep_76 ?_
          obtain ⟨J21, eJ21, h27⟩ := dlt_s h23
          clear h23
          have kJ21 : ∀ (x20 : Int32) (H : Heap) (locs : List Loc) (ls : Array Slot), Wd (wC X) (tC X) (aC X) X s σ H locs → lv_has ls 11 [] → J21 x20 = some σz → W p l e rm_fRw_keep_9 s m args below meth c H locs 0 0 (MQ below (va_Qv (fun u => u = σz) (poW (wC X) (tC X) (aC X) X sz) (aA (aC X) sz)) args s 0 0 (aA (aC X) sz)) (F0 m 92 ls [.int x20, .ref (X.2.1 9)]) := by
            intro x20 H locs ls Z hl h24
            rw [eJ21] at h24
            obtain ⟨z22, h25⟩ := dck_s h24
            clear h24
            refine s_9_3 B Z z22 kf_RX4_29 dX4_keep_92 (fun H locs Z => ?_)
            obtain ⟨σ23, eσ23, h26⟩ := dlt_s h25
            clear h25
            replace Z := Wd.eq eσ23 Z
            clear eσ23
            exact reV B Z hz h26 dX4_keep_95
          clear eJ21
          obtain ⟨J24, eJ24, h29⟩ := dlt_s h27
          clear h27
          have kJ24 : ∀ (H : Heap) (locs : List Loc) (ls : Array Slot), Wd (wC X) (tC X) (aC X) X s σ H locs → lv_has ls 11 [] → J24 () = some σz → W p l e rm_fRw_keep_9 s m args below meth c H locs 0 0 (MQ below (va_Qv (fun u => u = σz) (poW (wC X) (tC X) (aC X) X sz) (aA (aC X) sz)) args s 0 0 (aA (aC X) sz)) (F0 m 87 ls [.ref (X.2.1 9)]) := by
            intro  H locs ls Z hl h28
            rw [eJ24] at h28
            refine lv_iconst (v := (1 : Int32)) hx hb dX4_keep_87 (by decide) ?_
            refine lv_goto (tgt := 92) hx hb dX4_keep_88 (by decide) ?_
            exact kJ21 (1 : Int32) _ _ _ Z (lv_sub hl [] rfl) h28
          clear eJ24
          refine lv_if_ne (tgt := 87) hx hb dX4_keep_79 (by decide) (fun c25 => ?_) (fun c25 => ?_)
          · have h30 := dif h29 c25
            clear h29
            exact kJ24  _ _ _ Z (lv_sub hl [] rfl) h30
          · have h31 := dit h29 c25
            clear h29
            refine lv_iload hx hb dX4_keep_82 (lv_at hl 0 rfl) ?_
            refine lv_if_ne (tgt := 91) hx hb dX4_keep_84 (by decide) (fun c26 => ?_) (fun c26 => ?_)
            · have h32 := dif h31 c26
              clear h31
              refine lv_iconst (v := (0 : Int32)) hx hb dX4_keep_91 (by decide) ?_
              exact kJ21 (0 : Int32) _ _ _ Z (lv_sub hl [] rfl) h32
            · have h33 := dit h31 c26
              clear h31
              exact kJ24  _ _ _ Z (lv_sub hl [] rfl) h33
        clear eJ19
        refine lv_if_ne (tgt := 39) hx hb dX4_keep_21 (by decide) (fun c27 => ?_) (fun c27 => ?_)
        · have h35 := dif h34 c27
          clear h34
          refine lv_iload hx hb dX4_keep_39 (lv_at hl 5 rfl) ?_
          refine lv_iconst (v := (1 : Int32)) hx hb dX4_keep_41 (by decide) ?_
          refine lv_icmp_ne (tgt := 60) hx hb dX4_keep_42 (by decide) (fun c28 => ?_) (fun c28 => ?_)
          · have h36 := dif h35 c28
            clear h35
            refine lv_lload hx hb dX4_keep_60 (lv_at hl 4 rfl) ?_
            refine lv_lconst (v := (0 : Int64)) hx hb dX4_keep_62 (by decide) ?_
            refine W.lcmp hx hb dX4_keep_63 ?_
            refine lv_if_ne (tgt := 71) hx hb dX4_keep_64 (by decide) (fun c29 => ?_) (fun c29 => ?_)
            · have h37 := dif h36 c29
              clear h36
              refine lv_iconst (v := (0 : Int32)) hx hb dX4_keep_71 (by decide) ?_
              exact kJ19 (0 : Int32) _ _ _ Z (lv_sub hl [0] rfl) h37
            · have h38 := dit h36 c29
              clear h36
              refine lv_iconst (v := (1 : Int32)) hx hb dX4_keep_67 (by decide) ?_
              refine lv_goto (tgt := 72) hx hb dX4_keep_68 (by decide) ?_
              exact kJ19 (1 : Int32) _ _ _ Z (lv_sub hl [0] rfl) h38
          · have h39 := dit h35 c28
            clear h35
            refine lv_lload hx hb dX4_keep_45 (lv_at hl 4 rfl) ?_
            refine lv_lconst (v := (0 : Int64)) hx hb dX4_keep_47 (by decide) ?_
            refine W.lcmp hx hb dX4_keep_48 ?_
            refine lv_if_lt (tgt := 56) hx hb dX4_keep_49 (by decide) (fun c30 => ?_) (fun c30 => ?_)
            · have h40 := dit h39 c30
              clear h39
              refine lv_iconst (v := (0 : Int32)) hx hb dX4_keep_56 (by decide) ?_
              refine lv_goto (tgt := 72) hx hb dX4_keep_57 (by decide) ?_
              exact kJ19 (0 : Int32) _ _ _ Z (lv_sub hl [0] rfl) h40
            · have h41 := dif h39 c30
              clear h39
              refine lv_iconst (v := (1 : Int32)) hx hb dX4_keep_52 (by decide) ?_
              refine lv_goto (tgt := 72) hx hb dX4_keep_53 (by decide) ?_
              exact kJ19 (1 : Int32) _ _ _ Z (lv_sub hl [0] rfl) h41
        · have h42 := dit h34 c27
          clear h34
          refine lv_lload hx hb dX4_keep_24 (lv_at hl 4 rfl) ?_
          refine lv_lconst (v := (0 : Int64)) hx hb dX4_keep_26 (by decide) ?_
          refine W.lcmp hx hb dX4_keep_27 ?_
          refine lv_if_le (tgt := 35) hx hb dX4_keep_28 (by decide) (fun c31 => ?_) (fun c31 => ?_)
          · have h43 := dit h42 c31
            clear h42
            refine lv_iconst (v := (0 : Int32)) hx hb dX4_keep_35 (by decide) ?_
            refine lv_goto (tgt := 72) hx hb dX4_keep_36 (by decide) ?_
            exact kJ19 (0 : Int32) _ _ _ Z (lv_sub hl [0] rfl) h43
          · have h44 := dif h42 c31
            clear h42
            refine lv_iconst (v := (1 : Int32)) hx hb dX4_keep_31 (by decide) ?_
            refine lv_goto (tgt := 72) hx hb dX4_keep_32 (by decide) ?_
            exact kJ19 (1 : Int32) _ _ _ Z (lv_sub hl [0] rfl) h44
theorem dX4_mix_0 : decode cX4_mix 0 = .ok (.iload_n 1, 1) := by decide +kernel
theorem dX4_mix_1 : decode cX4_mix 1 = .ok (.iconst 4, 1) := by decide +kernel
theorem dX4_mix_2 : decode cX4_mix 2 = .ok (.imul, 1) := by decide +kernel
theorem dX4_mix_3 : decode cX4_mix 3 = .ok (.istore 8, 2) := by decide +kernel
theorem dX4_mix_5 : decode cX4_mix 5 = .ok (.iload 4, 2) := by decide +kernel
theorem dX4_mix_7 : decode cX4_mix 7 = .ok (.iconst 4, 1) := by decide +kernel
theorem dX4_mix_8 : decode cX4_mix 8 = .ok (.imul, 1) := by decide +kernel
theorem dX4_mix_9 : decode cX4_mix 9 = .ok (.istore 9, 2) := by decide +kernel
theorem dX4_mix_11 : decode cX4_mix 11 = .ok (.aload 7, 2) := by decide +kernel
theorem dX4_mix_13 : decode cX4_mix 13 = .ok (.lload_n 2, 1) := by decide +kernel
theorem dX4_mix_14 : decode cX4_mix 14 = .ok (.aload_n 0, 1) := by decide +kernel
theorem dX4_mix_15 : decode cX4_mix 15 = .ok (.getfield 17, 3) := by decide +kernel
theorem dX4_mix_18 : decode cX4_mix 18 = .ok (.iload 8, 2) := by decide +kernel
theorem dX4_mix_20 : decode cX4_mix 20 = .ok (.laload, 1) := by decide +kernel
theorem dX4_mix_21 : decode cX4_mix 21 = .ok (.lmul, 1) := by decide +kernel
theorem dX4_mix_22 : decode cX4_mix 22 = .ok (.lload 5, 2) := by decide +kernel
theorem dX4_mix_24 : decode cX4_mix 24 = .ok (.aload_n 0, 1) := by decide +kernel
theorem dX4_mix_25 : decode cX4_mix 25 = .ok (.getfield 17, 3) := by decide +kernel
theorem dX4_mix_28 : decode cX4_mix 28 = .ok (.iload 9, 2) := by decide +kernel
theorem dX4_mix_30 : decode cX4_mix 30 = .ok (.laload, 1) := by decide +kernel
theorem dX4_mix_31 : decode cX4_mix 31 = .ok (.lmul, 1) := by decide +kernel
theorem dX4_mix_32 : decode cX4_mix 32 = .ok (.ladd, 1) := by decide +kernel
theorem dX4_mix_33 : decode cX4_mix 33 = .ok (.lload_n 2, 1) := by decide +kernel
theorem dX4_mix_34 : decode cX4_mix 34 = .ok (.aload_n 0, 1) := by decide +kernel
theorem dX4_mix_35 : decode cX4_mix 35 = .ok (.getfield 17, 3) := by decide +kernel
theorem dX4_mix_38 : decode cX4_mix 38 = .ok (.iload 8, 2) := by decide +kernel
theorem dX4_mix_40 : decode cX4_mix 40 = .ok (.iconst 1, 1) := by decide +kernel
theorem dX4_mix_41 : decode cX4_mix 41 = .ok (.iadd, 1) := by decide +kernel
theorem dX4_mix_42 : decode cX4_mix 42 = .ok (.laload, 1) := by decide +kernel
theorem dX4_mix_43 : decode cX4_mix 43 = .ok (.lmul, 1) := by decide +kernel
theorem dX4_mix_44 : decode cX4_mix 44 = .ok (.lload 5, 2) := by decide +kernel
theorem dX4_mix_46 : decode cX4_mix 46 = .ok (.aload_n 0, 1) := by decide +kernel
theorem dX4_mix_47 : decode cX4_mix 47 = .ok (.getfield 17, 3) := by decide +kernel
theorem dX4_mix_50 : decode cX4_mix 50 = .ok (.iload 9, 2) := by decide +kernel
theorem dX4_mix_52 : decode cX4_mix 52 = .ok (.iconst 1, 1) := by decide +kernel
theorem dX4_mix_53 : decode cX4_mix 53 = .ok (.iadd, 1) := by decide +kernel
theorem dX4_mix_54 : decode cX4_mix 54 = .ok (.laload, 1) := by decide +kernel
theorem dX4_mix_55 : decode cX4_mix 55 = .ok (.lmul, 1) := by decide +kernel
theorem dX4_mix_56 : decode cX4_mix 56 = .ok (.ladd, 1) := by decide +kernel
theorem dX4_mix_57 : decode cX4_mix 57 = .ok (.lload_n 2, 1) := by decide +kernel
theorem dX4_mix_58 : decode cX4_mix 58 = .ok (.aload_n 0, 1) := by decide +kernel
theorem dX4_mix_59 : decode cX4_mix 59 = .ok (.getfield 17, 3) := by decide +kernel
theorem dX4_mix_62 : decode cX4_mix 62 = .ok (.iload 8, 2) := by decide +kernel
theorem dX4_mix_64 : decode cX4_mix 64 = .ok (.iconst 2, 1) := by decide +kernel
theorem dX4_mix_65 : decode cX4_mix 65 = .ok (.iadd, 1) := by decide +kernel
theorem dX4_mix_66 : decode cX4_mix 66 = .ok (.laload, 1) := by decide +kernel
theorem dX4_mix_67 : decode cX4_mix 67 = .ok (.lmul, 1) := by decide +kernel
theorem dX4_mix_68 : decode cX4_mix 68 = .ok (.lload 5, 2) := by decide +kernel
theorem dX4_mix_70 : decode cX4_mix 70 = .ok (.aload_n 0, 1) := by decide +kernel
theorem dX4_mix_71 : decode cX4_mix 71 = .ok (.getfield 17, 3) := by decide +kernel
theorem dX4_mix_74 : decode cX4_mix 74 = .ok (.iload 9, 2) := by decide +kernel
theorem dX4_mix_76 : decode cX4_mix 76 = .ok (.iconst 2, 1) := by decide +kernel
theorem dX4_mix_77 : decode cX4_mix 77 = .ok (.iadd, 1) := by decide +kernel
theorem dX4_mix_78 : decode cX4_mix 78 = .ok (.laload, 1) := by decide +kernel
theorem dX4_mix_79 : decode cX4_mix 79 = .ok (.lmul, 1) := by decide +kernel
theorem dX4_mix_80 : decode cX4_mix 80 = .ok (.ladd, 1) := by decide +kernel
theorem dX4_mix_81 : decode cX4_mix 81 = .ok (.lload_n 2, 1) := by decide +kernel
theorem dX4_mix_82 : decode cX4_mix 82 = .ok (.aload_n 0, 1) := by decide +kernel
theorem dX4_mix_83 : decode cX4_mix 83 = .ok (.getfield 17, 3) := by decide +kernel
theorem dX4_mix_86 : decode cX4_mix 86 = .ok (.iload 8, 2) := by decide +kernel
theorem dX4_mix_88 : decode cX4_mix 88 = .ok (.iconst 3, 1) := by decide +kernel
theorem dX4_mix_89 : decode cX4_mix 89 = .ok (.iadd, 1) := by decide +kernel
theorem dX4_mix_90 : decode cX4_mix 90 = .ok (.laload, 1) := by decide +kernel
theorem dX4_mix_91 : decode cX4_mix 91 = .ok (.lmul, 1) := by decide +kernel
theorem dX4_mix_92 : decode cX4_mix 92 = .ok (.lload 5, 2) := by decide +kernel
theorem dX4_mix_94 : decode cX4_mix 94 = .ok (.aload_n 0, 1) := by decide +kernel
theorem dX4_mix_95 : decode cX4_mix 95 = .ok (.getfield 17, 3) := by decide +kernel
theorem dX4_mix_98 : decode cX4_mix 98 = .ok (.iload 9, 2) := by decide +kernel
theorem dX4_mix_100 : decode cX4_mix 100 = .ok (.iconst 3, 1) := by decide +kernel
theorem dX4_mix_101 : decode cX4_mix 101 = .ok (.iadd, 1) := by decide +kernel
theorem dX4_mix_102 : decode cX4_mix 102 = .ok (.laload, 1) := by decide +kernel
theorem dX4_mix_103 : decode cX4_mix 103 = .ok (.lmul, 1) := by decide +kernel
theorem dX4_mix_104 : decode cX4_mix 104 = .ok (.ladd, 1) := by decide +kernel
theorem dX4_mix_105 : decode cX4_mix 105 = .ok (.aload_n 0, 1) := by decide +kernel
theorem dX4_mix_106 : decode cX4_mix 106 = .ok (.getfield 21, 3) := by decide +kernel
theorem dX4_mix_109 : decode cX4_mix 109 = .ok (.iload_n 1, 1) := by decide +kernel
theorem dX4_mix_110 : decode cX4_mix 110 = .ok (.iaload, 1) := by decide +kernel
theorem dX4_mix_111 : decode cX4_mix 111 = .ok (.aload_n 0, 1) := by decide +kernel
theorem dX4_mix_112 : decode cX4_mix 112 = .ok (.getfield 21, 3) := by decide +kernel
theorem dX4_mix_115 : decode cX4_mix 115 = .ok (.iload 4, 2) := by decide +kernel
theorem dX4_mix_117 : decode cX4_mix 117 = .ok (.iaload, 1) := by decide +kernel
theorem dX4_mix_118 : decode cX4_mix 118 = .ok (.invokestatic 48, 3) := by decide +kernel
theorem dX4_mix_121 : decode cX4_mix 121 = .ok (.invokevirtual 51, 3) := by decide +kernel
theorem dX4_mix_124 : decode cX4_mix 124 = .ok (.return_, 1) := by decide +kernel
def rm_fRw_mix_6_9 : Room := { frames := 2, cells := 0, slots := 0, locals := 90 }
set_option maxHeartbeats 4000000 in
set_option maxRecDepth 100000 in
theorem c_fRw_mix_6_9 (l : Launch) (X : eX) (sz : Nat) (a1 : Int32) (a2 : Int64) (a3 : Int32) (a4 : Int64) (σ : sT) (σz : sT) (h0 : fRw_mix 6 7 8 52 13 9 10 11 168 42 a1 a2 a3 a4 σ = some σz) : ctV l yX4_mix cX4_mix 10 none rm_fRw_mix_6_9 [.ref (X.2.1 6), .int a1, .long a2, .int a3, .long a4, .ref (X.2.1 9)] (wC X) (tC X) (aC X) X sz σ σz := by
  refine ct_of (by decide +kernel) (Nat.le_of_ble_eq_true rfl) ?_
  intro p e s m args below meth c ls hz B hl Z
  have B : Bd p s m args meth c RX4 cX4_mix 10 none := B
  have hl : lv_has ls 10 [(0, .ref (X.2.1 6)), (1, .int a1), (2, .long a2), (4, .int a3), (5, .long a4), (7, .ref (X.2.1 9))] := hl
  have hx := B.1
  have hb := B.2.1
  unfold fRw_mix at h0
  refine lv_iload_n hx hb dX4_mix_0 rfl (lv_at hl 1 rfl) ?_
  refine lv_iconst (v := (4 : Int32)) hx hb dX4_mix_1 (by decide) ?_
  refine lv_imul hx hb dX4_mix_2 ?_
  refine lv_topi (fun x1 ex1 => ?_)
  have h1 := dlt_e ex1 h0
  clear ex1 h0
  refine lv_istore (lv' := [(8, .int x1), (0, .ref (X.2.1 6)), (1, .int a1), (2, .long a2), (4, .int a3), (5, .long a4), (7, .ref (X.2.1 9))]) hx hb dX4_mix_3 hl (by decide) rfl (fun ls hl => ?_)
  refine lv_iload hx hb dX4_mix_5 (lv_at hl 4 rfl) ?_
  refine lv_iconst (v := (4 : Int32)) hx hb dX4_mix_7 (by decide) ?_
  refine lv_imul hx hb dX4_mix_8 ?_
  refine lv_topi (fun x2 ex2 => ?_)
  have h2 := dlt_e ex2 h1
  clear ex2 h1
  refine lv_istore (lv' := [(9, .int x2), (8, .int x1), (0, .ref (X.2.1 6)), (1, .int a1), (2, .long a2), (4, .int a3), (5, .long a4), (7, .ref (X.2.1 9))]) hx hb dX4_mix_9 hl (by decide) rfl (fun ls hl => ?_)
  refine lv_aload hx hb dX4_mix_11 (lv_at hl 7 rfl) ?_
  refine lv_lload_n hx hb dX4_mix_13 rfl (lv_at hl 4 rfl) ?_
  refine lv_aload_n hx hb dX4_mix_14 rfl (lv_at hl 2 rfl) ?_
  refine g_6_0 B Z kf_RX4_17 dX4_mix_15 ?_
  refine lv_iload hx hb dX4_mix_18 (lv_at hl 1 rfl) ?_
  obtain ⟨z3, h3⟩ := dck_s h2
  clear h2
  refine ld_7 B Z z3 dX4_mix_20 ?_
  refine lv_lmul hx hb dX4_mix_21 ?_
  refine lv_lload hx hb dX4_mix_22 (lv_at hl 6 rfl) ?_
  refine lv_aload_n hx hb dX4_mix_24 rfl (lv_at hl 2 rfl) ?_
  refine g_6_0 B Z kf_RX4_17 dX4_mix_25 ?_
  refine lv_iload hx hb dX4_mix_28 (lv_at hl 0 rfl) ?_
  obtain ⟨z4, h4⟩ := dck_s h3
  clear h3
  refine ld_7 B Z z4 dX4_mix_30 ?_
  refine lv_lmul hx hb dX4_mix_31 ?_
  refine lv_ladd hx hb dX4_mix_32 ?_
  refine lv_lload_n hx hb dX4_mix_33 rfl (lv_at hl 4 rfl) ?_
  refine lv_aload_n hx hb dX4_mix_34 rfl (lv_at hl 2 rfl) ?_
  refine g_6_0 B Z kf_RX4_17 dX4_mix_35 ?_
  refine lv_iload hx hb dX4_mix_38 (lv_at hl 1 rfl) ?_
  refine lv_iconst (v := (1 : Int32)) hx hb dX4_mix_40 (by decide) ?_
  refine lv_iadd hx hb dX4_mix_41 ?_
  obtain ⟨z5, h5⟩ := dck_s h4
  clear h4
  refine ld_7 B Z z5 dX4_mix_42 ?_
  refine lv_lmul hx hb dX4_mix_43 ?_
  refine lv_lload hx hb dX4_mix_44 (lv_at hl 6 rfl) ?_
  refine lv_aload_n hx hb dX4_mix_46 rfl (lv_at hl 2 rfl) ?_
  refine g_6_0 B Z kf_RX4_17 dX4_mix_47 ?_
  refine lv_iload hx hb dX4_mix_50 (lv_at hl 0 rfl) ?_
  refine lv_iconst (v := (1 : Int32)) hx hb dX4_mix_52 (by decide) ?_
  refine lv_iadd hx hb dX4_mix_53 ?_
  obtain ⟨z6, h6⟩ := dck_s h5
  clear h5
  refine ld_7 B Z z6 dX4_mix_54 ?_
  refine lv_lmul hx hb dX4_mix_55 ?_
  refine lv_ladd hx hb dX4_mix_56 ?_
  refine lv_lload_n hx hb dX4_mix_57 rfl (lv_at hl 4 rfl) ?_
  refine lv_aload_n hx hb dX4_mix_58 rfl (lv_at hl 2 rfl) ?_
  refine g_6_0 B Z kf_RX4_17 dX4_mix_59 ?_
  refine lv_iload hx hb dX4_mix_62 (lv_at hl 1 rfl) ?_
  refine lv_iconst (v := (2 : Int32)) hx hb dX4_mix_64 (by decide) ?_
  refine lv_iadd hx hb dX4_mix_65 ?_
  obtain ⟨z7, h7⟩ := dck_s h6
  clear h6
  refine ld_7 B Z z7 dX4_mix_66 ?_
  refine lv_lmul hx hb dX4_mix_67 ?_
  refine lv_lload hx hb dX4_mix_68 (lv_at hl 6 rfl) ?_
  refine lv_aload_n hx hb dX4_mix_70 rfl (lv_at hl 2 rfl) ?_
  refine g_6_0 B Z kf_RX4_17 dX4_mix_71 ?_
  refine lv_iload hx hb dX4_mix_74 (lv_at hl 0 rfl) ?_
  refine lv_iconst (v := (2 : Int32)) hx hb dX4_mix_76 (by decide) ?_
  refine lv_iadd hx hb dX4_mix_77 ?_
  obtain ⟨z8, h8⟩ := dck_s h7
  clear h7
  refine ld_7 B Z z8 dX4_mix_78 ?_
  refine lv_lmul hx hb dX4_mix_79 ?_
  refine lv_ladd hx hb dX4_mix_80 ?_
  refine lv_lload_n hx hb dX4_mix_81 rfl (lv_at hl 4 rfl) ?_
  refine lv_aload_n hx hb dX4_mix_82 rfl (lv_at hl 2 rfl) ?_
  refine g_6_0 B Z kf_RX4_17 dX4_mix_83 ?_
  refine lv_iload hx hb dX4_mix_86 (lv_at hl 1 rfl) ?_
  refine lv_iconst (v := (3 : Int32)) hx hb dX4_mix_88 (by decide) ?_
  refine lv_iadd hx hb dX4_mix_89 ?_
  obtain ⟨z9, h9⟩ := dck_s h8
  clear h8
  refine ld_7 B Z z9 dX4_mix_90 ?_
  refine lv_lmul hx hb dX4_mix_91 ?_
  refine lv_lload hx hb dX4_mix_92 (lv_at hl 6 rfl) ?_
  refine lv_aload_n hx hb dX4_mix_94 rfl (lv_at hl 2 rfl) ?_
  refine g_6_0 B Z kf_RX4_17 dX4_mix_95 ?_
  refine lv_iload hx hb dX4_mix_98 (lv_at hl 0 rfl) ?_
  refine lv_iconst (v := (3 : Int32)) hx hb dX4_mix_100 (by decide) ?_
  refine lv_iadd hx hb dX4_mix_101 ?_
  obtain ⟨z10, h10⟩ := dck_s h9
  clear h9
  refine ld_7 B Z z10 dX4_mix_102 ?_
  refine lv_lmul hx hb dX4_mix_103 ?_
  refine lv_ladd hx hb dX4_mix_104 ?_
  refine lv_aload_n hx hb dX4_mix_105 rfl (lv_at hl 2 rfl) ?_
  refine g_6_1 B Z kf_RX4_21 dX4_mix_106 ?_
  refine lv_iload_n hx hb dX4_mix_109 rfl (lv_at hl 3 rfl) ?_
  obtain ⟨z11, h11⟩ := dck_s h10
  clear h10
  refine ld_8 B Z z11 dX4_mix_110 ?_
  refine lv_aload_n hx hb dX4_mix_111 rfl (lv_at hl 2 rfl) ?_
  refine g_6_1 B Z kf_RX4_21 dX4_mix_112 ?_
  refine lv_iload hx hb dX4_mix_115 (lv_at hl 5 rfl) ?_
  obtain ⟨z12, h12⟩ := dck_s h11
  clear h11
  refine ld_8 B Z z12 dX4_mix_117 ?_
  refine va_mmin hx hb (B.2.2.1.trans hl.1.symm) B.2.2.2.1 (B.2.2.2.2.1 _ kl_RX4_48) (B.2.2.2.2.1 _ ks_Jmin) (B.2.2.2.2.1 _ kz_RJ9) (B.2.2.2.2.1 _ kd_Jmin) (Nat.le_of_ble_eq_true rfl) (Nat.le_of_ble_eq_true rfl) (Nat.zero_le _) (Nat.zero_le _) dX4_mix_118 ?_
  obtain ⟨σ14, hc12, h13⟩ := db1_s h12
  clear h12
  refine cV_V [.long ((a2 * (σ.2 7 x1.toNatClampNeg)) + (a4 * (σ.2 7 x2.toNatClampNeg))), .long ((a2 * (σ.2 7 (x1 + (1 : Int32)).toNatClampNeg)) + (a4 * (σ.2 7 (x2 + (1 : Int32)).toNatClampNeg))), .long ((a2 * (σ.2 7 (x1 + (2 : Int32)).toNatClampNeg)) + (a4 * (σ.2 7 (x2 + (2 : Int32)).toNatClampNeg))), .long ((a2 * (σ.2 7 (x1 + (3 : Int32)).toNatClampNeg)) + (a4 * (σ.2 7 (x2 + (3 : Int32)).toNatClampNeg))), .int (if (σ.1 8 a3.toNatClampNeg) < (σ.1 8 a1.toNatClampNeg) then (σ.1 8 a3.toNatClampNeg) else (σ.1 8 a1.toNatClampNeg))] [] B mx_yX4_keep (c_fRw_keep_9 l X _ ((a2 * (σ.2 7 x1.toNatClampNeg)) + (a4 * (σ.2 7 x2.toNatClampNeg))) ((a2 * (σ.2 7 (x1 + (1 : Int32)).toNatClampNeg)) + (a4 * (σ.2 7 (x2 + (1 : Int32)).toNatClampNeg))) ((a2 * (σ.2 7 (x1 + (2 : Int32)).toNatClampNeg)) + (a4 * (σ.2 7 (x2 + (2 : Int32)).toNatClampNeg))) ((a2 * (σ.2 7 (x1 + (3 : Int32)).toNatClampNeg)) + (a4 * (σ.2 7 (x2 + (3 : Int32)).toNatClampNeg))) (if (σ.1 8 a3.toNatClampNeg) < (σ.1 8 a1.toNatClampNeg) then (σ.1 8 a3.toNatClampNeg) else (σ.1 8 a1.toNatClampNeg)) σ σ14 hc12) kl_RX4_51 mi_yX4_keep (rv_9 _ _) hcl_4 Z hl rfl rfl ⟨Nat.le_of_ble_eq_true rfl, Nat.le_of_ble_eq_true rfl⟩ rfl rfl (Nat.le_of_ble_eq_true rfl) dX4_mix_121 (fun H locs Z => ?_)
  clear hc12
  exact reV B Z hz h13 dX4_mix_124
theorem dX4_eliminate_0 : decode cX4_eliminate 0 = .ok (.aload_n 2, 1) := by decide +kernel
theorem dX4_eliminate_1 : decode cX4_eliminate 1 = .ok (.invokevirtual 33, 3) := by decide +kernel
theorem dX4_eliminate_4 : decode cX4_eliminate 4 = .ok (.aload_n 2, 1) := by decide +kernel
theorem dX4_eliminate_5 : decode cX4_eliminate 5 = .ok (.aload_n 0, 1) := by decide +kernel
theorem dX4_eliminate_6 : decode cX4_eliminate 6 = .ok (.getfield 29, 3) := by decide +kernel
theorem dX4_eliminate_9 : decode cX4_eliminate 9 = .ok (.putfield 29, 3) := by decide +kernel
theorem dX4_eliminate_12 : decode cX4_eliminate 12 = .ok (.aload_n 0, 1) := by decide +kernel
theorem dX4_eliminate_13 : decode cX4_eliminate 13 = .ok (.iload_n 1, 1) := by decide +kernel
theorem dX4_eliminate_14 : decode cX4_eliminate 14 = .ok (.invokevirtual 36, 3) := by decide +kernel
theorem dX4_eliminate_17 : decode cX4_eliminate 17 = .ok (.istore_n 3, 1) := by decide +kernel
theorem dX4_eliminate_18 : decode cX4_eliminate 18 = .ok (.iconst 0, 1) := by decide +kernel
theorem dX4_eliminate_19 : decode cX4_eliminate 19 = .ok (.istore 4, 2) := by decide +kernel
theorem dX4_eliminate_21 : decode cX4_eliminate 21 = .ok (.iload 4, 2) := by decide +kernel
theorem dX4_eliminate_23 : decode cX4_eliminate 23 = .ok (.aload_n 0, 1) := by decide +kernel
theorem dX4_eliminate_24 : decode cX4_eliminate 24 = .ok (.getfield 25, 3) := by decide +kernel
theorem dX4_eliminate_27 : decode cX4_eliminate 27 = .ok (.if_icmp .ge 159, 3) := by decide +kernel
theorem dX4_eliminate_30 : decode cX4_eliminate 30 = .ok (.aload_n 0, 1) := by decide +kernel
theorem dX4_eliminate_31 : decode cX4_eliminate 31 = .ok (.getfield 17, 3) := by decide +kernel
theorem dX4_eliminate_34 : decode cX4_eliminate 34 = .ok (.iload 4, 2) := by decide +kernel
theorem dX4_eliminate_36 : decode cX4_eliminate 36 = .ok (.iconst 4, 1) := by decide +kernel
theorem dX4_eliminate_37 : decode cX4_eliminate 37 = .ok (.imul, 1) := by decide +kernel
theorem dX4_eliminate_38 : decode cX4_eliminate 38 = .ok (.iload_n 1, 1) := by decide +kernel
theorem dX4_eliminate_39 : decode cX4_eliminate 39 = .ok (.iadd, 1) := by decide +kernel
theorem dX4_eliminate_40 : decode cX4_eliminate 40 = .ok (.laload, 1) := by decide +kernel
theorem dX4_eliminate_41 : decode cX4_eliminate 41 = .ok (.lstore 5, 2) := by decide +kernel
theorem dX4_eliminate_43 : decode cX4_eliminate 43 = .ok (.lload 5, 2) := by decide +kernel
theorem dX4_eliminate_45 : decode cX4_eliminate 45 = .ok (.lconst 0, 1) := by decide +kernel
theorem dX4_eliminate_46 : decode cX4_eliminate 46 = .ok (.lcmp, 1) := by decide +kernel
theorem dX4_eliminate_47 : decode cX4_eliminate 47 = .ok (.ifCond .ne 17, 3) := by decide +kernel
theorem dX4_eliminate_50 : decode cX4_eliminate 50 = .ok (.aload_n 0, 1) := by decide +kernel
theorem dX4_eliminate_51 : decode cX4_eliminate 51 = .ok (.iload 4, 2) := by decide +kernel
theorem dX4_eliminate_53 : decode cX4_eliminate 53 = .ok (.lconst 1, 1) := by decide +kernel
theorem dX4_eliminate_54 : decode cX4_eliminate 54 = .ok (.iload 4, 2) := by decide +kernel
theorem dX4_eliminate_56 : decode cX4_eliminate 56 = .ok (.lconst 0, 1) := by decide +kernel
theorem dX4_eliminate_57 : decode cX4_eliminate 57 = .ok (.aload_n 2, 1) := by decide +kernel
theorem dX4_eliminate_58 : decode cX4_eliminate 58 = .ok (.invokevirtual 40, 3) := by decide +kernel
theorem dX4_eliminate_61 : decode cX4_eliminate 61 = .ok (.goto 119, 3) := by decide +kernel
theorem dX4_eliminate_64 : decode cX4_eliminate 64 = .ok (.iload_n 3, 1) := by decide +kernel
theorem dX4_eliminate_65 : decode cX4_eliminate 65 = .ok (.ifCond .lt 52, 3) := by decide +kernel
theorem dX4_eliminate_68 : decode cX4_eliminate 68 = .ok (.iload 4, 2) := by decide +kernel
theorem dX4_eliminate_70 : decode cX4_eliminate 70 = .ok (.iload_n 3, 1) := by decide +kernel
theorem dX4_eliminate_71 : decode cX4_eliminate 71 = .ok (.if_icmp .eq 46, 3) := by decide +kernel
theorem dX4_eliminate_74 : decode cX4_eliminate 74 = .ok (.aload_n 0, 1) := by decide +kernel
theorem dX4_eliminate_75 : decode cX4_eliminate 75 = .ok (.getfield 17, 3) := by decide +kernel
theorem dX4_eliminate_78 : decode cX4_eliminate 78 = .ok (.iload_n 3, 1) := by decide +kernel
theorem dX4_eliminate_79 : decode cX4_eliminate 79 = .ok (.iconst 4, 1) := by decide +kernel
theorem dX4_eliminate_80 : decode cX4_eliminate 80 = .ok (.imul, 1) := by decide +kernel
theorem dX4_eliminate_81 : decode cX4_eliminate 81 = .ok (.iload_n 1, 1) := by decide +kernel
theorem dX4_eliminate_82 : decode cX4_eliminate 82 = .ok (.iadd, 1) := by decide +kernel
theorem dX4_eliminate_83 : decode cX4_eliminate 83 = .ok (.laload, 1) := by decide +kernel
theorem dX4_eliminate_84 : decode cX4_eliminate 84 = .ok (.lstore 7, 2) := by decide +kernel
theorem dX4_eliminate_86 : decode cX4_eliminate 86 = .ok (.aload_n 0, 1) := by decide +kernel
theorem dX4_eliminate_87 : decode cX4_eliminate 87 = .ok (.iload 4, 2) := by decide +kernel
theorem dX4_eliminate_89 : decode cX4_eliminate 89 = .ok (.lload 7, 2) := by decide +kernel
theorem dX4_eliminate_91 : decode cX4_eliminate 91 = .ok (.invokestatic 44, 3) := by decide +kernel
theorem dX4_eliminate_94 : decode cX4_eliminate 94 = .ok (.iload_n 3, 1) := by decide +kernel
theorem dX4_eliminate_95 : decode cX4_eliminate 95 = .ok (.lload 7, 2) := by decide +kernel
theorem dX4_eliminate_97 : decode cX4_eliminate 97 = .ok (.lconst 0, 1) := by decide +kernel
theorem dX4_eliminate_98 : decode cX4_eliminate 98 = .ok (.lcmp, 1) := by decide +kernel
theorem dX4_eliminate_99 : decode cX4_eliminate 99 = .ok (.ifCond .le 9, 3) := by decide +kernel
theorem dX4_eliminate_102 : decode cX4_eliminate 102 = .ok (.lload 5, 2) := by decide +kernel
theorem dX4_eliminate_104 : decode cX4_eliminate 104 = .ok (.lneg, 1) := by decide +kernel
theorem dX4_eliminate_105 : decode cX4_eliminate 105 = .ok (.goto 5, 3) := by decide +kernel
theorem dX4_eliminate_108 : decode cX4_eliminate 108 = .ok (.lload 5, 2) := by decide +kernel
theorem dX4_eliminate_110 : decode cX4_eliminate 110 = .ok (.aload_n 2, 1) := by decide +kernel
theorem dX4_eliminate_111 : decode cX4_eliminate 111 = .ok (.invokevirtual 40, 3) := by decide +kernel
theorem dX4_eliminate_114 : decode cX4_eliminate 114 = .ok (.goto 66, 3) := by decide +kernel
theorem dX4_eliminate_117 : decode cX4_eliminate 117 = .ok (.iload_n 3, 1) := by decide +kernel
theorem dX4_eliminate_118 : decode cX4_eliminate 118 = .ok (.ifCond .ge 62, 3) := by decide +kernel
theorem dX4_eliminate_121 : decode cX4_eliminate 121 = .ok (.lload 5, 2) := by decide +kernel
theorem dX4_eliminate_123 : decode cX4_eliminate 123 = .ok (.lconst 0, 1) := by decide +kernel
theorem dX4_eliminate_124 : decode cX4_eliminate 124 = .ok (.lcmp, 1) := by decide +kernel
theorem dX4_eliminate_125 : decode cX4_eliminate 125 = .ok (.ifCond .le 55, 3) := by decide +kernel
theorem dX4_eliminate_128 : decode cX4_eliminate 128 = .ok (.iconst 0, 1) := by decide +kernel
theorem dX4_eliminate_129 : decode cX4_eliminate 129 = .ok (.istore 7, 2) := by decide +kernel
theorem dX4_eliminate_131 : decode cX4_eliminate 131 = .ok (.iload 7, 2) := by decide +kernel
theorem dX4_eliminate_133 : decode cX4_eliminate 133 = .ok (.aload_n 0, 1) := by decide +kernel
theorem dX4_eliminate_134 : decode cX4_eliminate 134 = .ok (.getfield 25, 3) := by decide +kernel
theorem dX4_eliminate_137 : decode cX4_eliminate 137 = .ok (.if_icmp .ge 43, 3) := by decide +kernel
theorem dX4_eliminate_140 : decode cX4_eliminate 140 = .ok (.aload_n 0, 1) := by decide +kernel
theorem dX4_eliminate_141 : decode cX4_eliminate 141 = .ok (.getfield 17, 3) := by decide +kernel
theorem dX4_eliminate_144 : decode cX4_eliminate 144 = .ok (.iload 7, 2) := by decide +kernel
theorem dX4_eliminate_146 : decode cX4_eliminate 146 = .ok (.iconst 4, 1) := by decide +kernel
theorem dX4_eliminate_147 : decode cX4_eliminate 147 = .ok (.imul, 1) := by decide +kernel
theorem dX4_eliminate_148 : decode cX4_eliminate 148 = .ok (.iload_n 1, 1) := by decide +kernel
theorem dX4_eliminate_149 : decode cX4_eliminate 149 = .ok (.iadd, 1) := by decide +kernel
theorem dX4_eliminate_150 : decode cX4_eliminate 150 = .ok (.laload, 1) := by decide +kernel
theorem dX4_eliminate_151 : decode cX4_eliminate 151 = .ok (.lstore 8, 2) := by decide +kernel
theorem dX4_eliminate_153 : decode cX4_eliminate 153 = .ok (.lload 8, 2) := by decide +kernel
theorem dX4_eliminate_155 : decode cX4_eliminate 155 = .ok (.lconst 0, 1) := by decide +kernel
theorem dX4_eliminate_156 : decode cX4_eliminate 156 = .ok (.lcmp, 1) := by decide +kernel
theorem dX4_eliminate_157 : decode cX4_eliminate 157 = .ok (.ifCond .ge 17, 3) := by decide +kernel
theorem dX4_eliminate_160 : decode cX4_eliminate 160 = .ok (.aload_n 0, 1) := by decide +kernel
theorem dX4_eliminate_161 : decode cX4_eliminate 161 = .ok (.iload 4, 2) := by decide +kernel
theorem dX4_eliminate_163 : decode cX4_eliminate 163 = .ok (.lload 8, 2) := by decide +kernel
theorem dX4_eliminate_165 : decode cX4_eliminate 165 = .ok (.lneg, 1) := by decide +kernel
theorem dX4_eliminate_166 : decode cX4_eliminate 166 = .ok (.iload 7, 2) := by decide +kernel
theorem dX4_eliminate_168 : decode cX4_eliminate 168 = .ok (.lload 5, 2) := by decide +kernel
theorem dX4_eliminate_170 : decode cX4_eliminate 170 = .ok (.aload_n 2, 1) := by decide +kernel
theorem dX4_eliminate_171 : decode cX4_eliminate 171 = .ok (.invokevirtual 40, 3) := by decide +kernel
theorem dX4_eliminate_174 : decode cX4_eliminate 174 = .ok (.iinc 7 1, 3) := by decide +kernel
theorem dX4_eliminate_177 : decode cX4_eliminate 177 = .ok (.goto (-46), 3) := by decide +kernel
theorem dX4_eliminate_180 : decode cX4_eliminate 180 = .ok (.iinc 4 1, 3) := by decide +kernel
theorem dX4_eliminate_183 : decode cX4_eliminate 183 = .ok (.goto (-162), 3) := by decide +kernel
theorem dX4_eliminate_186 : decode cX4_eliminate 186 = .ok (.return_, 1) := by decide +kernel
def rm_fRw_eliminate_6_9 : Room := { frames := 3, cells := 0, slots := 0, locals := 119 }
set_option maxHeartbeats 4000000 in
set_option maxRecDepth 100000 in
theorem c_fRw_eliminate_6_9 (l : Launch) (X : eX) (sz : Nat) (a1 : Int32) (σ : sT) (σz : sT) (h0 : fRw_eliminate 6 7 8 52 13 9 10 11 168 42 a1 σ = some σz) : ctV l yX4_eliminate cX4_eliminate 10 none rm_fRw_eliminate_6_9 [.ref (X.2.1 6), .int a1, .ref (X.2.1 9)] (wC X) (tC X) (aC X) X sz σ σz := by
  refine ct_of (by decide +kernel) (Nat.le_of_ble_eq_true rfl) ?_
  intro p e s m args below meth c ls hz B hl Z
  have B : Bd p s m args meth c RX4 cX4_eliminate 10 none := B
  have hl : lv_has ls 10 [(0, .ref (X.2.1 6)), (1, .int a1), (2, .ref (X.2.1 9))] := hl
  have hx := B.1
  have hb := B.2.1
  unfold fRw_eliminate at h0
  refine lv_aload_n hx hb dX4_eliminate_0 rfl (lv_at hl 2 rfl) ?_
  obtain ⟨σ2, hc0, h1⟩ := db1_s h0
  clear h0
  refine cV_V [] [] B mx_yX4_empty (c_fRw_empty_9 l X _ σ σ2 hc0) kl_RX4_33 mi_yX4_empty (rv_9 _ _) hcl_4 Z hl rfl rfl ⟨Nat.le_of_ble_eq_true rfl, Nat.le_of_ble_eq_true rfl⟩ rfl rfl (Nat.le_of_ble_eq_true rfl) dX4_eliminate_1 (fun H locs Z => ?_)
  clear hc0
  refine lv_aload_n hx hb dX4_eliminate_4 rfl (lv_at hl 2 rfl) ?_
  refine lv_aload_n hx hb dX4_eliminate_5 rfl (lv_at hl 0 rfl) ?_
  refine g_6_3 B Z kf_RX4_29 dX4_eliminate_6 ?_
  obtain ⟨z3, h2⟩ := dck_s h1
  clear h1
  refine s_9_3 B Z z3 kf_RX4_29 dX4_eliminate_9 (fun H locs Z => ?_)
  obtain ⟨σ4, eσ4, h3⟩ := dlt_s h2
  clear h2
  replace Z := Wd.eq eσ4 Z
  clear eσ4
  refine lv_aload_n hx hb dX4_eliminate_12 rfl (lv_at hl 0 rfl) ?_
  refine lv_iload_n hx hb dX4_eliminate_13 rfl (lv_at hl 1 rfl) ?_
  obtain ⟨r6, hc4, h4⟩ := db1_s h3
  clear h3
  refine cV_I [.int a1] [] B mx_yX4_equalityWith (c_fRw_equalityWith_6 l X _ a1 σ4 r6 hc4) kl_RX4_36 mi_yX4_equalityWith (rv_6 _ _) hcl_4 Z hl rfl rfl ⟨Nat.le_of_ble_eq_true rfl, Nat.le_of_ble_eq_true rfl⟩ rfl rfl (Nat.le_of_ble_eq_true rfl) dX4_eliminate_14 (fun H locs Z => ?_)
  clear hc4
  refine lv_istore_n (lv' := [(3, .int r6), (0, .ref (X.2.1 6)), (1, .int a1), (2, .ref (X.2.1 9))]) hx hb dX4_eliminate_17 rfl hl (by decide) rfl (fun ls hl => ?_)
  refine lv_iconst (v := (0 : Int32)) hx hb dX4_eliminate_18 (by decide) ?_
  refine lv_istore (lv' := [(4, .int (0 : Int32)), (3, .int r6), (0, .ref (X.2.1 6)), (1, .int a1), (2, .ref (X.2.1 9))]) hx hb dX4_eliminate_19 hl (by decide) rfl (fun ls hl => ?_)
  have lL21 : ∀ (n : Nat), ∀ (x7 : Int32) (σ8 : sT) (H : Heap) (locs : List Loc) (ls : Array Slot), Wd (wC X) (tC X) (aC X) X s σ8 H locs → lv_has ls 10 [(0, .ref (X.2.1 6)), (1, .int a1), (2, .ref (X.2.1 9)), (3, .int r6), (4, .int x7)] → fRw_eliminate_L21 6 7 8 52 13 9 10 11 168 42 a1 r6 n x7 σ8 = some σz → W p l e rm_fRw_eliminate_6_9 s m args below meth c H locs 0 0 (MQ below (va_Qv (fun u => u = σz) (poW (wC X) (tC X) (aC X) X sz) (aA (aC X) sz)) args s 0 0 (aA (aC X) sz)) (F0 m 21 ls []) := by
    intro n
    induction n with
    | zero =>
      intro x7 σ8 H locs ls Z hl h
      exact nomatch (show (none : Option (sT)) = some _ from h)
    | succ n9 ih12 =>
      intro x7 σ8 H locs ls Z hl h5
      unfold fRw_eliminate_L21 at h5
      refine lv_iload hx hb dX4_eliminate_21 (lv_at hl 4 rfl) ?_
      refine lv_aload_n hx hb dX4_eliminate_23 rfl (lv_at hl 0 rfl) ?_
      refine g_6_2 B Z kf_RX4_25 dX4_eliminate_24 ?_
      refine lv_icmp_ge (tgt := 186) hx hb dX4_eliminate_27 (by decide) (fun c10 => ?_) (fun c10 => ?_)
      · have h6 := dit h5 c10
        clear h5
        exact reV B Z hz h6 dX4_eliminate_186
      · have h7 := dif h5 c10
        clear h5
        refine lv_aload_n hx hb dX4_eliminate_30 rfl (lv_at hl 0 rfl) ?_
        refine g_6_0 B Z kf_RX4_17 dX4_eliminate_31 ?_
        refine lv_iload hx hb dX4_eliminate_34 (lv_at hl 4 rfl) ?_
        refine lv_iconst (v := (4 : Int32)) hx hb dX4_eliminate_36 (by decide) ?_
        refine lv_imul hx hb dX4_eliminate_37 ?_
        refine lv_iload_n hx hb dX4_eliminate_38 rfl (lv_at hl 1 rfl) ?_
        refine lv_iadd hx hb dX4_eliminate_39 ?_
        obtain ⟨z11, h8⟩ := dck_s h7
        clear h7
        refine ld_7 B Z z11 dX4_eliminate_40 ?_
        refine lv_topl (fun x12 ex12 => ?_)
        have h9 := dlt_e ex12 h8
        clear ex12 h8
        refine lv_lstore (lv' := [(5, .long x12), (0, .ref (X.2.1 6)), (1, .int a1), (2, .ref (X.2.1 9)), (3, .int r6), (4, .int x7)]) hx hb dX4_eliminate_41 hl (by decide) rfl (fun ls hl => ?_)
        refine lv_lload hx hb dX4_eliminate_43 (lv_at hl 0 rfl) ?_
        refine lv_lconst (v := (0 : Int64)) hx hb dX4_eliminate_45 (by decide) ?_
        refine W.lcmp hx hb dX4_eliminate_46 ?_
        refine lv_if_ne (tgt := 64) hx hb dX4_eliminate_47 (by decide) (fun c13 => ?_) (fun c13 => ?_)
        · have h10 := dif h9 c13
          clear h9
          refine lv_iload_n hx hb dX4_eliminate_64 rfl (lv_at hl 4 rfl) ?_
          obtain ⟨J14, eJ14, h26⟩ := dlt_s h10
          clear h10
          have kJ14 : ∀ (H : Heap) (locs : List Loc) (ls : Array Slot), Wd (wC X) (tC X) (aC X) X s σ8 H locs → lv_has ls 10 [(0, .ref (X.2.1 6)), (1, .int a1), (2, .ref (X.2.1 9)), (3, .int r6), (4, .int x7), (5, .long x12)] → J14 () = some σz → W p l e rm_fRw_eliminate_6_9 s m args below meth c H locs 0 0 (MQ below (va_Qv (fun u => u = σz) (poW (wC X) (tC X) (aC X) X sz) (aA (aC X) sz)) args s 0 0 (aA (aC X) sz)) (F0 m 117 ls []) := by
            intro  H locs ls Z hl h11
            rw [eJ14] at h11
            refine lv_iload_n hx hb dX4_eliminate_117 rfl (lv_at hl 3 rfl) ?_
            refine lv_if_ge (tgt := 180) hx hb dX4_eliminate_118 (by decide) (fun c15 => ?_) (fun c15 => ?_)
            · have h12 := dit h11 c15
              clear h11
              refine lv_iinc (v := x7 + (1 : Int32)) (lv' := [(4, .int (x7 + (1 : Int32))), (0, .ref (X.2.1 6)), (1, .int a1), (2, .ref (X.2.1 9)), (3, .int r6), (5, .long x12)]) hx hb dX4_eliminate_180 hl (k := 4) rfl (by rfl) (by decide) rfl (fun ls hl => ?_)
              refine lv_goto (tgt := 21) hx hb dX4_eliminate_183 (by decide) ?_
              exact ih12 (x7 + (1 : Int32)) σ8 _ _ _ Z (lv_sub hl [1, 2, 3, 4, 0] rfl) h12
            · have h13 := dif h11 c15
              clear h11
              refine lv_lload hx hb dX4_eliminate_121 (lv_at hl 5 rfl) ?_
              refine lv_lconst (v := (0 : Int64)) hx hb dX4_eliminate_123 (by decide) ?_
              refine W.lcmp hx hb dX4_eliminate_124 ?_
              refine lv_if_le (tgt := 180) hx hb dX4_eliminate_125 (by decide) (fun c16 => ?_) (fun c16 => ?_)
              · have h14 := dit h13 c16
                clear h13
                refine lv_iinc (v := x7 + (1 : Int32)) (lv' := [(4, .int (x7 + (1 : Int32))), (0, .ref (X.2.1 6)), (1, .int a1), (2, .ref (X.2.1 9)), (3, .int r6), (5, .long x12)]) hx hb dX4_eliminate_180 hl (k := 4) rfl (by rfl) (by decide) rfl (fun ls hl => ?_)
                refine lv_goto (tgt := 21) hx hb dX4_eliminate_183 (by decide) ?_
                exact ih12 (x7 + (1 : Int32)) σ8 _ _ _ Z (lv_sub hl [1, 2, 3, 4, 0] rfl) h14
              · have h15 := dif h13 c16
                clear h13
                refine lv_iconst (v := (0 : Int32)) hx hb dX4_eliminate_128 (by decide) ?_
                refine lv_istore (lv' := [(7, .int (0 : Int32)), (0, .ref (X.2.1 6)), (1, .int a1), (2, .ref (X.2.1 9)), (3, .int r6), (4, .int x7), (5, .long x12)]) hx hb dX4_eliminate_129 hl (by decide) rfl (fun ls hl => ?_)
                obtain ⟨K20, eK20, h17⟩ := dlt_s h15
                clear h15
                have kK20 : ∀ (σ19 : sT) (H : Heap) (locs : List Loc) (ls : Array Slot), Wd (wC X) (tC X) (aC X) X s σ19 H locs → lv_has ls 10 [(0, .ref (X.2.1 6)), (1, .int a1), (2, .ref (X.2.1 9)), (3, .int r6), (4, .int x7)] → K20 σ19 = some σz → W p l e rm_fRw_eliminate_6_9 s m args below meth c H locs 0 0 (MQ below (va_Qv (fun u => u = σz) (poW (wC X) (tC X) (aC X) X sz) (aA (aC X) sz)) args s 0 0 (aA (aC X) sz)) (F0 m 180 ls []) := by
                  intro σ19 H locs ls Z hl h16
                  rw [eK20] at h16
                  refine lv_iinc (v := x7 + (1 : Int32)) (lv' := [(4, .int (x7 + (1 : Int32))), (0, .ref (X.2.1 6)), (1, .int a1), (2, .ref (X.2.1 9)), (3, .int r6)]) hx hb dX4_eliminate_180 hl (k := 4) rfl (by rfl) (by decide) rfl (fun ls hl => ?_)
                  refine lv_goto (tgt := 21) hx hb dX4_eliminate_183 (by decide) ?_
                  exact ih12 (x7 + (1 : Int32)) σ19 _ _ _ Z (lv_sub hl [1, 2, 3, 4, 0] rfl) h16
                clear eK20
                have lL131 : ∀ (n : Nat), ∀ (x17 : Int32) (σ18 : sT) (H : Heap) (locs : List Loc) (ls : Array Slot), Wd (wC X) (tC X) (aC X) X s σ18 H locs → lv_has ls 10 [(0, .ref (X.2.1 6)), (1, .int a1), (2, .ref (X.2.1 9)), (3, .int r6), (4, .int x7), (5, .long x12), (7, .int x17)] → fRw_eliminate_L131 6 7 8 52 13 9 10 11 168 42 a1 x7 x12 K20 n x17 σ18 = some σz → W p l e rm_fRw_eliminate_6_9 s m args below meth c H locs 0 0 (MQ below (va_Qv (fun u => u = σz) (poW (wC X) (tC X) (aC X) X sz) (aA (aC X) sz)) args s 0 0 (aA (aC X) sz)) (F0 m 131 ls []) := by
                  intro n
                  induction n with
                  | zero =>
                    intro x17 σ18 H locs ls Z hl h
                    exact nomatch (show (none : Option (sT)) = some _ from h)
                  | succ n21 ih75 =>
                    intro x17 σ18 H locs ls Z hl h18
                    unfold fRw_eliminate_L131 at h18
                    refine lv_iload hx hb dX4_eliminate_131 (lv_at hl 6 rfl) ?_
                    refine lv_aload_n hx hb dX4_eliminate_133 rfl (lv_at hl 0 rfl) ?_
                    refine g_6_2 B Z kf_RX4_25 dX4_eliminate_134 ?_
                    refine lv_icmp_ge (tgt := 180) hx hb dX4_eliminate_137 (by decide) (fun c22 => ?_) (fun c22 => ?_)
                    · have h19 := dit h18 c22
                      clear h18
                      exact kK20 σ18 _ _ _ Z (lv_sub hl [0, 1, 2, 3, 4] rfl) h19
                    · have h20 := dif h18 c22
                      clear h18
                      refine lv_aload_n hx hb dX4_eliminate_140 rfl (lv_at hl 0 rfl) ?_
                      refine g_6_0 B Z kf_RX4_17 dX4_eliminate_141 ?_
                      refine lv_iload hx hb dX4_eliminate_144 (lv_at hl 6 rfl) ?_
                      refine lv_iconst (v := (4 : Int32)) hx hb dX4_eliminate_146 (by decide) ?_
                      refine lv_imul hx hb dX4_eliminate_147 ?_
                      refine lv_iload_n hx hb dX4_eliminate_148 rfl (lv_at hl 1 rfl) ?_
                      refine lv_iadd hx hb dX4_eliminate_149 ?_
                      obtain ⟨z23, h21⟩ := dck_s h20
                      clear h20
                      refine ld_7 B Z z23 dX4_eliminate_150 ?_
                      refine lv_topl (fun x24 ex24 => ?_)
                      have h22 := dlt_e ex24 h21
                      clear ex24 h21
                      refine lv_lstore (lv' := [(8, .long x24), (0, .ref (X.2.1 6)), (1, .int a1), (2, .ref (X.2.1 9)), (3, .int r6), (4, .int x7), (5, .long x12), (7, .int x17)]) hx hb dX4_eliminate_151 hl (by decide) rfl (fun ls hl => ?_)
                      refine lv_lload hx hb dX4_eliminate_153 (lv_at hl 0 rfl) ?_
                      refine lv_lconst (v := (0 : Int64)) hx hb dX4_eliminate_155 (by decide) ?_
                      refine W.lcmp hx hb dX4_eliminate_156 ?_
                      refine lv_if_ge (tgt := 174) hx hb dX4_eliminate_157 (by decide) (fun c25 => ?_) (fun c25 => ?_)
                      · have h23 := dit h22 c25
                        clear h22
                        refine lv_iinc (v := x17 + (1 : Int32)) (lv' := [(7, .int (x17 + (1 : Int32))), (8, .long x24), (0, .ref (X.2.1 6)), (1, .int a1), (2, .ref (X.2.1 9)), (3, .int r6), (4, .int x7), (5, .long x12)]) hx hb dX4_eliminate_174 hl (k := 7) rfl (by rfl) (by decide) rfl (fun ls hl => ?_)
                        refine lv_goto (tgt := 131) hx hb dX4_eliminate_177 (by decide) ?_
                        exact ih75 (x17 + (1 : Int32)) σ18 _ _ _ Z (lv_sub hl [2, 3, 4, 5, 6, 7, 0] rfl) h23
                      · have h24 := dif h22 c25
                        clear h22
                        refine lv_aload_n hx hb dX4_eliminate_160 rfl (lv_at hl 1 rfl) ?_
                        refine lv_iload hx hb dX4_eliminate_161 (lv_at hl 5 rfl) ?_
                        refine lv_lload hx hb dX4_eliminate_163 (lv_at hl 0 rfl) ?_
                        refine lv_lneg hx hb dX4_eliminate_165 ?_
                        refine lv_iload hx hb dX4_eliminate_166 (lv_at hl 7 rfl) ?_
                        refine lv_lload hx hb dX4_eliminate_168 (lv_at hl 6 rfl) ?_
                        refine lv_aload_n hx hb dX4_eliminate_170 rfl (lv_at hl 3 rfl) ?_
                        obtain ⟨σ27, hc25, h25⟩ := db1_s h24
                        clear h24
                        refine cV_V [.int x7, .long (-x24), .int x17, .long x12, .ref (X.2.1 9)] [] B mx_yX4_mix (c_fRw_mix_6_9 l X _ x7 (-x24) x17 x12 σ18 σ27 hc25) kl_RX4_40 mi_yX4_mix (rv_6 _ _) hcl_4 Z hl rfl rfl ⟨Nat.le_of_ble_eq_true rfl, Nat.le_of_ble_eq_true rfl⟩ rfl rfl (Nat.le_of_ble_eq_true rfl) dX4_eliminate_171 (fun H locs Z => ?_)
                        clear hc25
                        refine lv_iinc (v := x17 + (1 : Int32)) (lv' := [(7, .int (x17 + (1 : Int32))), (8, .long x24), (0, .ref (X.2.1 6)), (1, .int a1), (2, .ref (X.2.1 9)), (3, .int r6), (4, .int x7), (5, .long x12)]) hx hb dX4_eliminate_174 hl (k := 7) rfl (by rfl) (by decide) rfl (fun ls hl => ?_)
                        refine lv_goto (tgt := 131) hx hb dX4_eliminate_177 (by decide) ?_
                        exact ih75 (x17 + (1 : Int32)) σ27 _ _ _ Z (lv_sub hl [2, 3, 4, 5, 6, 7, 0] rfl) h25
                exact lL131 FU (0 : Int32) σ8 _ _ _ Z (lv_sub hl [1, 2, 3, 4, 5, 6, 0] rfl) h17
          clear eJ14
          refine lv_if_lt (tgt := 117) hx hb dX4_eliminate_65 (by decide) (fun c28 => ?_) (fun c28 => ?_)
          · have h27 := dit h26 c28
            clear h26
            exact kJ14  _ _ _ Z (lv_sub hl [1, 2, 3, 4, 5, 0] rfl) h27
          · have h28 := dif h26 c28
            clear h26
            refine lv_iload hx hb dX4_eliminate_68 (lv_at hl 5 rfl) ?_
            refine lv_iload_n hx hb dX4_eliminate_70 rfl (lv_at hl 4 rfl) ?_
            refine lv_icmp_eq (tgt := 117) hx hb dX4_eliminate_71 (by decide) (fun c29 => ?_) (fun c29 => ?_)
            · have h29 := dit h28 c29
              clear h28
              exact kJ14  _ _ _ Z (lv_sub hl [1, 2, 3, 4, 5, 0] rfl) h29
            · have h30 := dif h28 c29
              clear h28
              refine lv_aload_n hx hb dX4_eliminate_74 rfl (lv_at hl 1 rfl) ?_
              refine g_6_0 B Z kf_RX4_17 dX4_eliminate_75 ?_
              refine lv_iload_n hx hb dX4_eliminate_78 rfl (lv_at hl 4 rfl) ?_
              refine lv_iconst (v := (4 : Int32)) hx hb dX4_eliminate_79 (by decide) ?_
              refine lv_imul hx hb dX4_eliminate_80 ?_
              refine lv_iload_n hx hb dX4_eliminate_81 rfl (lv_at hl 2 rfl) ?_
              refine lv_iadd hx hb dX4_eliminate_82 ?_
              obtain ⟨z30, h31⟩ := dck_s h30
              clear h30
              refine ld_7 B Z z30 dX4_eliminate_83 ?_
              refine lv_topl (fun x31 ex31 => ?_)
              have h32 := dlt_e ex31 h31
              clear ex31 h31
              refine lv_lstore (lv' := [(7, .long x31), (5, .long x12), (0, .ref (X.2.1 6)), (1, .int a1), (2, .ref (X.2.1 9)), (3, .int r6), (4, .int x7)]) hx hb dX4_eliminate_84 hl (by decide) rfl (fun ls hl => ?_)
              refine lv_aload_n hx hb dX4_eliminate_86 rfl (lv_at hl 2 rfl) ?_
              refine lv_iload hx hb dX4_eliminate_87 (lv_at hl 6 rfl) ?_
              refine lv_lload hx hb dX4_eliminate_89 (lv_at hl 0 rfl) ?_
              refine va_mabs_long hx hb (B.2.2.1.trans hl.1.symm) B.2.2.2.1 (B.2.2.2.2.1 _ kl_RX4_44) (B.2.2.2.2.1 _ ks_JabsJ) (B.2.2.2.2.1 _ kz_RJ9) (B.2.2.2.2.1 _ kd_JabsJ) (Nat.le_of_ble_eq_true rfl) (Nat.le_of_ble_eq_true rfl) (Nat.zero_le _) (Nat.zero_le _) dX4_eliminate_91 ?_
              refine lv_iload_n hx hb dX4_eliminate_94 rfl (lv_at hl 5 rfl) ?_
              refine lv_lload hx hb dX4_eliminate_95 (lv_at hl 0 rfl) ?_
              refine lv_lconst (v := (0 : Int64)) hx hb dX4_eliminate_97 (by decide) ?_
              refine W.lcmp hx hb dX4_eliminate_98 ?_
              obtain ⟨J36, eJ36, h35⟩ := dlt_s h32
              clear h32
              have kJ36 : ∀ (x32 : Int32) (x33 : Int64) (x34 : Int32) (x35 : Int64) (H : Heap) (locs : List Loc) (ls : Array Slot), Wd (wC X) (tC X) (aC X) X s σ8 H locs → lv_has ls 10 [(0, .ref (X.2.1 6)), (1, .int a1), (2, .ref (X.2.1 9)), (3, .int r6), (4, .int x7)] → J36 x32 x33 x34 x35 = some σz → W p l e rm_fRw_eliminate_6_9 s m args below meth c H locs 0 0 (MQ below (va_Qv (fun u => u = σz) (poW (wC X) (tC X) (aC X) X sz) (aA (aC X) sz)) args s 0 0 (aA (aC X) sz)) (F0 m 110 ls [.long x35, .int x34, .long x33, .int x32, .ref (X.2.1 6)]) := by
                intro x32 x33 x34 x35 H locs ls Z hl h33
                rw [eJ36] at h33
                refine lv_aload_n hx hb dX4_eliminate_110 rfl (lv_at hl 2 rfl) ?_
                obtain ⟨σ38, hc36, h34⟩ := db1_s h33
                clear h33
                refine cV_V [.int x32, .long x33, .int x34, .long x35, .ref (X.2.1 9)] [] B mx_yX4_mix (c_fRw_mix_6_9 l X _ x32 x33 x34 x35 σ8 σ38 hc36) kl_RX4_40 mi_yX4_mix (rv_6 _ _) hcl_4 Z hl rfl rfl ⟨Nat.le_of_ble_eq_true rfl, Nat.le_of_ble_eq_true rfl⟩ rfl rfl (Nat.le_of_ble_eq_true rfl) dX4_eliminate_111 (fun H locs Z => ?_)
                clear hc36
                refine lv_goto (tgt := 180) hx hb dX4_eliminate_114 (by decide) ?_
                refine lv_iinc (v := x7 + (1 : Int32)) (lv' := [(4, .int (x7 + (1 : Int32))), (0, .ref (X.2.1 6)), (1, .int a1), (2, .ref (X.2.1 9)), (3, .int r6)]) hx hb dX4_eliminate_180 hl (k := 4) rfl (by rfl) (by decide) rfl (fun ls hl => ?_)
                refine lv_goto (tgt := 21) hx hb dX4_eliminate_183 (by decide) ?_
                exact ih12 (x7 + (1 : Int32)) σ38 _ _ _ Z (lv_sub hl [1, 2, 3, 4, 0] rfl) h34
              clear eJ36
              refine lv_if_le (tgt := 108) hx hb dX4_eliminate_99 (by decide) (fun c39 => ?_) (fun c39 => ?_)
              · have h36 := dit h35 c39
                clear h35
                refine lv_lload hx hb dX4_eliminate_108 (lv_at hl 1 rfl) ?_
                exact kJ36 x7 (if 0 < x31 then x31 else -x31) r6 x12 _ _ _ Z (lv_sub hl [2, 3, 4, 5, 6] rfl) h36
              · have h37 := dif h35 c39
                clear h35
                refine lv_lload hx hb dX4_eliminate_102 (lv_at hl 1 rfl) ?_
                refine lv_lneg hx hb dX4_eliminate_104 ?_
                refine lv_goto (tgt := 110) hx hb dX4_eliminate_105 (by decide) ?_
                exact kJ36 x7 (if 0 < x31 then x31 else -x31) r6 (-x12) _ _ _ Z (lv_sub hl [2, 3, 4, 5, 6] rfl) h37
        · have h38 := dit h9 c13
          clear h9
          refine lv_aload_n hx hb dX4_eliminate_50 rfl (lv_at hl 1 rfl) ?_
          refine lv_iload hx hb dX4_eliminate_51 (lv_at hl 5 rfl) ?_
          refine lv_lconst (v := (1 : Int64)) hx hb dX4_eliminate_53 (by decide) ?_
          refine lv_iload hx hb dX4_eliminate_54 (lv_at hl 5 rfl) ?_
          refine lv_lconst (v := (0 : Int64)) hx hb dX4_eliminate_56 (by decide) ?_
          refine lv_aload_n hx hb dX4_eliminate_57 rfl (lv_at hl 3 rfl) ?_
          obtain ⟨σ41, hc39, h39⟩ := db1_s h38
          clear h38
          refine cV_V [.int x7, .long (1 : Int64), .int x7, .long (0 : Int64), .ref (X.2.1 9)] [] B mx_yX4_mix (c_fRw_mix_6_9 l X _ x7 (1 : Int64) x7 (0 : Int64) σ8 σ41 hc39) kl_RX4_40 mi_yX4_mix (rv_6 _ _) hcl_4 Z hl rfl rfl ⟨Nat.le_of_ble_eq_true rfl, Nat.le_of_ble_eq_true rfl⟩ rfl rfl (Nat.le_of_ble_eq_true rfl) dX4_eliminate_58 (fun H locs Z => ?_)
          clear hc39
          refine lv_goto (tgt := 180) hx hb dX4_eliminate_61 (by decide) ?_
          refine lv_iinc (v := x7 + (1 : Int32)) (lv' := [(4, .int (x7 + (1 : Int32))), (5, .long x12), (0, .ref (X.2.1 6)), (1, .int a1), (2, .ref (X.2.1 9)), (3, .int r6)]) hx hb dX4_eliminate_180 hl (k := 5) rfl (by rfl) (by decide) rfl (fun ls hl => ?_)
          refine lv_goto (tgt := 21) hx hb dX4_eliminate_183 (by decide) ?_
          exact ih12 (x7 + (1 : Int32)) σ41 _ _ _ Z (lv_sub hl [2, 3, 4, 5, 0] rfl) h39
  exact lL21 FU (0 : Int32) σ4 _ _ _ Z (lv_sub hl [2, 3, 4, 1, 0] rfl) h4
def rm_fRw_empty_12 : Room := { frames := 1, cells := 0, slots := 0, locals := 60 }
set_option maxHeartbeats 4000000 in
set_option maxRecDepth 100000 in
theorem c_fRw_empty_12 (l : Launch) (X : eX) (sz : Nat)  (σ : sT) (σz : sT) (h0 : fRw_empty 12 13 14 1764 441 σ = some σz) : ctV l yX4_empty cX4_empty 1 none rm_fRw_empty_12 [.ref (X.2.1 12)] (wC X) (tC X) (aC X) X sz σ σz := by
  refine ct_of (by decide +kernel) (Nat.le_of_ble_eq_true rfl) ?_
  intro p e s m args below meth c ls hz B hl Z
  have B : Bd p s m args meth c RX4 cX4_empty 1 none := B
  have hl : lv_has ls 1 [(0, .ref (X.2.1 12))] := hl
  have hx := B.1
  have hb := B.2.1
  unfold fRw_empty at h0
  refine lv_aload_n hx hb dX4_empty_0 rfl (lv_at hl 0 rfl) ?_
  refine lv_iconst (v := (0 : Int32)) hx hb dX4_empty_1 (by decide) ?_
  refine s_12_2 B Z kf_RX4_25 dX4_empty_2 (fun H locs Z => ?_)
  obtain ⟨σ1, eσ1, h1⟩ := dlt_s h0
  clear h0
  replace Z := Wd.eq eσ1 Z
  clear eσ1
  refine lv_aload_n hx hb dX4_empty_5 rfl (lv_at hl 0 rfl) ?_
  refine lv_iconst (v := (0 : Int32)) hx hb dX4_empty_6 (by decide) ?_
  refine s_12_3 B Z (by decide) kf_RX4_29 dX4_empty_7 (fun H locs Z => ?_)
  obtain ⟨σ2, eσ2, h2⟩ := dlt_s h1
  clear h1
  replace Z := Wd.eq eσ2 Z
  clear eσ2
  exact reV B Z hz h2 dX4_empty_10
