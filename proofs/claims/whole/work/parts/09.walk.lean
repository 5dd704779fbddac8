def rm_fRw_equalityWith_9 : Room := { frames := 1, cells := 0, slots := 0, locals := 60 }
set_option maxHeartbeats 4000000 in
set_option maxRecDepth 100000 in
theorem c_fRw_equalityWith_9 (l : Launch) (X : eX) (sz : Nat) (a1 : Int32) (σ : sT) (rz : Int32) (h0 : fRw_equalityWith 9 10 11 168 42 a1 σ = some rz) : ctI l yX4_equalityWith cX4_equalityWith 3 (some .int) rm_fRw_equalityWith_9 [.ref (X.2.1 9), .int a1] (wC X) (tC X) (aC X) X sz σ rz σ := by
  refine ct_of (by decide +kernel) (Nat.le_of_ble_eq_true rfl) ?_
  intro p e s m args below meth c ls hz B hl Z
  have B : Bd p s m args meth c RX4 cX4_equalityWith 3 (some .int) := B
  have hl : lv_has ls 3 [(0, .ref (X.2.1 9)), (1, .int a1)] := hl
  have hx := B.1
  have hb := B.2.1
  unfold fRw_equalityWith at h0
  refine lv_iconst (v := (0 : Int32)) hx hb dX4_equalityWith_0 (by decide) ?_
  refine lv_istore_n (lv' := [(2, .int (0 : Int32)), (0, .ref (X.2.1 9)), (1, .int a1)]) hx hb dX4_equalityWith_1 rfl hl (by decide) rfl (fun ls hl => ?_)
  have lL2 : ∀ (n : Nat), ∀ (x1 : Int32) (H : Heap) (locs : List Loc) (ls : Array Slot), Wd (wC X) (tC X) (aC X) X s σ H locs → lv_has ls 3 [(0, .ref (X.2.1 9)), (1, .int a1), (2, .int x1)] → fRw_equalityWith_L2 9 10 11 168 42 a1 σ n x1 = some rz → W p l e rm_fRw_equalityWith_9 s m args below meth c H locs 0 0 (MQ below (va_Qi (fun a u => a = rz ∧ u = σ) (poW (wC X) (tC X) (aC X) X sz) (aA (aC X) sz)) args s 0 0 (aA (aC X) sz)) (F0 m 2 ls []) := by
    intro n
    induction n with
    | zero =>
      intro x1 H locs ls Z hl h
      exact nomatch (show (none : Option (Int32)) = some _ from h)
    | succ n2 ih2 =>
      intro x1 H locs ls Z hl h1
      unfold fRw_equalityWith_L2 at h1
      refine lv_iload_n hx hb dX4_equalityWith_2 rfl (lv_at hl 2 rfl) ?_
      refine lv_aload_n hx hb dX4_equalityWith_3 rfl (lv_at hl 0 rfl) ?_
      refine g_9_2 B Z kf_RX4_25 dX4_equalityWith_4 ?_
      refine lv_icmp_ge (tgt := 43) hx hb dX4_equalityWith_7 (by decide) (fun c3 => ?_) (fun c3 => ?_)
      · have h2 := dit h1 c3
        clear h1
        refine lv_iconst (v := (-1 : Int32)) hx hb dX4_equalityWith_43 (by decide) ?_
        exact reI B Z rfl hz (congrArg (Option.map (fun q => (q, σ))) h2) dX4_equalityWith_44
      · have h3 := dif h1 c3
        clear h1
        refine lv_aload_n hx hb dX4_equalityWith_10 rfl (lv_at hl 0 rfl) ?_
        refine g_9_1 B Z kf_RX4_21 dX4_equalityWith_11 ?_
        refine lv_iload_n hx hb dX4_equalityWith_14 rfl (lv_at hl 2 rfl) ?_
        obtain ⟨z4, h4⟩ := dck_s h3
        clear h3
        refine ld_11 B Z z4 dX4_equalityWith_15 ?_
        refine lv_iconst (v := (2 : Int32)) hx hb dX4_equalityWith_16 (by decide) ?_
        refine lv_icmp_ne (tgt := 37) hx hb dX4_equalityWith_17 (by decide) (fun c5 => ?_) (fun c5 => ?_)
        · have h5 := dif h4 c5
          clear h4
          refine lv_iinc (v := x1 + (1 : Int32)) (lv' := [(2, .int (x1 + (1 : Int32))), (0, .ref (X.2.1 9)), (1, .int a1)]) hx hb dX4_equalityWith_37 hl (k := 2) rfl (by rfl) (by decide) rfl (fun ls hl => ?_)
          refine lv_goto (tgt := 2) hx hb dX4_equalityWith_40 (by decide) ?_
          exact ih2 (x1 + (1 : Int32)) _ _ _ Z (lv_sub hl [1, 2, 0] rfl) h5
        · have h6 := dit h4 c5
          clear h4
          refine lv_aload_n hx hb dX4_equalityWith_20 rfl (lv_at hl 0 rfl) ?_
          refine g_9_0 B Z kf_RX4_17 dX4_equalityWith_21 ?_
          refine lv_iload_n hx hb dX4_equalityWith_24 rfl (lv_at hl 2 rfl) ?_
          refine lv_iconst (v := (4 : Int32)) hx hb dX4_equalityWith_25 (by decide) ?_
          refine lv_imul hx hb dX4_equalityWith_26 ?_
          refine lv_iload_n hx hb dX4_equalityWith_27 rfl (lv_at hl 1 rfl) ?_
          refine lv_iadd hx hb dX4_equalityWith_28 ?_
          obtain ⟨z6, h7⟩ := dck_s h6
          clear h6
          refine ld_10 B Z z6 dX4_equalityWith_29 ?_
          refine lv_lconst (v := (0 : Int64)) hx hb dX4_equalityWith_30 (by decide) ?_
          refine W.lcmp hx hb dX4_equalityWith_31 ?_
          refine lv_if_eq (tgt := 37) hx hb dX4_equalityWith_32 (by decide) (fun c7 => ?_) (fun c7 => ?_)
          · have h8 := dit h7 c7
            clear h7
            refine lv_iinc (v := x1 + (1 : Int32)) (lv' := [(2, .int (x1 + (1 : Int32))), (0, .ref (X.2.1 9)), (1, .int a1)]) hx hb dX4_equalityWith_37 hl (k := 2) rfl (by rfl) (by decide) rfl (fun ls hl => ?_)
            refine lv_goto (tgt := 2) hx hb dX4_equalityWith_40 (by decide) ?_
            exact ih2 (x1 + (1 : Int32)) _ _ _ Z (lv_sub hl [1, 2, 0] rfl) h8
          · have h9 := dif h7 c7
            clear h7
            refine lv_iload_n hx hb dX4_equalityWith_35 rfl (lv_at hl 2 rfl) ?_
            exact reI B Z rfl hz (congrArg (Option.map (fun q => (q, σ))) h9) dX4_equalityWith_36
  exact lL2 FU (0 : Int32) _ _ _ Z (lv_sub hl [1, 2, 0] rfl) h0
def rm_fRw_keep_12 : Room := { frames := 1, cells := 0, slots := 0, locals := 60 }
set_option maxHeartbeats 4000000 in
set_option maxRecDepth 100000 in
theorem c_fRw_keep_12 (l : Launch) (X : eX) (sz : Nat) (a1 : Int64) (a2 : Int64) (a3 : Int64) (a4 : Int64) (a5 : Int32) (σ : sT) (σz : sT) (h0 : fRw_keep 12 13 14 1764 441 a1 a2 a3 a4 a5 σ = some σz) : ctV l yX4_keep cX4_keep 11 none rm_fRw_keep_12 [.ref (X.2.1 12), .long a1, .long a2, .long a3, .long a4, .int a5] (wC X) (tC X) (aC X) X sz σ σz := by
  refine ct_of (by decide +kernel) (Nat.le_of_ble_eq_true rfl) ?_
  intro p e s m args below meth c ls hz B hl Z
  have B : Bd p s m args meth c RX4 cX4_keep 11 none := B
  have hl : lv_has ls 11 [(0, .ref (X.2.1 12)), (1, .long a1), (3, .long a2), (5, .long a3), (7, .long a4), (9, .int a5)] := hl
  have hx := B.1
  have hb := B.2.1
  unfold fRw_keep at h0
  refine lv_lload_n hx hb dX4_keep_0 rfl (lv_at hl 1 rfl) ?_
  refine lv_lconst (v := (0 : Int64)) hx hb dX4_keep_1 (by decide) ?_
  refine W.lcmp hx hb dX4_keep_2 ?_
  obtain ⟨J1, eJ1, h16⟩ := dlt_s h0
  clear h0
  have kJ1 : ∀ (H : Heap) (locs : List Loc) (ls : Array Slot), Wd (wC X) (tC X) (aC X) X s σ H locs → lv_has ls 11 [(0, .ref (X.2.1 12)), (1, .long a1), (3, .long a2), (5, .long a3), (7, .long a4), (9, .int a5)] → J1 () = some σz → W p l e rm_fRw_keep_12 s m args below meth c H locs 0 0 (MQ below (va_Qv (fun u => u = σz) (poW (wC X) (tC X) (aC X) X sz) (aA (aC X) sz)) args s 0 0 (aA (aC X) sz)) (F0 m 96 ls []) := by
    intro  H locs ls Z hl h1
    rw [eJ1] at h1
    refine lv_aload_n hx hb dX4_keep_96 rfl (lv_at hl 0 rfl) ?_
    refine g_12_2 B Z kf_RX4_25 dX4_keep_97 ?_
    refine lv_aload_n hx hb dX4_keep_100 rfl (lv_at hl 0 rfl) ?_
    refine g_12_1 B Z kf_RX4_21 dX4_keep_101 ?_
    refine len_14 B Z dX4_keep_104 ?_
    refine lv_icmp_lt (tgt := 109) hx hb dX4_keep_105 (by decide) (fun c2 => ?_) (fun c2 => ?_)
    · have h2 := dit h1 c2
      clear h1
      refine lv_aload_n hx hb dX4_keep_109 rfl (lv_at hl 0 rfl) ?_
      refine g_12_2 B Z kf_RX4_25 dX4_keep_110 ?_
      refine lv_iconst (v := (4 : Int32)) hx hb dX4_keep_113 (by decide) ?_
      refine lv_imul hx hb dX4_keep_114 ?_
      refine lv_topi (fun x3 ex3 => ?_)
      have h3 := dlt_e ex3 h2
      clear ex3 h2
      refine lv_istore (lv' := [(10, .int x3), (0, .ref (X.2.1 12)), (1, .long a1), (3, .long a2), (5, .long a3), (7, .long a4), (9, .int a5)]) hx hb dX4_keep_115 hl (by decide) rfl (fun ls hl => ?_)
      refine lv_aload_n hx hb dX4_keep_117 rfl (lv_at hl 1 rfl) ?_
      refine g_12_0 B Z kf_RX4_17 dX4_keep_118 ?_
      refine lv_iload hx hb dX4_keep_121 (lv_at hl 0 rfl) ?_
      refine lv_lload_n hx hb dX4_keep_123 rfl (lv_at hl 2 rfl) ?_
      obtain ⟨z4, h4⟩ := dck_s h3
      clear h3
      refine st_13 B Z z4 dX4_keep_124 (fun H locs Z => ?_)
      obtain ⟨σ5, eσ5, h5⟩ := dlt_s h4
      clear h4
      replace Z := Wd.eq eσ5 Z
      clear eσ5
      refine lv_aload_n hx hb dX4_keep_125 rfl (lv_at hl 1 rfl) ?_
      refine g_12_0 B Z kf_RX4_17 dX4_keep_126 ?_
      refine lv_iload hx hb dX4_keep_129 (lv_at hl 0 rfl) ?_
      refine lv_iconst (v := (1 : Int32)) hx hb dX4_keep_131 (by decide) ?_
      refine lv_iadd hx hb dX4_keep_132 ?_
      refine lv_lload_n hx hb dX4_keep_133 rfl (lv_at hl 3 rfl) ?_
      obtain ⟨z6, h6⟩ := dck_s h5
      clear h5
      refine st_13 B Z z6 dX4_keep_134 (fun H locs Z => ?_)
      obtain ⟨σ7, eσ7, h7⟩ := dlt_s h6
      clear h6
      replace Z := Wd.eq eσ7 Z
      clear eσ7
      refine lv_aload_n hx hb dX4_keep_135 rfl (lv_at hl 1 rfl) ?_
      refine g_12_0 B Z kf_RX4_17 dX4_keep_136 ?_
      refine lv_iload hx hb dX4_keep_139 (lv_at hl 0 rfl) ?_
      refine lv_iconst (v := (2 : Int32)) hx hb dX4_keep_141 (by decide) ?_
      refine lv_iadd hx hb dX4_keep_142 ?_
      refine lv_lload hx hb dX4_keep_143 (lv_at hl 4 rfl) ?_
      obtain ⟨z8, h8⟩ := dck_s h7
      clear h7
      refine st_13 B Z z8 dX4_keep_145 (fun H locs Z => ?_)
      obtain ⟨σ9, eσ9, h9⟩ := dlt_s h8
      clear h8
      replace Z := Wd.eq eσ9 Z
      clear eσ9
      refine lv_aload_n hx hb dX4_keep_146 rfl (lv_at hl 1 rfl) ?_
      refine g_12_0 B Z kf_RX4_17 dX4_keep_147 ?_
      refine lv_iload hx hb dX4_keep_150 (lv_at hl 0 rfl) ?_
      refine lv_iconst (v := (3 : Int32)) hx hb dX4_keep_152 (by decide) ?_
      refine lv_iadd hx hb dX4_keep_153 ?_
      refine lv_lload hx hb dX4_keep_154 (lv_at hl 5 rfl) ?_
      obtain ⟨z10, h10⟩ := dck_s h9
      clear h9
      refine st_13 B Z z10 dX4_keep_156 (fun H locs Z => ?_)
      obtain ⟨σ11, eσ11, h11⟩ := dlt_s h10
      clear h10
      replace Z := Wd.eq eσ11 Z
      clear eσ11
      refine lv_aload_n hx hb dX4_keep_157 rfl (lv_at hl 1 rfl) ?_
      refine g_12_1 B Z kf_RX4_21 dX4_keep_158 ?_
      refine lv_aload_n hx hb dX4_keep_161 rfl (lv_at hl 1 rfl) ?_
      refine g_12_2 B Z kf_RX4_25 dX4_keep_162 ?_
      refine lv_iload hx hb dX4_keep_165 (lv_at hl 6 rfl) ?_
      obtain ⟨z12, h12⟩ := dck_s h11
      clear h11
      refine st_14 B Z z12 dX4_keep_167 (fun H locs Z => ?_)
      obtain ⟨σ13, eσ13, h13⟩ := dlt_s h12
      clear h12
      replace Z := Wd.eq eσ13 Z
      clear eσ13
      refine lv_aload_n hx hb dX4_keep_168 rfl (lv_at hl 1 rfl) ?_
      refine lv_dup hx hb dX4_keep_169 rfl ?_
      refine g_12_2 B Z kf_RX4_25 dX4_keep_170 ?_
      refine lv_iconst (v := (1 : Int32)) hx hb dX4_keep_173 (by decide) ?_
      refine lv_iadd hx hb dX4_keep_174 ?_
      refine s_12_2 B Z kf_RX4_25 dX4_keep_175 (fun H locs Z => ?_)
      obtain ⟨σ14, eσ14, h14⟩ := dlt_s h13
      clear h13
      replace Z := Wd.eq eσ14 Z
      clear eσ14
      exact reV B Z hz h14 dX4_keep_178
    · have h15 := dif h1 c2
      clear h1
      exact reV B Z hz h15 dX4_keep_108
  clear eJ1
  refine lv_if_ne (tgt := 96) hx hb dX4_keep_3 (by decide) (fun c15 => ?_) (fun c15 => ?_)
  · have h17 := dif h16 c15
    clear h16
    exact kJ1  _ _ _ Z (lv_sub hl [0, 1, 2, 3, 4, 5] rfl) h17
  · have h18 := dit h16 c15
    clear h16
    refine lv_lload_n hx hb dX4_keep_6 rfl (lv_at hl 2 rfl) ?_
    refine lv_lconst (v := (0 : Int64)) hx hb dX4_keep_7 (by decide) ?_
    refine W.lcmp hx hb dX4_keep_8 ?_
    refine lv_if_ne (tgt := 96) hx hb dX4_keep_9 (by decide) (fun c16 => ?_) (fun c16 => ?_)
    · have h19 := dif h18 c16
      clear h18
      exact kJ1  _ _ _ Z (lv_sub hl [0, 1, 2, 3, 4, 5] rfl) h19
    · have h20 := dit h18 c16
      clear h18
      refine lv_lload hx hb dX4_keep_12 (lv_at hl 3 rfl) ?_
      refine lv_lconst (v := (0 : Int64)) hx hb dX4_keep_14 (by decide) ?_
      refine W.lcmp hx hb dX4_keep_15 ?_
      refine lv_if_ne (tgt := 96) hx hb dX4_keep_16 (by decide) (fun c17 => ?_) (fun c17 => ?_)
      · have h21 := dif h20 c17
        clear h20
        exact kJ1  _ _ _ Z (lv_sub hl [0, 1, 2, 3, 4, 5] rfl) h21
      · have h22 := dit h20 c17
        clear h20
        refine lv_iload hx hb dX4_keep_19 (lv_at hl 5 rfl) ?_
        obtain ⟨J19, eJ19, h34⟩ := dlt_s h22
        clear h22
        have kJ19 : ∀ (x18 : Int32) (H : Heap) (locs : List Loc) (ls : Array Slot), Wd (wC X) (tC X) (aC X) X s σ H locs → lv_has ls 11 [(0, .ref (X.2.1 12))] → J19 x18 = some σz → W p l e rm_fRw_keep_12 s m args below meth c H locs 0 0 (MQ below (va_Qv (fun u => u = σz) (poW (wC X) (tC X) (aC X) X sz) (aA (aC X) sz)) args s 0 0 (aA (aC X) sz)) (F0 m 72 ls [.int x18]) := by
          intro x18 H locs ls Z hl h23
          rw [eJ19] at h23
          refine lv_istore (lv' := [(10, .int x18), (0, .ref (X.2.1 12))]) hx hb dX4_keep_72 hl (by decide) rfl (fun ls hl => ?_)
          refine lv_aload_n hx hb dX4_keep_74 rfl (lv_at hl 1 rfl) ?_
          refine lv_aload_n hx hb dX4_keep_75 rfl (lv_at hl 1 rfl) ?_
          refine g_12_3 B Z kf_RX4_29 dX4_keep_76 ?_
          obtain ⟨J21, eJ21, h27⟩ := dlt_s h23
          clear h23
          have kJ21 : ∀ (x20 : Int32) (H : Heap) (locs : List Loc) (ls : Array Slot), Wd (wC X) (tC X) (aC X) X s σ H locs → lv_has ls 11 [] → J21 x20 = some σz → W p l e rm_fRw_keep_12 s m args below meth c H locs 0 0 (MQ below (va_Qv (fun u => u = σz) (poW (wC X) (tC X) (aC X) X sz) (aA (aC X) sz)) args s 0 0 (aA (aC X) sz)) (F0 m 92 ls [.int x20, .ref (X.2.1 12)]) := by
            intro x20 H locs ls Z hl h24
            rw [eJ21] at h24
            obtain ⟨z22, h25⟩ := dck_s h24
            clear h24
            refine s_12_3 B Z z22 kf_RX4_29 dX4_keep_92 (fun H locs Z => ?_)
            obtain ⟨σ23, eσ23, h26⟩ := dlt_s h25
            clear h25
            replace Z := Wd.eq eσ23 Z
            clear eσ23
            exact reV B Z hz h26 dX4_keep_95
          clear eJ21
          obtain ⟨J24, eJ24, h29⟩ := dlt_s h27
          clear h27
          have kJ24 : ∀ (H : Heap) (locs : List Loc) (ls : Array Slot), Wd (wC X) (tC X) (aC X) X s σ H locs → lv_has ls 11 [] → J24 () = some σz → W p l e rm_fRw_keep_12 s m args below meth c H locs 0 0 (MQ below (va_Qv (fun u => u = σz) (poW (wC X) (tC X) (aC X) X sz) (aA (aC X) sz)) args s 0 0 (aA (aC X) sz)) (F0 m 87 ls [.ref (X.2.1 12)]) := by
            intro  H locs ls Z hl h28
            rw [eJ24] at h28
            refine lv_iconst (v := (1 : Int32)) hx hb dX4_keep_87 (by decide) ?_
            refine lv_goto (tgt := 92) hx hb dX4_keep_88 (by decide) ?_
            exact kJ21 (1 : Int32) _ _ _ Z (lv_sub hl [] rfl) h28
          clear eJ24
          refine lv_if_ne (tgt := 87) hx hb dX4_keep_79 (by decide) (fun c25 => ?_) (fun c25 => ?_)
          · have h30 := dif h29 c25
            clear h29
            exact kJ24  _ _ _ Z (lv_sub hl [] rfl) h30
          · have h31 := dit h29 c25
            clear h29
            refine lv_iload hx hb dX4_keep_82 (lv_at hl 0 rfl) ?_
            refine lv_if_ne (tgt := 91) hx hb dX4_keep_84 (by decide) (fun c26 => ?_) (fun c26 => ?_)
            · have h32 := dif h31 c26
              clear h31
              refine lv_iconst (v := (0 : Int32)) hx hb dX4_keep_91 (by decide) ?_
              exact kJ21 (0 : Int32) _ _ _ Z (lv_sub hl [] rfl) h32
            · have h33 := dit h31 c26
              clear h31
              exact kJ24  _ _ _ Z (lv_sub hl [] rfl) h33
        clear eJ19
        refine lv_if_ne (tgt := 39) hx hb dX4_keep_21 (by decide) (fun c27 => ?_) (fun c27 => ?_)
        · have h35 := dif h34 c27
          clear h34
          refine lv_iload hx hb dX4_keep_39 (lv_at hl 5 rfl) ?_
          refine lv_iconst (v := (1 : Int32)) hx hb dX4_keep_41 (by decide) ?_
          refine lv_icmp_ne (tgt := 60) hx hb dX4_keep_42 (by decide) (fun c28 => ?_) (fun c28 => ?_)
          · have h36 := dif h35 c28
            clear h35
            refine lv_lload hx hb dX4_keep_60 (lv_at hl 4 rfl) ?_
            refine lv_lconst (v := (0 : Int64)) hx hb dX4_keep_62 (by decide) ?_
            refine W.lcmp hx hb dX4_keep_63 ?_
            refine lv_if_ne (tgt := 71) hx hb dX4_keep_64 (by decide) (fun c29 => ?_) (fun c29 => ?_)
            · have h37 := dif h36 c29
              clear h36
              refine lv_iconst (v := (0 : Int32)) hx hb dX4_keep_71 (by decide) ?_
              exact kJ19 (0 : Int32) _ _ _ Z (lv_sub hl [0] rfl) h37
            · have h38 := dit h36 c29
              clear h36
              refine lv_iconst (v := (1 : Int32)) hx hb dX4_keep_67 (by decide) ?_
              refine lv_goto (tgt := 72) hx hb dX4_keep_68 (by decide) ?_
              exact kJ19 (1 : Int32) _ _ _ Z (lv_sub hl [0] rfl) h38
          · have h39 := dit h35 c28
            clear h35
            refine lv_lload hx hb dX4_keep_45 (lv_at hl 4 rfl) ?_
            refine lv_lconst (v := (0 : Int64)) hx hb dX4_keep_47 (by decide) ?_
            refine W.lcmp hx hb dX4_keep_48 ?_
            refine lv_if_lt (tgt := 56) hx hb dX4_keep_49 (by decide) (fun c30 => ?_) (fun c30 => ?_)
            · have h40 := dit h39 c30
              clear h39
              refine lv_iconst (v := (0 : Int32)) hx hb dX4_keep_56 (by decide) ?_
              refine lv_goto (tgt := 72) hx hb dX4_keep_57 (by decide) ?_
              exact kJ19 (0 : Int32) _ _ _ Z (lv_sub hl [0] rfl) h40
            · have h41 := dif h39 c30
              clear h39
              refine lv_iconst (v := (1 : Int32)) hx hb dX4_keep_52 (by decide) ?_
              refine lv_goto (tgt := 72) hx hb dX4_keep_53 (by decide) ?_
              exact kJ19 (1 : Int32) _ _ _ Z (lv_sub hl [0] rfl) h41
        · have h42 := dit h34 c27
          clear h34
          refine lv_lload hx hb dX4_keep_24 (lv_at hl 4 rfl) ?_
          refine lv_lconst (v := (0 : Int64)) hx hb dX4_keep_26 (by decide) ?_
          refine W.lcmp hx hb dX4_keep_27 ?_
          refine lv_if_le (tgt := 35) hx hb dX4_keep_28 (by decide) (fun c31 => ?_) (fun c31 => ?_)
          · have h43 := dit h42 c31
            clear h42
            refine lv_iconst (v := (0 : Int32)) hx hb dX4_keep_35 (by decide) ?_
            refine lv_goto (tgt := 72) hx hb dX4_keep_36 (by decide) ?_
            exact kJ19 (0 : Int32) _ _ _ Z (lv_sub hl [0] rfl) h43
          · have h44 := dif h42 c31
            clear h42
            refine lv_iconst (v := (1 : Int32)) hx hb dX4_keep_31 (by decide) ?_
            refine lv_goto (tgt := 72) hx hb dX4_keep_32 (by decide) ?_
            exact kJ19 (1 : Int32) _ _ _ Z (lv_sub hl [0] rfl) h44
def rm_fRw_mix_9_12 : Room := { frames := 2, cells := 0, slots := 0, locals := 90 }
set_option maxHeartbeats 4000000 in
set_option maxRecDepth 100000 in
theorem c_fRw_mix_9_12 (l : Launch) (X : eX) (sz : Nat) (a1 : Int32) (a2 : Int64) (a3 : Int32) (a4 : Int64) (σ : sT) (σz : sT) (h0 : fRw_mix 9 10 11 168 42 12 13 14 1764 441 a1 a2 a3 a4 σ = some σz) : ctV l yX4_mix cX4_mix 10 none rm_fRw_mix_9_12 [.ref (X.2.1 9), .int a1, .long a2, .int a3, .long a4, .ref (X.2.1 12)] (wC X) (tC X) (aC X) X sz σ σz := by
  refine ct_of (by decide +kernel) (Nat.le_of_ble_eq_true rfl) ?_
  intro p e s m args below meth c ls hz B hl Z
  have B : Bd p s m args meth c RX4 cX4_mix 10 none := B
  have hl : lv_has ls 10 [(0, .ref (X.2.1 9)), (1, .int a1), (2, .long a2), (4, .int a3), (5, .long a4), (7, .ref (X.2.1 12))] := hl
  have hx := B.1
  have hb := B.2.1
  unfold fRw_mix at h0
  refine lv_iload_n hx hb dX4_mix_0 rfl (lv_at hl 1 rfl) ?_
  refine lv_iconst (v := (4 : Int32)) hx hb dX4_mix_1 (by decide) ?_
  refine lv_imul hx hb dX4_mix_2 ?_
  refine lv_topi (fun x1 ex1 => ?_)
  have h1 := dlt_e ex1 h0
  clear ex1 h0
  refine lv_istore (lv' := [(8, .int x1), (0, .ref (X.2.1 9)), (1, .int a1), (2, .long a2), (4, .int a3), (5, .long a4), (7, .ref (X.2.1 12))]) hx hb dX4_mix_3 hl (by decide) rfl (fun ls hl => ?_)
  refine lv_iload hx hb dX4_mix_5 (lv_at hl 4 rfl) ?_
  refine lv_iconst (v := (4 : Int32)) hx hb dX4_mix_7 (by decide) ?_
  refine lv_imul hx hb dX4_mix_8 ?_
  refine lv_topi (fun x2 ex2 => ?_)
  have h2 := dlt_e ex2 h1
  clear ex2 h1
  refine lv_istore (lv' := [(9, .int x2), (8, .int x1), (0, .ref (X.2.1 9)), (1, .int a1), (2, .long a2), (4, .int a3), (5, .long a4), (7, .ref (X.2.1 12))]) hx hb dX4_mix_9 hl (by decide) rfl (fun ls hl => ?_)
  refine lv_aload hx hb dX4_mix_11 (lv_at hl 7 rfl) ?_
  refine lv_lload_n hx hb dX4_mix_13 rfl (lv_at hl 4 rfl) ?_
  refine lv_aload_n hx hb dX4_mix_14 rfl (lv_at hl 2 rfl) ?_
  refine g_9_0 B Z kf_RX4_17 dX4_mix_15 ?_
  refine lv_iload hx hb dX4_mix_18 (lv_at hl 1 rfl) ?_
  obtain ⟨z3, h3⟩ := dck_s h2
  clear h2
  refine ld_10 B Z z3 dX4_mix_20 ?_
  refine lv_lmul hx hb dX4_mix_21 ?_
  refine lv_lload hx hb dX4_mix_22 (lv_at hl 6 rfl) ?_
  refine lv_aload_n hx hb dX4_mix_24 rfl (lv_at hl 2 rfl) ?_
  refine g_9_0 B Z kf_RX4_17 dX4_mix_25 ?_
  refine lv_iload hx hb dX4_mix_28 (lv_at hl 0 rfl) ?_
  obtain ⟨z4, h4⟩ := dck_s h3
  clear h3
  refine ld_10 B Z z4 dX4_mix_30 ?_
  refine lv_lmul hx hb dX4_mix_31 ?_
  refine lv_ladd hx hb dX4_mix_32 ?_
  refine lv_lload_n hx hb dX4_mix_33 rfl (lv_at hl 4 rfl) ?_
  refine lv_aload_n hx hb dX4_mix_34 rfl (lv_at hl 2 rfl) ?_
  refine g_9_0 B Z kf_RX4_17 dX4_mix_35 ?_
  refine lv_iload hx hb dX4_mix_38 (lv_at hl 1 rfl) ?_
  refine lv_iconst (v := (1 : Int32)) hx hb dX4_mix_40 (by decide) ?_
  refine lv_iadd hx hb dX4_mix_41 ?_
  obtain ⟨z5, h5⟩ := dck_s h4
  clear h4
  refine ld_10 B Z z5 dX4_mix_42 ?_
  refine lv_lmul hx hb dX4_mix_43 ?_
  refine lv_lload hx hb dX4_mix_44 (lv_at hl 6 rfl) ?_
  refine lv_aload_n hx hb dX4_mix_46 rfl (lv_at hl 2 rfl) ?_
  refine g_9_0 B Z kf_RX4_17 dX4_mix_47 ?_
  refine lv_iload hx hb dX4_mix_50 (lv_at hl 0 rfl) ?_
  refine lv_iconst (v := (1 : Int32)) hx hb dX4_mix_52 (by decide) ?_
  refine lv_iadd hx hb dX4_mix_53 ?_
  obtain ⟨z6, h6⟩ := dck_s h5
  clear h5
  refine ld_10 B Z z6 dX4_mix_54 ?_
  refine lv_lmul hx hb dX4_mix_55 ?_
  refine lv_ladd hx hb dX4_mix_56 ?_
  refine lv_lload_n hx hb dX4_mix_57 rfl (lv_at hl 4 rfl) ?_
  refine lv_aload_n hx hb dX4_mix_58 rfl (lv_at hl 2 rfl) ?_
  refine g_9_0 B Z kf_RX4_17 dX4_mix_59 ?_
  refine lv_iload hx hb dX4_mix_62 (lv_at hl 1 rfl) ?_
  refine lv_iconst (v := (2 : Int32)) hx hb dX4_mix_64 (by decide) ?_
  refine lv_iadd hx hb dX4_mix_65 ?_
  obtain ⟨z7, h7⟩ := dck_s h6
  clear h6
  refine ld_10 B Z z7 dX4_mix_66 ?_
  refine lv_lmul hx hb dX4_mix_67 ?_
  refine lv_lload hx hb dX4_mix_68 (lv_at hl 6 rfl) ?_
  refine lv_aload_n hx hb dX4_mix_70 rfl (lv_at hl 2 rfl) ?_
  refine g_9_0 B Z kf_RX4_17 dX4_mix_71 ?_
  refine lv_iload hx hb dX4_mix_74 (lv_at hl 0 rfl) ?_
  refine lv_iconst (v := (2 : Int32)) hx hb dX4_mix_76 (by decide) ?_
  refine lv_iadd hx hb dX4_mix_77 ?_
  obtain ⟨z8, h8⟩ := dck_s h7
  clear h7
  refine ld_10 B Z z8 dX4_mix_78 ?_
  refine lv_lmul hx hb dX4_mix_79 ?_
  refine lv_ladd hx hb dX4_mix_80 ?_
  refine lv_lload_n hx hb dX4_mix_81 rfl (lv_at hl 4 rfl) ?_
  refine lv_aload_n hx hb dX4_mix_82 rfl (lv_at hl 2 rfl) ?_
  refine g_9_0 B Z kf_RX4_17 dX4_mix_83 ?_
  refine lv_iload hx hb dX4_mix_86 (lv_at hl 1 rfl) ?_
  refine lv_iconst (v := (3 : Int32)) hx hb dX4_mix_88 (by decide) ?_
  refine lv_iadd hx hb dX4_mix_89 ?_
  obtain ⟨z9, h9⟩ := dck_s h8
  clear h8
  refine ld_10 B Z z9 dX4_mix_90 ?_
  refine lv_lmul hx hb dX4_mix_91 ?_
  refine lv_lload hx hb dX4_mix_92 (lv_at hl 6 rfl) ?_
  refine lv_aload_n hx hb dX4_mix_94 rfl (lv_at hl 2 rfl) ?_
  refine g_9_0 B Z kf_RX4_17 dX4_mix_95 ?_
  refine lv_iload hx hb dX4_mix_98 (lv_at hl 0 rfl) ?_
  refine lv_iconst (v := (3 : Int32)) hx hb dX4_mix_100 (by decide) ?_
  refine lv_iadd hx hb dX4_mix_101 ?_
  obtain ⟨z10, h10⟩ := dck_s h9
  clear h9
  refine ld_10 B Z z10 dX4_mix_102 ?_
  refine lv_lmul hx hb dX4_mix_103 ?_
  refine lv_ladd hx hb dX4_mix_104 ?_
  refine lv_aload_n hx hb dX4_mix_105 rfl (lv_at hl 2 rfl) ?_
  refine g_9_1 B Z kf_RX4_21 dX4_mix_106 ?_
  refine lv_iload_n hx hb dX4_mix_109 rfl (lv_at hl 3 rfl) ?_
  obtain ⟨z11, h11⟩ := dck_s h10
  clear h10
  refine ld_11 B Z z11 dX4_mix_110 ?_
  refine lv_aload_n hx hb dX4_mix_111 rfl (lv_at hl 2 rfl) ?_
  refine g_9_1 B Z kf_RX4_21 dX4_mix_112 ?_
  refine lv_iload hx hb dX4_mix_115 (lv_at hl 5 rfl) ?_
  obtain ⟨z12, h12⟩ := dck_s h11
  clear h11
  refine ld_11 B Z z12 dX4_mix_117 ?_
  refine va_mmin hx hb (B.2.2.1.trans hl.1.symm) B.2.2.2.1 (B.2.2.2.2.1 _ kl_RX4_48) (B.2.2.2.2.1 _ ks_Jmin) (B.2.2.2.2.1 _ kz_RJ9) (B.2.2.2.2.1 _ kd_Jmin) (Nat.le_of_ble_eq_true rfl) (Nat.le_of_ble_eq_true rfl) (Nat.zero_le _) (Nat.zero_le _) dX4_mix_118 ?_
  obtain ⟨σ14, hc12, h13⟩ := db1_s h12
  clear h12
  refine cV_V [.long ((a2 * (σ.2 10 x1.toNatClampNeg)) + (a4 * (σ.2 10 x2.toNatClampNeg))), .long ((a2 * (σ.2 10 (x1 + (1 : Int32)).toNatClampNeg)) + (a4 * (σ.2 10 (x2 + (1 : Int32)).toNatClampNeg))), .long ((a2 * (σ.2 10 (x1 + (2 : Int32)).toNatClampNeg)) + (a4 * (σ.2 10 (x2 + (2 : Int32)).toNatClampNeg))), .long ((a2 * (σ.2 10 (x1 + (3 : Int32)).toNatClampNeg)) + (a4 * (σ.2 10 (x2 + (3 : Int32)).toNatClampNeg))), .int (if (σ.1 11 a3.toNatClampNeg) < (σ.1 11 a1.toNatClampNeg) then (σ.1 11 a3.toNatClampNeg) else (σ.1 11 a1.toNatClampNeg))] [] B mx_yX4_keep (c_fRw_keep_12 l X _ ((a2 * (σ.2 10 x1.toNatClampNeg)) + (a4 * (σ.2 10 x2.toNatClampNeg))) ((a2 * (σ.2 10 (x1 + (1 : Int32)).toNatClampNeg)) + (a4 * (σ.2 10 (x2 + (1 : Int32)).toNatClampNeg))) ((a2 * (σ.2 10 (x1 + (2 : Int32)).toNatClampNeg)) + (a4 * (σ.2 10 (x2 + (2 : Int32)).toNatClampNeg))) ((a2 * (σ.2 10 (x1 + (3 : Int32)).toNatClampNeg)) + (a4 * (σ.2 10 (x2 + (3 : Int32)).toNatClampNeg))) (if (σ.1 11 a3.toNatClampNeg) < (σ.1 11 a1.toNatClampNeg) then (σ.1 11 a3.toNatClampNeg) else (σ.1 11 a1.toNatClampNeg)) σ σ14 hc12) kl_RX4_51 mi_yX4_keep (rv_12 _ _) hcl_4 Z hl rfl rfl ⟨Nat.le_of_ble_eq_true rfl, Nat.le_of_ble_eq_true rfl⟩ rfl rfl (Nat.le_of_ble_eq_true rfl) dX4_mix_121 (fun H locs Z => ?_)
  clear hc12
  exact reV B Z hz h13 dX4_mix_124
def rm_fRw_eliminate_9_12 : Room := { frames := 3, cells := 0, slots := 0, locals := 119 }
set_option maxHeartbeats 4000000 in
set_option maxRecDepth 100000 in
theorem c_fRw_eliminate_9_12 (l : Launch) (X : eX) (sz : Nat) (a1 : Int32) (σ : sT) (σz : sT) (h0 : fRw_eliminate 9 10 11 168 42 12 13 14 1764 441 a1 σ = some σz) : ctV l yX4_eliminate cX4_eliminate 10 none rm_fRw_eliminate_9_12 [.ref (X.2.1 9), .int a1, .ref (X.2.1 12)] (wC X) (tC X) (aC X) X sz σ σz := by
  refine ct_of (by decide +kernel) (Nat.le_of_ble_eq_true rfl) ?_
  intro p e s m args below meth c ls hz B hl Z
  have B : Bd p s m args meth c RX4 cX4_eliminate 10 none := B
  have hl : lv_has ls 10 [(0, .ref (X.2.1 9)), (1, .int a1), (2, .ref (X.2.1 12))] := hl
  have hx := B.1
  have hb := B.2.1
  unfold fRw_eliminate at h0
  refine lv_aload_n hx hb dX4_eliminate_0 rfl (lv_at hl 2 rfl) ?_
  obtain ⟨σ2, hc0, h1⟩ := db1_s h0
  clear h0
  refine cV_V [] [] B mx_yX4_empty (c_fRw_empty_12 l X _ σ σ2 hc0) kl_RX4_33 mi_yX4_empty (rv_12 _ _) hcl_4 Z hl rfl rfl ⟨Nat.le_of_ble_eq_true rfl, Nat.le_of_ble_eq_true rfl⟩ rfl rfl (Nat.le_of_ble_eq_true rfl) dX4_eliminate_1 (fun H locs Z => ?_)
  clear hc0
  refine lv_aload_n hx hb dX4_eliminate_4 rfl (lv_at hl 2 rfl) ?_
  refine lv_aload_n hx hb dX4_eliminate_5 rfl (lv_at hl 0 rfl) ?_
  refine g_9_3 B Z kf_RX4_29 dX4_eliminate_6 ?_
  obtain ⟨z3, h2⟩ := dck_s h1
  clear h1
  refine s_12_3 B Z z3 kf_RX4_29 dX4_eliminate_9 (fun H locs Z => ?_)
  obtain ⟨σ4, eσ4, h3⟩ := dlt_s h2
  clear h2
  replace Z := Wd.eq eσ4 Z
  clear eσ4
  refine lv_aload_n hx hb dX4_eliminate_12 rfl (lv_at hl 0 rfl) ?_
  refine lv_iload_n hx hb dX4_eliminate_13 rfl (lv_at hl 1 rfl) ?_
  obtain ⟨r6, hc4, h4⟩ := db1_s h3
  clear h3
  refine cV_I [.int a1] [] B mx_yX4_equalityWith (c_fRw_equalityWith_9 l X _ a1 σ4 r6 hc4) kl_RX4_36 mi_yX4_equalityWith (rv_9 _ _) hcl_4 Z hl rfl rfl ⟨Nat.le_of_ble_eq_true rfl, Nat.le_of_ble_eq_true rfl⟩ rfl rfl (Nat.le_of_ble_eq_true rfl) dX4_eliminate_14 (fun H locs Z => ?_)
  clear hc4
  refine lv_istore_n (lv' := [(3, .int r6), (0, .ref (X.2.1 9)), (1, .int a1), (2, .ref (X.2.1 12))]) hx hb dX4_eliminate_17 rfl hl (by decide) rfl (fun ls hl => ?_)
  refine lv_iconst (v := (0 : Int32)) hx hb dX4_eliminate_18 (by decide) ?_
  refine lv_istore (lv' := [(4, .int (0 : Int32)), (3, .int r6), (0, .ref (X.2.1 9)), (1, .int a1), (2, .ref (X.2.1 12))]) hx hb dX4_eliminate_19 hl (by decide) rfl (fun ls hl => ?_)
  have lL21 : ∀ (n : Nat), ∀ (x7 : Int32) (σ8 : sT) (H : Heap) (locs : List Loc) (ls : Array Slot), Wd (wC X) (tC X) (aC X) X s σ8 H locs → lv_has ls 10 [(0, .ref (X.2.1 9)), (1, .int a1), (2, .ref (X.2.1 12)), (3, .int r6), (4, .int x7)] → fRw_eliminate_L21 9 10 11 168 42 12 13 14 1764 441 a1 r6 n x7 σ8 = some σz → W p l e rm_fRw_eliminate_9_12 s m args below meth c H locs 0 0 (MQ below (va_Qv (fun u => u = σz) (poW (wC X) (tC X) (aC X) X sz) (aA (aC X) sz)) args s 0 0 (aA (aC X) sz)) (F0 m 21 ls []) := by
    intro n
    induction n with
    | zero =>
      intro x7 σ8 H locs ls Z hl h
      exact nomatch (show (none : Option (sT)) = some _ from h)
    | succ n9 ih12 =>
      intro x7 σ8 H locs ls Z hl h5
      unfold fRw_eliminate_L21 at h5
      refine lv_iload hx hb dX4_eliminate_21 (lv_at hl 4 rfl) ?_
      refine lv_aload_n hx hb dX4_eliminate_23 rfl (lv_at hl 0 rfl) ?_
      refine g_9_2 B Z kf_RX4_25 dX4_eliminate_24 ?_
      refine lv_icmp_ge (tgt := 186) hx hb dX4_eliminate_27 (by decide) (fun c10 => ?_) (fun c10 => ?_)
      · have h6 := dit h5 c10
        clear h5
        exact reV B Z hz h6 dX4_eliminate_186
      · have h7 := dif h5 c10
        clear h5
        refine lv_aload_n hx hb dX4_eliminate_30 rfl (lv_at hl 0 rfl) ?_
        refine g_9_0 B Z kf_RX4_17 dX4_eliminate_31 ?_
        refine lv_iload hx hb dX4_eliminate_34 (lv_at hl 4 rfl) ?_
        refine lv_iconst (v := (4 : Int32)) hx hb dX4_eliminate_36 (by decide) ?_
        refine lv_imul hx hb dX4_eliminate_37 ?_
        refine lv_iload_n hx hb dX4_eliminate_38 rfl (lv_at hl 1 rfl) ?_
        refine lv_iadd hx hb dX4_eliminate_39 ?_
        obtain ⟨z11, h8⟩ := dck_s h7
        clear h7
        refine ld_10 B Z z11 dX4_eliminate_40 ?_
        refine lv_topl (fun x12 ex12 => ?_)
        have h9 := dlt_e ex12 h8
        clear ex12 h8
        refine lv_lstore (lv' := [(5, .long x12), (0, .ref (X.2.1 9)), (1, .int a1), (2, .ref (X.2.1 12)), (3, .int r6), (4, .int x7)]) hx hb dX4_eliminate_41 hl (by decide) rfl (fun ls hl => ?_)
        refine lv_lload hx hb dX4_eliminate_43 (lv_at hl 0 rfl) ?_
        refine lv_lconst (v := (0 : Int64)) hx hb dX4_eliminate_45 (by decide) ?_
        refine W.lcmp hx hb dX4_eliminate_46 ?_
        refine lv_if_ne (tgt := 64) hx hb dX4_eliminate_47 (by decide) (fun c13 => ?_) (fun c13 => ?_)
        · have h10 := dif h9 c13
          clear h9
          refine lv_iload_n hx hb dX4_eliminate_64 rfl (lv_at hl 4 rfl) ?_
          obtain ⟨J14, eJ14, h26⟩ := dlt_s h10
          clear h10
          have kJ14 : ∀ (H : Heap) (locs : List Loc) (ls : Array Slot), Wd (wC X) (tC X) (aC X) X s σ8 H locs → lv_has ls 10 [(0, .ref (X.2.1 9)), (1, .int a1), (2, .ref (X.2.1 12)), (3, .int r6), (4, .int x7), (5, .long x12)] → J14 () = some σz → W p l e rm_fRw_eliminate_9_12 s m args below meth c H locs 0 0 (MQ below (va_Qv (fun u => u = σz) (poW (wC X) (tC X) (aC X) X sz) (aA (aC X) sz)) args s 0 0 (aA (aC X) sz)) (F0 m 117 ls []) := by
            intro  H locs ls Z hl h11
            rw [eJ14] at h11
            refine lv_iload_n hx hb dX4_eliminate_117 rfl (lv_at hl 3 rfl) ?_
            refine lv_if_ge (tgt := 180) hx hb dX4_eliminate_118 (by decide) (fun c15 => ?_) (fun c15 => ?_)
            · have h12 := dit h11 c15
              clear h11
              refine lv_iinc (v := x7 + (1 : Int32)) (lv' := [(4, .int (x7 + (1 : Int32))), (0, .ref (X.2.1 9)), (1, .int a1), (2, .ref (X.2.1 12)), (3, .int r6), (5, .long x12)]) hx hb dX4_eliminate_180 hl (k := 4) rfl (by rfl) (by decide) rfl (fun ls hl => ?_)
              refine lv_goto (tgt := 21) hx hb dX4_eliminate_183 (by decide) ?_
              exact ih12 (x7 + (1 : Int32)) σ8 _ _ _ Z (lv_sub hl [1, 2, 3, 4, 0] rfl) h12
            · have h13 := dif h11 c15
              clear h11
              refine lv_lload hx hb dX4_eliminate_121 (lv_at hl 5 rfl) ?_
              refine lv_lconst (v := (0 : Int64)) hx hb dX4_eliminate_123 (by decide) ?_
              refine W.lcmp hx hb dX4_eliminate_124 ?_
              refine lv_if_le (tgt := 180) hx hb dX4_eliminate_125 (by decide) (fun c16 => ?_) (fun c16 => ?_)
              · have h14 := dit h13 c16
                clear h13
                refine lv_iinc (v := x7 + (1 : Int32)) (lv' := [(4, .int (x7 + (1 : Int32))), (0, .ref (X.2.1 9)), (1, .int a1), (2, .ref (X.2.1 12)), (3, .int r6), (5, .long x12)]) hx hb dX4_eliminate_180 hl (k := 4) rfl (by rfl) (by decide) rfl (fun ls hl => ?_)
                refine lv_goto (tgt := 21) hx hb dX4_eliminate_183 (by decide) ?_
                exact ih12 (x7 + (1 : Int32)) σ8 _ _ _ Z (lv_sub hl [1, 2, 3, 4, 0] rfl) h14
              · have h15 := dif h13 c16
                clear h13
                refine lv_iconst (v := (0 : Int32)) hx hb dX4_eliminate_128 (by decide) ?_
                refine lv_istore (lv' := [(7, .int (0 : Int32)), (0, .ref (X.2.1 9)), (1, .int a1), (2, .ref (X.2.1 12)), (3, .int r6), (4, .int x7), (5, .long x12)]) hx hb dX4_eliminate_129 hl (by decide) rfl (fun ls hl => ?_)
                obtain ⟨K20, eK20, h17⟩ := dlt_s h15
                clear h15
                have kK20 : ∀ (σ19 : sT) (H : Heap) (locs : List Loc) (ls : Array Slot), Wd (wC X) (tC X) (aC X) X s σ19 H locs → lv_has ls 10 [(0, .ref (X.2.1 9)), (1, .int a1), (2, .ref (X.2.1 12)), (3, .int r6), (4, .int x7)] → K20 σ19 = some σz → W p l e rm_fRw_eliminate_9_12 s m args below meth c H locs 0 0 (MQ below (va_Qv (fun u => u = σz) (poW (wC X) (tC X) (aC X) X sz) (aA (aC X) sz)) args s 0 0 (aA (aC X) sz)) (F0 m 180 ls []) := by
                  intro σ19 H locs ls Z hl h16
                  rw [eK20] at h16
                  refine lv_iinc (v := x7 + (1 : Int32)) (lv' := [(4, .int (x7 + (1 : Int32))), (0, .ref (X.2.1 9)), (1, .int a1), (2, .ref (X.2.1 12)), (3, .int r6)]) hx hb dX4_eliminate_180 hl (k := 4) rfl (by rfl) (by decide) rfl (fun ls hl => ?_)
                  refine lv_goto (tgt := 21) hx hb dX4_eliminate_183 (by decide) ?_
                  exact ih12 (x7 + (1 : Int32)) σ19 _ _ _ Z (lv_sub hl [1, 2, 3, 4, 0] rfl) h16
                clear eK20
                have lL131 : ∀ (n : Nat), ∀ (x17 : Int32) (σ18 : sT) (H : Heap) (locs : List Loc) (ls : Array Slot), Wd (wC X) (tC X) (aC X) X s σ18 H locs → lv_has ls 10 [(0, .ref (X.2.1 9)), (1, .int a1), (2, .ref (X.2.1 12)), (3, .int r6), (4, .int x7), (5, .long x12), (7, .int x17)] → fRw_eliminate_L131 9 10 11 168 42 12 13 14 1764 441 a1 x7 x12 K20 n x17 σ18 = some σz → W p l e rm_fRw_eliminate_9_12 s m args below meth c H locs 0 0 (MQ below (va_Qv (fun u => u = σz) (poW (wC X) (tC X) (aC X) X sz) (aA (aC X) sz)) args s 0 0 (aA (aC X) sz)) (F0 m 131 ls []) := by
                  intro n
                  induction n with
                  | zero =>
                    intro x17 σ18 H locs ls Z hl h
                    exact nomatch (show (none : Option (sT)) = some _ from h)
                  | succ n21 ih75 =>
                    intro x17 σ18 H locs ls Z hl h18
                    unfold fRw_eliminate_L131 at h18
                    refine lv_iload hx hb dX4_eliminate_131 (lv_at hl 6 rfl) ?_
                    refine lv_aload_n hx hb dX4_eliminate_133 rfl (lv_at hl 0 rfl) ?_
                    refine g_9_2 B Z kf_RX4_25 dX4_eliminate_134 ?_
                    refine lv_icmp_ge (tgt := 180) hx hb dX4_eliminate_137 (by decide) (fun c22 => ?_) (fun c22 => ?_)
                    · have h19 := dit h18 c22
                      clear h18
                      exact kK20 σ18 _ _ _ Z (lv_sub hl [0, 1, 2, 3, 4] rfl) h19
                    · have h20 := dif h18 c22
                      clear h18
                      refine lv_aload_n hx hb dX4_eliminate_140 rfl (lv_at hl 0 rfl) ?_
                      refine g_9_0 B Z kf_RX4_17 dX4_eliminate_141 ?_
                      refine lv_iload hx hb dX4_eliminate_144 (lv_at hl 6 rfl) ?_
                      refine lv_iconst (v := (4 : Int32)) hx hb dX4_eliminate_146 (by decide) ?_
                      refine lv_imul hx hb dX4_eliminate_147 ?_
                      refine lv_iload_n hx hb dX4_eliminate_148 rfl (lv_at hl 1 rfl) ?_
                      refine lv_iadd hx hb dX4_eliminate_149 ?_
                      obtain ⟨z23, h21⟩ := dck_s h20
                      clear h20
                      refine ld_10 B Z z23 dX4_eliminate_150 ?_
                      refine lv_topl (fun x24 ex24 => ?_)
                      have h22 := dlt_e ex24 h21
                      clear ex24 h21
                      refine lv_lstore (lv' := [(8, .long x24), (0, .ref (X.2.1 9)), (1, .int a1), (2, .ref (X.2.1 12)), (3, .int r6), (4, .int x7), (5, .long x12), (7, .int x17)]) hx hb dX4_eliminate_151 hl (by decide) rfl (fun ls hl => ?_)
                      refine lv_lload hx hb dX4_eliminate_153 (lv_at hl 0 rfl) ?_
                      refine lv_lconst (v := (0 : Int64)) hx hb dX4_eliminate_155 (by decide) ?_
                      refine W.lcmp hx hb dX4_eliminate_156 ?_
                      refine lv_if_ge (tgt := 174) hx hb dX4_eliminate_157 (by decide) (fun c25 => ?_) (fun c25 => ?_)
                      · have h23 := dit h22 c25
                        clear h22
                        refine lv_iinc (v := x17 + (1 : Int32)) (lv' := [(7, .int (x17 + (1 : Int32))), (8, .long x24), (0, .ref (X.2.1 9)), (1, .int a1), (2, .ref (X.2.1 12)), (3, .int r6), (4, .int x7), (5, .long x12)]) hx hb dX4_eliminate_174 hl (k := 7) rfl (by rfl) (by decide) rfl (fun ls hl => ?_)
                        refine lv_goto (tgt := 131) hx hb dX4_eliminate_177 (by decide) ?_
                        exact ih75 (x17 + (1 : Int32)) σ18 _ _ _ Z (lv_sub hl [2, 3, 4, 5, 6, 7, 0] rfl) h23
                      · have h24 := dif h22 c25
                        clear h22
                        refine lv_aload_n hx hb dX4_eliminate_160 rfl (lv_at hl 1 rfl) ?_
                        refine lv_iload hx hb dX4_eliminate_161 (lv_at hl 5 rfl) ?_
                        refine lv_lload hx hb dX4_eliminate_163 (lv_at hl 0 rfl) ?_
                        refine lv_lneg hx hb dX4_eliminate_165 ?_
                        refine lv_iload hx hb dX4_eliminate_166 (lv_at hl 7 rfl) ?_
                        refine lv_lload hx hb dX4_eliminate_168 (lv_at hl 6 rfl) ?_
                        refine lv_aload_n hx hb dX4_eliminate_170 rfl (lv_at hl 3 rfl) ?_
                        obtain ⟨σ27, hc25, h25⟩ := db1_s h24
                        clear h24
                        refine cV_V [.int x7, .long (-x24), .int x17, .long x12, .ref (X.2.1 12)] [] B mx_yX4_mix (c_fRw_mix_9_12 l X _ x7 (-x24) x17 x12 σ18 σ27 hc25) kl_RX4_40 mi_yX4_mix (rv_9 _ _) hcl_4 Z hl rfl rfl ⟨Nat.le_of_ble_eq_true rfl, Nat.le_of_ble_eq_true rfl⟩ rfl rfl (Nat.le_of_ble_eq_true rfl) dX4_eliminate_171 (fun H locs Z => ?_)
                        clear hc25
                        refine lv_iinc (v := x17 + (1 : Int32)) (lv' := [(7, .int (x17 + (1 : Int32))), (8, .long x24), (0, .ref (X.2.1 9)), (1, .int a1), (2, .ref (X.2.1 12)), (3, .int r6), (4, .int x7), (5, .long x12)]) hx hb dX4_eliminate_174 hl (k := 7) rfl (by rfl) (by decide) rfl (fun ls hl => ?_)
                        refine lv_goto (tgt := 131) hx hb dX4_eliminate_177 (by decide) ?_
                        exact ih75 (x17 + (1 : Int32)) σ27 _ _ _ Z (lv_sub hl [2, 3, 4, 5, 6, 7, 0] rfl) h25
                exact lL131 FU (0 : Int32) σ8 _ _ _ Z (lv_sub hl [1, 2, 3, 4, 5, 6, 0] rfl) h17
          clear eJ14
          refine lv_if_lt (tgt := 117) hx hb dX4_eliminate_65 (by decide) (fun c28 => ?_) (fun c28 => ?_)
          · have h27 := dit h26 c28
            clear h26
            exact kJ14  _ _ _ Z (lv_sub hl [1, 2, 3, 4, 5, 0] rfl) h27
          · have h28 := dif h26 c28
            clear h26
            refine lv_iload hx hb dX4_eliminate_68 (lv_at hl 5 rfl) ?_
            refine lv_iload_n hx hb dX4_eliminate_70 rfl (lv_at hl 4 rfl) ?_
            refine lv_icmp_eq (tgt := 117) hx hb dX4_eliminate_71 (by decide) (fun c29 => ?_) (fun c29 => ?_)
            · have h29 := dit h28 c29
              clear h28
              exact kJ14  _ _ _ Z (lv_sub hl [1, 2, 3, 4, 5, 0] rfl) h29
            · have h30 := dif h28 c29
              clear h28
              refine lv_aload_n hx hb dX4_eliminate_74 rfl (lv_at hl 1 rfl) ?_
              refine g_9_0 B Z kf_RX4_17 dX4_eliminate_75 ?_
              refine lv_iload_n hx hb dX4_eliminate_78 rfl (lv_at hl 4 rfl) ?_
              refine lv_iconst (v := (4 : Int32)) hx hb dX4_eliminate_79 (by decide) ?_
              refine lv_imul hx hb dX4_eliminate_80 ?_
              refine lv_iload_n hx hb dX4_eliminate_81 rfl (lv_at hl 2 rfl) ?_
              refine lv_iadd hx hb dX4_eliminate_82 ?_
              obtain ⟨z30, h31⟩ := dck_s h30
              clear h30
              refine ld_10 B Z z30 dX4_eliminate_83 ?_
              refine lv_topl (fun x31 ex31 => ?_)
              have h32 := dlt_e ex31 h31
              clear ex31 h31
              refine lv_lstore (lv' := [(7, .long x31), (5, .long x12), (0, .ref (X.2.1 9)), (1, .int a1), (2, .ref (X.2.1 12)), (3, .int r6), (4, .int x7)]) hx hb dX4_eliminate_84 hl (by decide) rfl (fun ls hl => ?_)
              refine lv_aload_n hx hb dX4_eliminate_86 rfl (lv_at hl 2 rfl) ?_
              refine lv_iload hx hb dX4_eliminate_87 (lv_at hl 6 rfl) ?_
              refine lv_lload hx hb dX4_eliminate_89 (lv_at hl 0 rfl) ?_
              refine va_mabs_long hx hb (B.2.2.1.trans hl.1.symm) B.2.2.2.1 (B.2.2.2.2.1 _ kl_RX4_44) (B.2.2.2.2.1 _ ks_JabsJ) (B.2.2.2.2.1 _ kz_RJ9) (B.2.2.2.2.1 _ kd_JabsJ) (Nat.le_of_ble_eq_true rfl) (Nat.le_of_ble_eq_true rfl) (Nat.zero_le _) (Nat.zero_le _) dX4_eliminate_91 ?_
              refine lv_iload_n hx hb dX4_eliminate_94 rfl (lv_at hl 5 rfl) ?_
              refine lv_lload hx hb dX4_eliminate_95 (lv_at hl 0 rfl) ?_
              refine lv_lconst (v := (0 : Int64)) hx hb dX4_eliminate_97 (by decide) ?_
              refine W.lcmp hx hb dX4_eliminate_98 ?_
              obtain ⟨J36, eJ36, h35⟩ := dlt_s h32
              clear h32
              have kJ36 : ∀ (x32 : Int32) (x33 : Int64) (x34 : Int32) (x35 : Int64) (H : Heap) (locs : List Loc) (ls : Array Slot), Wd (wC X) (tC X) (aC X) X s σ8 H locs → lv_has ls 10 [(0, .ref (X.2.1 9)), (1, .int a1), (2, .ref (X.2.1 12)), (3, .int r6), (4, .int x7)] → J36 x32 x33 x34 x35 = some σz → W p l e rm_fRw_eliminate_9_12 s m args below meth c H locs 0 0 (MQ below (va_Qv (fun u => u = σz) (poW (wC X) (tC X) (aC X) X sz) (aA (aC X) sz)) args s 0 0 (aA (aC X) sz)) (F0 m 110 ls [.long x35, .int x34, .long x33, .int x32, .ref (X.2.1 9)]) := by
                intro x32 x33 x34 x35 H locs ls Z hl h33
                rw [eJ36] at h33
                refine lv_aload_n hx hb dX4_eliminate_110 rfl (lv_at hl 2 rfl) ?_
                obtain ⟨σ38, hc36, h34⟩ := db1_s h33
                clear h33
                refine cV_V [.int x32, .long x33, .int x34, .long x35, .ref (X.2.1 12)] [] B mx_yX4_mix (c_fRw_mix_9_12 l X _ x32 x33 x34 x35 σ8 σ38 hc36) kl_RX4_40 mi_yX4_mix (rv_9 _ _) hcl_4 Z hl rfl rfl ⟨Nat.le_of_ble_eq_true rfl, Nat.le_of_ble_eq_true rfl⟩ rfl rfl (Nat.le_of_ble_eq_true rfl) dX4_eliminate_111 (fun H locs Z => ?_)
                clear hc36
                refine lv_goto (tgt := 180) hx hb dX4_eliminate_114 (by decide) ?_
                refine lv_iinc (v := x7 + (1 : Int32)) (lv' := [(4, .int (x7 + (1 : Int32))), (0, .ref (X.2.1 9)), (1, .int a1), (2, .ref (X.2.1 12)), (3, .int r6)]) hx hb dX4_eliminate_180 hl (k := 4) rfl (by rfl) (by decide) rfl (fun ls hl => ?_)
                refine lv_goto (tgt := 21) hx hb dX4_eliminate_183 (by decide) ?_
                exact ih12 (x7 + (1 : Int32)) σ38 _ _ _ Z (lv_sub hl [1, 2, 3, 4, 0] rfl) h34
              clear eJ36
              refine lv_if_le (tgt := 108) hx hb dX4_eliminate_99 (by decide) (fun c39 => ?_) (fun c39 => ?_)
              · have h36 := dit h35 c39
                clear h35
                refine lv_lload hx hb dX4_eliminate_108 (lv_at hl 1 rfl) ?_
                exact kJ36 x7 (if 0 < x31 then x31 else -x31) r6 x12 _ _ _ Z (lv_sub hl [2, 3, 4, 5, 6] rfl) h36
              · have h37 := dif h35 c39
                clear h35
                refine lv_lload hx hb dX4_eliminate_102 (lv_at hl 1 rfl) ?_
                refine lv_lneg hx hb dX4_eliminate_104 ?_
                refine lv_goto (tgt := 110) hx hb dX4_eliminate_105 (by decide) ?_
                exact kJ36 x7 (if 0 < x31 then x31 else -x31) r6 (-x12) _ _ _ Z (lv_sub hl [2, 3, 4, 5, 6] rfl) h37
        · have h38 := dit h9 c13
          clear h9
          refine lv_aload_n hx hb dX4_eliminate_50 rfl (lv_at hl 1 rfl) ?_
          refine lv_iload hx hb dX4_eliminate_51 (lv_at hl 5 rfl) ?_
          refine lv_lconst (v := (1 : Int64)) hx hb dX4_eliminate_53 (by decide) ?_
          refine lv_iload hx hb dX4_eliminate_54 (lv_at hl 5 rfl) ?_
          refine lv_lconst (v := (0 : Int64)) hx hb dX4_eliminate_56 (by decide) ?_
          refine lv_aload_n hx hb dX4_eliminate_57 rfl (lv_at hl 3 rfl) ?_
          obtain ⟨σ41, hc39, h39⟩ := db1_s h38
          clear h38
          refine cV_V [.int x7, .long (1 : Int64), .int x7, .long (0 : Int64), .ref (X.2.1 12)] [] B mx_yX4_mix (c_fRw_mix_9_12 l X _ x7 (1 : Int64) x7 (0 : Int64) σ8 σ41 hc39) kl_RX4_40 mi_yX4_mix (rv_9 _ _) hcl_4 Z hl rfl rfl ⟨Nat.le_of_ble_eq_true rfl, Nat.le_of_ble_eq_true rfl⟩ rfl rfl (Nat.le_of_ble_eq_true rfl) dX4_eliminate_58 (fun H locs Z => ?_)
          clear hc39
          refine lv_goto (tgt := 180) hx hb dX4_eliminate_61 (by decide) ?_
          refine lv_iinc (v := x7 + (1 : Int32)) (lv' := [(4, .int (x7 + (1 : Int32))), (5, .long x12), (0, .ref (X.2.1 9)), (1, .int a1), (2, .ref (X.2.1 12)), (3, .int r6)]) hx hb dX4_eliminate_180 hl (k := 5) rfl (by rfl) (by decide) rfl (fun ls hl => ?_)
          refine lv_goto (tgt := 21) hx hb dX4_eliminate_183 (by decide) ?_
          exact ih12 (x7 + (1 : Int32)) σ41 _ _ _ Z (lv_sub hl [2, 3, 4, 5, 0] rfl) h39
  exact lL21 FU (0 : Int32) σ4 _ _ _ Z (lv_sub hl [2, 3, 4, 1, 0] rfl) h4
theorem dJ9_floorDiv_f86c9_0 : decode cJ9_floorDiv_f86c9 0 = .ok (.lload_n 0, 1) := by decide +kernel
theorem dJ9_floorDiv_f86c9_1 : decode cJ9_floorDiv_f86c9 1 = .ok (.lload_n 2, 1) := by decide +kernel
theorem dJ9_floorDiv_f86c9_2 : decode cJ9_floorDiv_f86c9 2 = .ok (.ldiv, 1) := by decide +kernel
theorem dJ9_floorDiv_f86c9_3 : decode cJ9_floorDiv_f86c9 3 = .ok (.lstore 4, 2) := by decide +kernel
theorem dJ9_floorDiv_f86c9_5 : decode cJ9_floorDiv_f86c9 5 = .ok (.lload_n 0, 1) := by decide +kernel
theorem dJ9_floorDiv_f86c9_6 : decode cJ9_floorDiv_f86c9 6 = .ok (.lload_n 2, 1) := by decide +kernel
theorem dJ9_floorDiv_f86c9_7 : decode cJ9_floorDiv_f86c9 7 = .ok (.lxor, 1) := by decide +kernel
theorem dJ9_floorDiv_f86c9_8 : decode cJ9_floorDiv_f86c9 8 = .ok (.lconst 0, 1) := by decide +kernel
theorem dJ9_floorDiv_f86c9_9 : decode cJ9_floorDiv_f86c9 9 = .ok (.lcmp, 1) := by decide +kernel
theorem dJ9_floorDiv_f86c9_10 : decode cJ9_floorDiv_f86c9 10 = .ok (.ifCond .ge 17, 3) := by decide +kernel
theorem dJ9_floorDiv_f86c9_13 : decode cJ9_floorDiv_f86c9 13 = .ok (.lload 4, 2) := by decide +kernel
theorem dJ9_floorDiv_f86c9_15 : decode cJ9_floorDiv_f86c9 15 = .ok (.lload_n 2, 1) := by decide +kernel
theorem dJ9_floorDiv_f86c9_16 : decode cJ9_floorDiv_f86c9 16 = .ok (.lmul, 1) := by decide +kernel
theorem dJ9_floorDiv_f86c9_17 : decode cJ9_floorDiv_f86c9 17 = .ok (.lload_n 0, 1) := by decide +kernel
theorem dJ9_floorDiv_f86c9_18 : decode cJ9_floorDiv_f86c9 18 = .ok (.lcmp, 1) := by decide +kernel
theorem dJ9_floorDiv_f86c9_19 : decode cJ9_floorDiv_f86c9 19 = .ok (.ifCond .eq 8, 3) := by decide +kernel
theorem dJ9_floorDiv_f86c9_22 : decode cJ9_floorDiv_f86c9 22 = .ok (.lload 4, 2) := by decide +kernel
theorem dJ9_floorDiv_f86c9_24 : decode cJ9_floorDiv_f86c9 24 = .ok (.lconst 1, 1) := by decide +kernel
theorem dJ9_floorDiv_f86c9_25 : decode cJ9_floorDiv_f86c9 25 = .ok (.lsub, 1) := by decide +kernel
theorem dJ9_floorDiv_f86c9_26 : decode cJ9_floorDiv_f86c9 26 = .ok (.lreturn, 1) := by decide +kernel
theorem dJ9_floorDiv_f86c9_27 : decode cJ9_floorDiv_f86c9 27 = .ok (.lload 4, 2) := by decide +kernel
theorem dJ9_floorDiv_f86c9_29 : decode cJ9_floorDiv_f86c9 29 = .ok (.lreturn, 1) := by decide +kernel
def rm_fJM_floorDiv : Room := { frames := 1, cells := 0, slots := 0, locals := 60 }
set_option maxHeartbeats 4000000 in
set_option maxRecDepth 100000 in
theorem c_fJM_floorDiv (l : Launch) (X : eX) (sz : Nat) (a1 : Int64) (a2 : Int64) (σ : sT) (rz : Int64) (h0 : fJM_floorDiv a1 a2 = some rz) : ctL l yJ9_floorDiv_f86c9 cJ9_floorDiv_f86c9 6 (some .long) rm_fJM_floorDiv [.long a1, .long a2] (wC X) (tC X) (aC X) X sz σ rz σ := by
  refine ct_ofF (by decide +kernel) (Nat.le_of_ble_eq_true rfl) ?_
  intro p e s m args below meth c ls hz B hl Z
  have B : Bd p s m args meth c RJ9 cJ9_floorDiv_f86c9 6 (some .long) := B
  have hl : lv_has ls 6 [(0, .long a1), (2, .long a2)] := hl
  have hx := B.1
  have hb := B.2.1
  unfold fJM_floorDiv at h0
  refine lv_lload_n hx hb dJ9_floorDiv_f86c9_0 rfl (lv_at hl 0 rfl) ?_
  refine lv_lload_n hx hb dJ9_floorDiv_f86c9_1 rfl (lv_at hl 1 rfl) ?_
  obtain ⟨z1, h1⟩ := dck_s h0
  clear h0
  refine lv_ldiv hx hb dJ9_floorDiv_f86c9_2 (okE_s z1) ?_
  refine lv_topl (fun x2 ex2 => ?_)
  have h2 := dlt_e ex2 h1
  clear ex2 h1
  refine lv_lstore (lv' := [(4, .long x2), (0, .long a1), (2, .long a2)]) hx hb dJ9_floorDiv_f86c9_3 hl (by decide) rfl (fun ls hl => ?_)
  refine lv_lload_n hx hb dJ9_floorDiv_f86c9_5 rfl (lv_at hl 1 rfl) ?_
  refine lv_lload_n hx hb dJ9_floorDiv_f86c9_6 rfl (lv_at hl 2 rfl) ?_
  refine lv_lxor hx hb dJ9_floorDiv_f86c9_7 ?_
  refine lv_lconst (v := (0 : Int64)) hx hb dJ9_floorDiv_f86c9_8 (by decide) ?_
  refine W.lcmp hx hb dJ9_floorDiv_f86c9_9 ?_
  refine lv_if_ge (tgt := 27) hx hb dJ9_floorDiv_f86c9_10 (by decide) (fun c3 => ?_) (fun c3 => ?_)
  · have h3 := dit h2 c3
    clear h2
    refine lv_lload hx hb dJ9_floorDiv_f86c9_27 (lv_at hl 0 rfl) ?_
    exact reL B Z hz (congrArg (Option.map (fun q => (q, σ))) h3) dJ9_floorDiv_f86c9_29
  · have h4 := dif h2 c3
    clear h2
    refine lv_lload hx hb dJ9_floorDiv_f86c9_13 (lv_at hl 0 rfl) ?_
    refine lv_lload_n hx hb dJ9_floorDiv_f86c9_15 rfl (lv_at hl 2 rfl) ?_
    refine lv_lmul hx hb dJ9_floorDiv_f86c9_16 ?_
    refine lv_lload_n hx hb dJ9_floorDiv_f86c9_17 rfl (lv_at hl 1 rfl) ?_
    refine W.lcmp hx hb dJ9_floorDiv_f86c9_18 ?_
    refine lv_if_eq (tgt := 27) hx hb dJ9_floorDiv_f86c9_19 (by decide) (fun c4 => ?_) (fun c4 => ?_)
    · have h5 := dit h4 c4
      clear h4
      refine lv_lload hx hb dJ9_floorDiv_f86c9_27 (lv_at hl 0 rfl) ?_
      exact reL B Z hz (congrArg (Option.map (fun q => (q, σ))) h5) dJ9_floorDiv_f86c9_29
    · have h6 := dif h4 c4
      clear h4
      refine lv_lload hx hb dJ9_floorDiv_f86c9_22 (lv_at hl 0 rfl) ?_
      refine lv_lconst (v := (1 : Int64)) hx hb dJ9_floorDiv_f86c9_24 (by decide) ?_
      refine lv_lsub hx hb dJ9_floorDiv_f86c9_25 ?_
      exact reL B Z hz (congrArg (Option.map (fun q => (q, σ))) h6) dJ9_floorDiv_f86c9_26
theorem dX8_compare_0 : decode cX8_compare 0 = .ok (.lload_n 0, 1) := by decide +kernel
theorem dX8_compare_1 : decode cX8_compare 1 = .ok (.lstore 8, 2) := by decide +kernel
theorem dX8_compare_3 : decode cX8_compare 3 = .ok (.lload_n 2, 1) := by decide +kernel
theorem dX8_compare_4 : decode cX8_compare 4 = .ok (.lstore 10, 2) := by decide +kernel
theorem dX8_compare_6 : decode cX8_compare 6 = .ok (.lload 4, 2) := by decide +kernel
theorem dX8_compare_8 : decode cX8_compare 8 = .ok (.lstore 12, 2) := by decide +kernel
theorem dX8_compare_10 : decode cX8_compare 10 = .ok (.lload 6, 2) := by decide +kernel
theorem dX8_compare_12 : decode cX8_compare 12 = .ok (.lstore 14, 2) := by decide +kernel
theorem dX8_compare_14 : decode cX8_compare 14 = .ok (.iconst 0, 1) := by decide +kernel
theorem dX8_compare_15 : decode cX8_compare 15 = .ok (.istore 16, 2) := by decide +kernel
theorem dX8_compare_17 : decode cX8_compare 17 = .ok (.iload 16, 2) := by decide +kernel
theorem dX8_compare_19 : decode cX8_compare 19 = .ok (.bipush 100, 2) := by decide +kernel
theorem dX8_compare_21 : decode cX8_compare 21 = .ok (.if_icmp .ge 99, 3) := by decide +kernel
theorem dX8_compare_24 : decode cX8_compare 24 = .ok (.lload 10, 2) := by decide +kernel
theorem dX8_compare_26 : decode cX8_compare 26 = .ok (.lconst 0, 1) := by decide +kernel
theorem dX8_compare_27 : decode cX8_compare 27 = .ok (.lcmp, 1) := by decide +kernel
theorem dX8_compare_28 : decode cX8_compare 28 = .ok (.ifCond .le 92, 3) := by decide +kernel
theorem dX8_compare_31 : decode cX8_compare 31 = .ok (.lload 14, 2) := by decide +kernel
theorem dX8_compare_33 : decode cX8_compare 33 = .ok (.lconst 0, 1) := by decide +kernel
theorem dX8_compare_34 : decode cX8_compare 34 = .ok (.lcmp, 1) := by decide +kernel
theorem dX8_compare_35 : decode cX8_compare 35 = .ok (.ifCond .le 85, 3) := by decide +kernel
theorem dX8_compare_38 : decode cX8_compare 38 = .ok (.lload 8, 2) := by decide +kernel
theorem dX8_compare_40 : decode cX8_compare 40 = .ok (.lload 10, 2) := by decide +kernel
theorem dX8_compare_42 : decode cX8_compare 42 = .ok (.invokestatic 58, 3) := by decide +kernel
theorem dX8_compare_45 : decode cX8_compare 45 = .ok (.lstore 17, 2) := by decide +kernel
theorem dX8_compare_47 : decode cX8_compare 47 = .ok (.lload 12, 2) := by decide +kernel
theorem dX8_compare_49 : decode cX8_compare 49 = .ok (.lload 14, 2) := by decide +kernel
theorem dX8_compare_51 : decode cX8_compare 51 = .ok (.invokestatic 58, 3) := by decide +kernel
theorem dX8_compare_54 : decode cX8_compare 54 = .ok (.lstore 19, 2) := by decide +kernel
theorem dX8_compare_56 : decode cX8_compare 56 = .ok (.lload 17, 2) := by decide +kernel
theorem dX8_compare_58 : decode cX8_compare 58 = .ok (.lload 19, 2) := by decide +kernel
theorem dX8_compare_60 : decode cX8_compare 60 = .ok (.lcmp, 1) := by decide +kernel
theorem dX8_compare_61 : decode cX8_compare 61 = .ok (.ifCond .eq 17, 3) := by decide +kernel
theorem dX8_compare_64 : decode cX8_compare 64 = .ok (.lload 17, 2) := by decide +kernel
theorem dX8_compare_66 : decode cX8_compare 66 = .ok (.lload 19, 2) := by decide +kernel
theorem dX8_compare_68 : decode cX8_compare 68 = .ok (.lcmp, 1) := by decide +kernel
theorem dX8_compare_69 : decode cX8_compare 69 = .ok (.ifCond .ge 7, 3) := by decide +kernel
theorem dX8_compare_72 : decode cX8_compare 72 = .ok (.iconst (-1), 1) := by decide +kernel
theorem dX8_compare_73 : decode cX8_compare 73 = .ok (.goto 4, 3) := by decide +kernel
theorem dX8_compare_76 : decode cX8_compare 76 = .ok (.iconst 1, 1) := by decide +kernel
theorem dX8_compare_77 : decode cX8_compare 77 = .ok (.ireturn, 1) := by decide +kernel
theorem dX8_compare_78 : decode cX8_compare 78 = .ok (.lload 8, 2) := by decide +kernel
theorem dX8_compare_80 : decode cX8_compare 80 = .ok (.lload 17, 2) := by decide +kernel
theorem dX8_compare_82 : decode cX8_compare 82 = .ok (.lload 10, 2) := by decide +kernel
theorem dX8_compare_84 : decode cX8_compare 84 = .ok (.lmul, 1) := by decide +kernel
theorem dX8_compare_85 : decode cX8_compare 85 = .ok (.lsub, 1) := by decide +kernel
theorem dX8_compare_86 : decode cX8_compare 86 = .ok (.lstore 21, 2) := by decide +kernel
theorem dX8_compare_88 : decode cX8_compare 88 = .ok (.lload 12, 2) := by decide +kernel
theorem dX8_compare_90 : decode cX8_compare 90 = .ok (.lload 19, 2) := by decide +kernel
theorem dX8_compare_92 : decode cX8_compare 92 = .ok (.lload 14, 2) := by decide +kernel
theorem dX8_compare_94 : decode cX8_compare 94 = .ok (.lmul, 1) := by decide +kernel
theorem dX8_compare_95 : decode cX8_compare 95 = .ok (.lsub, 1) := by decide +kernel
theorem dX8_compare_96 : decode cX8_compare 96 = .ok (.lstore 23, 2) := by decide +kernel
theorem dX8_compare_98 : decode cX8_compare 98 = .ok (.lload 14, 2) := by decide +kernel
theorem dX8_compare_100 : decode cX8_compare 100 = .ok (.lstore 8, 2) := by decide +kernel
theorem dX8_compare_102 : decode cX8_compare 102 = .ok (.lload 10, 2) := by decide +kernel
theorem dX8_compare_104 : decode cX8_compare 104 = .ok (.lstore 12, 2) := by decide +kernel
theorem dX8_compare_106 : decode cX8_compare 106 = .ok (.lload 23, 2) := by decide +kernel
theorem dX8_compare_108 : decode cX8_compare 108 = .ok (.lstore 10, 2) := by decide +kernel
theorem dX8_compare_110 : decode cX8_compare 110 = .ok (.lload 21, 2) := by decide +kernel
theorem dX8_compare_112 : decode cX8_compare 112 = .ok (.lstore 14, 2) := by decide +kernel
theorem dX8_compare_114 : decode cX8_compare 114 = .ok (.iinc 16 1, 3) := by decide +kernel
theorem dX8_compare_117 : decode cX8_compare 117 = .ok (.goto (-100), 3) := by decide +kernel
theorem dX8_compare_120 : decode cX8_compare 120 = .ok (.lload 10, 2) := by decide +kernel
theorem dX8_compare_122 : decode cX8_compare 122 = .ok (.lload 14, 2) := by decide +kernel
theorem dX8_compare_124 : decode cX8_compare 124 = .ok (.lcmp, 1) := by decide +kernel
theorem dX8_compare_125 : decode cX8_compare 125 = .ok (.ifCond .ne 7, 3) := by decide +kernel
theorem dX8_compare_128 : decode cX8_compare 128 = .ok (.iconst 0, 1) := by decide +kernel
theorem dX8_compare_129 : decode cX8_compare 129 = .ok (.goto 26, 3) := by decide +kernel
theorem dX8_compare_132 : decode cX8_compare 132 = .ok (.lload 14, 2) := by decide +kernel
theorem dX8_compare_134 : decode cX8_compare 134 = .ok (.lconst 0, 1) := by decide +kernel
theorem dX8_compare_135 : decode cX8_compare 135 = .ok (.lcmp, 1) := by decide +kernel
theorem dX8_compare_136 : decode cX8_compare 136 = .ok (.ifCond .ne 7, 3) := by decide +kernel
theorem dX8_compare_139 : decode cX8_compare 139 = .ok (.iconst (-1), 1) := by decide +kernel
theorem dX8_compare_140 : decode cX8_compare 140 = .ok (.goto 15, 3) := by decide +kernel
theorem dX8_compare_143 : decode cX8_compare 143 = .ok (.lload 10, 2) := by decide +kernel
theorem dX8_compare_145 : decode cX8_compare 145 = .ok (.lconst 0, 1) := by decide +kernel
theorem dX8_compare_146 : decode cX8_compare 146 = .ok (.lcmp, 1) := by decide +kernel
theorem dX8_compare_147 : decode cX8_compare 147 = .ok (.ifCond .ne 7, 3) := by decide +kernel
theorem dX8_compare_150 : decode cX8_compare 150 = .ok (.iconst 1, 1) := by decide +kernel
theorem dX8_compare_151 : decode cX8_compare 151 = .ok (.goto 4, 3) := by decide +kernel
theorem dX8_compare_154 : decode cX8_compare 154 = .ok (.iconst 0, 1) := by decide +kernel
theorem dX8_compare_155 : decode cX8_compare 155 = .ok (.ireturn, 1) := by decide +kernel
def rm_fSp_compare : Room := { frames := 2, cells := 0, slots := 0, locals := 85 }
set_option maxHeartbeats 4000000 in
set_option maxRecDepth 100000 in
theorem c_fSp_compare (l : Launch) (X : eX) (sz : Nat) (a1 : Int64) (a2 : Int64) (a3 : Int64) (a4 : Int64) (σ : sT) (rz : Int32) (h0 : fSp_compare a1 a2 a3 a4 = some rz) : ctI l yX8_compare cX8_compare 25 (some .int) rm_fSp_compare [.long a1, .long a2, .long a3, .long a4] (wC X) (tC X) (aC X) X sz σ rz σ := by
  refine ct_of (by decide +kernel) (Nat.le_of_ble_eq_true rfl) ?_
  intro p e s m args below meth c ls hz B hl Z
  have B : Bd p s m args meth c RX8 cX8_compare 25 (some .int) := B
  have hl : lv_has ls 25 [(0, .long a1), (2, .long a2), (4, .long a3), (6, .long a4)] := hl
  have hx := B.1
  have hb := B.2.1
  unfold fSp_compare at h0
  refine lv_lload_n hx hb dX8_compare_0 rfl (lv_at hl 0 rfl) ?_
  refine lv_lstore (lv' := [(8, .long a1), (0, .long a1), (2, .long a2), (4, .long a3), (6, .long a4)]) hx hb dX8_compare_1 hl (by decide) rfl (fun ls hl => ?_)
  refine lv_lload_n hx hb dX8_compare_3 rfl (lv_at hl 2 rfl) ?_
  refine lv_lstore (lv' := [(10, .long a2), (8, .long a1), (0, .long a1), (2, .long a2), (4, .long a3), (6, .long a4)]) hx hb dX8_compare_4 hl (by decide) rfl (fun ls hl => ?_)
  refine lv_lload hx hb dX8_compare_6 (lv_at hl 4 rfl) ?_
  refine lv_lstore (lv' := [(12, .long a3), (10, .long a2), (8, .long a1), (0, .long a1), (2, .long a2), (4, .long a3), (6, .long a4)]) hx hb dX8_compare_8 hl (by decide) rfl (fun ls hl => ?_)
  refine lv_lload hx hb dX8_compare_10 (lv_at hl 6 rfl) ?_
  refine lv_lstore (lv' := [(14, .long a4), (12, .long a3), (10, .long a2), (8, .long a1), (0, .long a1), (2, .long a2), (4, .long a3), (6, .long a4)]) hx hb dX8_compare_12 hl (by decide) rfl (fun ls hl => ?_)
  refine lv_iconst (v := (0 : Int32)) hx hb dX8_compare_14 (by decide) ?_
  refine lv_istore (lv' := [(16, .int (0 : Int32)), (14, .long a4), (12, .long a3), (10, .long a2), (8, .long a1), (0, .long a1), (2, .long a2), (4, .long a3), (6, .long a4)]) hx hb dX8_compare_15 hl (by decide) rfl (fun ls hl => ?_)
  obtain ⟨K8, eK8, h8⟩ := dlt_s h0
  clear h0
  have kK8 : ∀ (x6 : Int64) (x7 : Int64) (H : Heap) (locs : List Loc) (ls : Array Slot), Wd (wC X) (tC X) (aC X) X s σ H locs → lv_has ls 25 [(10, .long x6), (14, .long x7)] → K8 x6 x7 = some rz → W p l e rm_fSp_compare s m args below meth c H locs 0 0 (MQ below (va_Qi (fun a u => a = rz ∧ u = σ) (poW (wC X) (tC X) (aC X) X sz) (aA (aC X) sz)) args s 0 0 (aA (aC X) sz)) (F0 m 120 ls []) := by
    intro x6 x7 H locs ls Z hl h1
    rw [eK8] at h1
    refine lv_lload hx hb dX8_compare_120 (lv_at hl 0 rfl) ?_
    refine lv_lload hx hb dX8_compare_122 (lv_at hl 1 rfl) ?_
    refine W.lcmp hx hb dX8_compare_124 ?_
    refine lv_if_ne (tgt := 132) hx hb dX8_compare_125 (by decide) (fun c9 => ?_) (fun c9 => ?_)
    · have h2 := dif h1 c9
      clear h1
      refine lv_lload hx hb dX8_compare_132 (lv_at hl 1 rfl) ?_
      refine lv_lconst (v := (0 : Int64)) hx hb dX8_compare_134 (by decide) ?_
      refine W.lcmp hx hb dX8_compare_135 ?_
      refine lv_if_ne (tgt := 143) hx hb dX8_compare_136 (by decide) (fun c10 => ?_) (fun c10 => ?_)
      · have h3 := dif h2 c10
        clear h2
        refine lv_lload hx hb dX8_compare_143 (lv_at hl 0 rfl) ?_
        refine lv_lconst (v := (0 : Int64)) hx hb dX8_compare_145 (by decide) ?_
        refine W.lcmp hx hb dX8_compare_146 ?_
        refine lv_if_ne (tgt := 154) hx hb dX8_compare_147 (by decide) (fun c11 => ?_) (fun c11 => ?_)
        · have h4 := dif h3 c11
          clear h3
          refine lv_iconst (v := (0 : Int32)) hx hb dX8_compare_154 (by decide) ?_
          exact reI B Z rfl hz (congrArg (Option.map (fun q => (q, σ))) h4) dX8_compare_155
        · have h5 := dit h3 c11
          clear h3
          refine lv_iconst (v := (1 : Int32)) hx hb dX8_compare_150 (by decide) ?_
          refine lv_goto (tgt := 155) hx hb dX8_compare_151 (by decide) ?_
          exact reI B Z rfl hz (congrArg (Option.map (fun q => (q, σ))) h5) dX8_compare_155
      · have h6 := dit h2 c10
        clear h2
        refine lv_iconst (v := (-1 : Int32)) hx hb dX8_compare_139 (by decide) ?_
        refine lv_goto (tgt := 155) hx hb dX8_compare_140 (by decide) ?_
        exact reI B Z rfl hz (congrArg (Option.map (fun q => (q, σ))) h6) dX8_compare_155
    · have h7 := dit h1 c9
      clear h1
      refine lv_iconst (v := (0 : Int32)) hx hb dX8_compare_128 (by decide) ?_
      refine lv_goto (tgt := 155) hx hb dX8_compare_129 (by decide) ?_
      exact reI B Z rfl hz (congrArg (Option.map (fun q => (q, σ))) h7) dX8_compare_155
  clear eK8
  obtain ⟨K14, eK14, h12⟩ := dlt_s h8
  clear h8
  have kK14 : ∀ (x12 : Int64) (x13 : Int64) (H : Heap) (locs : List Loc) (ls : Array Slot), Wd (wC X) (tC X) (aC X) X s σ H locs → lv_has ls 25 [(17, .long x12), (19, .long x13)] → K14 x12 x13 = some rz → W p l e rm_fSp_compare s m args below meth c H locs 0 0 (MQ below (va_Qi (fun a u => a = rz ∧ u = σ) (poW (wC X) (tC X) (aC X) X sz) (aA (aC X) sz)) args s 0 0 (aA (aC X) sz)) (F0 m 64 ls []) := by
    intro x12 x13 H locs ls Z hl h9
    rw [eK14] at h9
    refine lv_lload hx hb dX8_compare_64 (lv_at hl 0 rfl) ?_
    refine lv_lload hx hb dX8_compare_66 (lv_at hl 1 rfl) ?_
    refine W.lcmp hx hb dX8_compare_68 ?_
    refine lv_if_ge (tgt := 76) hx hb dX8_compare_69 (by decide) (fun c15 => ?_) (fun c15 => ?_)
    · have h10 := dit h9 c15
      clear h9
      refine lv_iconst (v := (1 : Int32)) hx hb dX8_compare_76 (by decide) ?_
      exact reI B Z rfl hz (congrArg (Option.map (fun q => (q, σ))) h10) dX8_compare_77
    · have h11 := dif h9 c15
      clear h9
      refine lv_iconst (v := (-1 : Int32)) hx hb dX8_compare_72 (by decide) ?_
      refine lv_goto (tgt := 77) hx hb dX8_compare_73 (by decide) ?_
      exact reI B Z rfl hz (congrArg (Option.map (fun q => (q, σ))) h11) dX8_compare_77
  clear eK14
  have lL17 : ∀ (n : Nat), ∀ (x1 : Int64) (x2 : Int64) (x3 : Int64) (x4 : Int64) (x5 : Int32) (H : Heap) (locs : List Loc) (ls : Array Slot), Wd (wC X) (tC X) (aC X) X s σ H locs → lv_has ls 25 [(8, .long x1), (10, .long x2), (12, .long x3), (14, .long x4), (16, .int x5)] → fSp_compare_L17 K8 K14 n x1 x2 x3 x4 x5 = some rz → W p l e rm_fSp_compare s m args below meth c H locs 0 0 (MQ below (va_Qi (fun a u => a = rz ∧ u = σ) (poW (wC X) (tC X) (aC X) X sz) (aA (aC X) sz)) args s 0 0 (aA (aC X) sz)) (F0 m 17 ls []) := by
    intro n
    induction n with
    | zero =>
      intro x1 x2 x3 x4 x5 H locs ls Z hl h
      exact nomatch (show (none : Option (Int32)) = some _ from h)
    | succ n16 ih10 =>
      intro x1 x2 x3 x4 x5 H locs ls Z hl h13
      unfold fSp_compare_L17 at h13
      refine lv_iload hx hb dX8_compare_17 (lv_at hl 4 rfl) ?_
      refine lv_bipush (v := (100 : Int32)) hx hb dX8_compare_19 (by decide) ?_
      refine lv_icmp_ge (tgt := 120) hx hb dX8_compare_21 (by decide) (fun c17 => ?_) (fun c17 => ?_)
      · have h14 := dit h13 c17
        clear h13
        exact kK8 x2 x4 _ _ _ Z (lv_sub hl [1, 3] rfl) h14
      · have h15 := dif h13 c17
        clear h13
        refine lv_lload hx hb dX8_compare_24 (lv_at hl 1 rfl) ?_
        refine lv_lconst (v := (0 : Int64)) hx hb dX8_compare_26 (by decide) ?_
        refine W.lcmp hx hb dX8_compare_27 ?_
        refine lv_if_le (tgt := 120) hx hb dX8_compare_28 (by decide) (fun c18 => ?_) (fun c18 => ?_)
        · have h16 := dit h15 c18
          clear h15
          exact kK8 x2 x4 _ _ _ Z (lv_sub hl [1, 3] rfl) h16
        · have h17 := dif h15 c18
          clear h15
          refine lv_lload hx hb dX8_compare_31 (lv_at hl 3 rfl) ?_
          refine lv_lconst (v := (0 : Int64)) hx hb dX8_compare_33 (by decide) ?_
          refine W.lcmp hx hb dX8_compare_34 ?_
          refine lv_if_le (tgt := 120) hx hb dX8_compare_35 (by decide) (fun c19 => ?_) (fun c19 => ?_)
          · have h18 := dit h17 c19
            clear h17
            exact kK8 x2 x4 _ _ _ Z (lv_sub hl [1, 3] rfl) h18
          · have h19 := dif h17 c19
            clear h17
            refine lv_lload hx hb dX8_compare_38 (lv_at hl 0 rfl) ?_
            refine lv_lload hx hb dX8_compare_40 (lv_at hl 1 rfl) ?_
            obtain ⟨r21, hc19, h20⟩ := db1_s h19
            clear h19
            refine cS_L [.long x1, .long x2] [] B mx_yJ9_floorDiv_f86c9 (c_fJM_floorDiv l X _ x1 x2 σ r21 hc19) kl_RX8_58 ks_yJ9_floorDiv_f86c9 Z hl rfl rfl ⟨Nat.le_of_ble_eq_true rfl, Nat.le_of_ble_eq_true rfl⟩ rfl rfl (Nat.le_of_ble_eq_true rfl) dX8_compare_42 (fun H locs Z => ?_)
            clear hc19
            refine lv_lstore (lv' := [(17, .long r21), (8, .long x1), (10, .long x2), (12, .long x3), (14, .long x4), (16, .int x5)]) hx hb dX8_compare_45 hl (by decide) rfl (fun ls hl => ?_)
            refine lv_lload hx hb dX8_compare_47 (lv_at hl 3 rfl) ?_
            refine lv_lload hx hb dX8_compare_49 (lv_at hl 4 rfl) ?_
            obtain ⟨r23, hc21, h21⟩ := db1_s h20
            clear h20
            refine cS_L [.long x3, .long x4] [] B mx_yJ9_floorDiv_f86c9 (c_fJM_floorDiv l X _ x3 x4 σ r23 hc21) kl_RX8_58 ks_yJ9_floorDiv_f86c9 Z hl rfl rfl ⟨Nat.le_of_ble_eq_true rfl, Nat.le_of_ble_eq_true rfl⟩ rfl rfl (Nat.le_of_ble_eq_true rfl) dX8_compare_51 (fun H locs Z => ?_)
            clear hc21
            refine lv_lstore (lv' := [(19, .long r23), (17, .long r21), (8, .long x1), (10, .long x2), (12, .long x3), (14, .long x4), (16, .int x5)]) hx hb dX8_compare_54 hl (by decide) rfl (fun ls hl => ?_)
            refine lv_lload hx hb dX8_compare_56 (lv_at hl 1 rfl) ?_
            refine lv_lload hx hb dX8_compare_58 (lv_at hl 0 rfl) ?_
            refine W.lcmp hx hb dX8_compare_60 ?_
            refine lv_if_eq (tgt := 78) hx hb dX8_compare_61 (by decide) (fun c24 => ?_) (fun c24 => ?_)
            · have h22 := dit h21 c24
              clear h21
              refine lv_lload hx hb dX8_compare_78 (lv_at hl 2 rfl) ?_
              refine lv_lload hx hb dX8_compare_80 (lv_at hl 1 rfl) ?_
              refine lv_lload hx hb dX8_compare_82 (lv_at hl 3 rfl) ?_
              refine lv_lmul hx hb dX8_compare_84 ?_
              refine lv_lsub hx hb dX8_compare_85 ?_
              refine lv_topl (fun x25 ex25 => ?_)
              have h23 := dlt_e ex25 h22
              clear ex25 h22
              refine lv_lstore (lv' := [(21, .long x25), (19, .long r23), (17, .long r21), (8, .long x1), (10, .long x2), (12, .long x3), (14, .long x4), (16, .int x5)]) hx hb dX8_compare_86 hl (by decide) rfl (fun ls hl => ?_)
              refine lv_lload hx hb dX8_compare_88 (lv_at hl 5 rfl) ?_
              refine lv_lload hx hb dX8_compare_90 (lv_at hl 1 rfl) ?_
              refine lv_lload hx hb dX8_compare_92 (lv_at hl 6 rfl) ?_
              refine lv_lmul hx hb dX8_compare_94 ?_
              refine lv_lsub hx hb dX8_compare_95 ?_
              refine lv_topl (fun x26 ex26 => ?_)
              have h24 := dlt_e ex26 h23
              clear ex26 h23
              refine lv_lstore (lv' := [(23, .long x26), (21, .long x25), (19, .long r23), (17, .long r21), (8, .long x1), (10, .long x2), (12, .long x3), (14, .long x4), (16, .int x5)]) hx hb dX8_compare_96 hl (by decide) rfl (fun ls hl => ?_)
              refine lv_lload hx hb dX8_compare_98 (lv_at hl 7 rfl) ?_
              refine lv_lstore (lv' := [(8, .long x4), (23, .long x26), (21, .long x25), (19, .long r23), (17, .long r21), (10, .long x2), (12, .long x3), (14, .long x4), (16, .int x5)]) hx hb dX8_compare_100 hl (by decide) rfl (fun ls hl => ?_)
              refine lv_lload hx hb dX8_compare_102 (lv_at hl 5 rfl) ?_
              refine lv_lstore (lv' := [(12, .long x2), (8, .long x4), (23, .long x26), (21, .long x25), (19, .long r23), (17, .long r21), (10, .long x2), (14, .long x4), (16, .int x5)]) hx hb dX8_compare_104 hl (by decide) rfl (fun ls hl => ?_)
              refine lv_lload hx hb dX8_compare_106 (lv_at hl 2 rfl) ?_
              refine lv_lstore (lv' := [(10, .long x26), (12, .long x2), (8, .long x4), (23, .long x26), (21, .long x25), (19, .long r23), (17, .long r21), (14, .long x4), (16, .int x5)]) hx hb dX8_compare_108 hl (by decide) rfl (fun ls hl => ?_)
              refine lv_lload hx hb dX8_compare_110 (lv_at hl 4 rfl) ?_
              refine lv_lstore (lv' := [(14, .long x25), (10, .long x26), (12, .long x2), (8, .long x4), (23, .long x26), (21, .long x25), (19, .long r23), (17, .long r21), (16, .int x5)]) hx hb dX8_compare_112 hl (by decide) rfl (fun ls hl => ?_)
              refine lv_iinc (v := x5 + (1 : Int32)) (lv' := [(16, .int (x5 + (1 : Int32))), (14, .long x25), (10, .long x26), (12, .long x2), (8, .long x4), (23, .long x26), (21, .long x25), (19, .long r23), (17, .long r21)]) hx hb dX8_compare_114 hl (k := 8) rfl (by rfl) (by decide) rfl (fun ls hl => ?_)
              refine lv_goto (tgt := 17) hx hb dX8_compare_117 (by decide) ?_
              exact ih10 x4 x26 x2 x25 (x5 + (1 : Int32)) _ _ _ Z (lv_sub hl [4, 2, 3, 1, 0] rfl) h24
            · have h25 := dif h21 c24
              clear h21
              exact kK14 r21 r23 _ _ _ Z (lv_sub hl [1, 0] rfl) h25
  exact lL17 FU a1 a2 a3 a4 (0 : Int32) _ _ _ Z (lv_sub hl [4, 3, 2, 1, 0] rfl) h12
theorem dX8_isEmpty_0 : decode cX8_isEmpty 0 = .ok (.aload_n 0, 1) := by decide +kernel
theorem dX8_isEmpty_1 : decode cX8_isEmpty 1 = .ok (.getfield 9, 3) := by decide +kernel
theorem dX8_isEmpty_4 : decode cX8_isEmpty 4 = .ok (.lconst 0, 1) := by decide +kernel
theorem dX8_isEmpty_5 : decode cX8_isEmpty 5 = .ok (.lcmp, 1) := by decide +kernel
theorem dX8_isEmpty_6 : decode cX8_isEmpty 6 = .ok (.ifCond .eq 12, 3) := by decide +kernel
theorem dX8_isEmpty_9 : decode cX8_isEmpty 9 = .ok (.aload_n 0, 1) := by decide +kernel
theorem dX8_isEmpty_10 : decode cX8_isEmpty 10 = .ok (.getfield 15, 3) := by decide +kernel
theorem dX8_isEmpty_13 : decode cX8_isEmpty 13 = .ok (.lconst 0, 1) := by decide +kernel
theorem dX8_isEmpty_14 : decode cX8_isEmpty 14 = .ok (.lcmp, 1) := by decide +kernel
theorem dX8_isEmpty_15 : decode cX8_isEmpty 15 = .ok (.ifCond .ne 5, 3) := by decide +kernel
theorem dX8_isEmpty_18 : decode cX8_isEmpty 18 = .ok (.iconst 0, 1) := by decide +kernel
theorem dX8_isEmpty_19 : decode cX8_isEmpty 19 = .ok (.ireturn, 1) := by decide +kernel
theorem dX8_isEmpty_20 : decode cX8_isEmpty 20 = .ok (.aload_n 0, 1) := by decide +kernel
theorem dX8_isEmpty_21 : decode cX8_isEmpty 21 = .ok (.getfield 42, 3) := by decide +kernel
theorem dX8_isEmpty_24 : decode cX8_isEmpty 24 = .ok (.aload_n 0, 1) := by decide +kernel
theorem dX8_isEmpty_25 : decode cX8_isEmpty 25 = .ok (.getfield 9, 3) := by decide +kernel
theorem dX8_isEmpty_28 : decode cX8_isEmpty 28 = .ok (.aload_n 0, 1) := by decide +kernel
theorem dX8_isEmpty_29 : decode cX8_isEmpty 29 = .ok (.getfield 31, 3) := by decide +kernel
theorem dX8_isEmpty_32 : decode cX8_isEmpty 32 = .ok (.aload_n 0, 1) := by decide +kernel
theorem dX8_isEmpty_33 : decode cX8_isEmpty 33 = .ok (.getfield 15, 3) := by decide +kernel
theorem dX8_isEmpty_36 : decode cX8_isEmpty 36 = .ok (.invokestatic 34, 3) := by decide +kernel
theorem dX8_isEmpty_39 : decode cX8_isEmpty 39 = .ok (.istore_n 1, 1) := by decide +kernel
theorem dX8_isEmpty_40 : decode cX8_isEmpty 40 = .ok (.iload_n 1, 1) := by decide +kernel
theorem dX8_isEmpty_41 : decode cX8_isEmpty 41 = .ok (.ifCond .gt 21, 3) := by decide +kernel
theorem dX8_isEmpty_44 : decode cX8_isEmpty 44 = .ok (.iload_n 1, 1) := by decide +kernel
theorem dX8_isEmpty_45 : decode cX8_isEmpty 45 = .ok (.ifCond .ne 21, 3) := by decide +kernel
theorem dX8_isEmpty_48 : decode cX8_isEmpty 48 = .ok (.aload_n 0, 1) := by decide +kernel
theorem dX8_isEmpty_49 : decode cX8_isEmpty 49 = .ok (.getfield 45, 3) := by decide +kernel
theorem dX8_isEmpty_52 : decode cX8_isEmpty 52 = .ok (.ifCond .ne 10, 3) := by decide +kernel
theorem dX8_isEmpty_55 : decode cX8_isEmpty 55 = .ok (.aload_n 0, 1) := by decide +kernel
theorem dX8_isEmpty_56 : decode cX8_isEmpty 56 = .ok (.getfield 38, 3) := by decide +kernel
theorem dX8_isEmpty_59 : decode cX8_isEmpty 59 = .ok (.ifCond .eq 7, 3) := by decide +kernel
theorem dX8_isEmpty_62 : decode cX8_isEmpty 62 = .ok (.iconst 1, 1) := by decide +kernel
theorem dX8_isEmpty_63 : decode cX8_isEmpty 63 = .ok (.goto 4, 3) := by decide +kernel
theorem dX8_isEmpty_66 : decode cX8_isEmpty 66 = .ok (.iconst 0, 1) := by decide +kernel
theorem dX8_isEmpty_67 : decode cX8_isEmpty 67 = .ok (.ireturn, 1) := by decide +kernel
def rm_fSp_isEmpty : Room := { frames := 3, cells := 0, slots := 0, locals := 129 }
set_option maxHeartbeats 4000000 in
set_option maxRecDepth 100000 in
theorem c_fSp_isEmpty (l : Launch) (X : eX) (sz : Nat)  (σ : sT) (rz : Int32) (h0 : fSp_isEmpty σ = some rz) : ctI l yX8_isEmpty cX8_isEmpty 2 (some .boolean) rm_fSp_isEmpty [.ref (X.2.1 15)] (wC X) (tC X) (aC X) X sz σ rz σ := by
  refine ct_of (by decide +kernel) (Nat.le_of_ble_eq_true rfl) ?_
  intro p e s m args below meth c ls hz B hl Z
  have B : Bd p s m args meth c RX8 cX8_isEmpty 2 (some .boolean) := B
  have hl : lv_has ls 2 [(0, .ref (X.2.1 15))] := hl
  have hx := B.1
  have hb := B.2.1
  unfold fSp_isEmpty at h0
  refine lv_aload_n hx hb dX8_isEmpty_0 rfl (lv_at hl 0 rfl) ?_
  refine g_15_1 B Z kf_RX8_9 dX8_isEmpty_1 ?_
  refine lv_lconst (v := (0 : Int64)) hx hb dX8_isEmpty_4 (by decide) ?_
  refine W.lcmp hx hb dX8_isEmpty_5 ?_
  refine lv_if_eq (tgt := 18) hx hb dX8_isEmpty_6 (by decide) (fun c1 => ?_) (fun c1 => ?_)
  · have h1 := dit h0 c1
    clear h0
    refine lv_iconst (v := (0 : Int32)) hx hb dX8_isEmpty_18 (by decide) ?_
    exact reI B Z rfl hz (congrArg (Option.map (fun q => (q, σ))) h1) dX8_isEmpty_19
  · have h2 := dif h0 c1
    clear h0
    refine lv_aload_n hx hb dX8_isEmpty_9 rfl (lv_at hl 0 rfl) ?_
    refine g_15_4 B Z kf_RX8_15 dX8_isEmpty_10 ?_
    refine lv_lconst (v := (0 : Int64)) hx hb dX8_isEmpty_13 (by decide) ?_
    refine W.lcmp hx hb dX8_isEmpty_14 ?_
    refine lv_if_ne (tgt := 20) hx hb dX8_isEmpty_15 (by decide) (fun c2 => ?_) (fun c2 => ?_)
    · have h3 := dif h2 c2
      clear h2
      refine lv_aload_n hx hb dX8_isEmpty_20 rfl (lv_at hl 0 rfl) ?_
      refine g_15_0 B Z kf_RX8_42 dX8_isEmpty_21 ?_
      refine lv_aload_n hx hb dX8_isEmpty_24 rfl (lv_at hl 0 rfl) ?_
      refine g_15_1 B Z kf_RX8_9 dX8_isEmpty_25 ?_
      refine lv_aload_n hx hb dX8_isEmpty_28 rfl (lv_at hl 0 rfl) ?_
      refine g_15_3 B Z kf_RX8_31 dX8_isEmpty_29 ?_
      refine lv_aload_n hx hb dX8_isEmpty_32 rfl (lv_at hl 0 rfl) ?_
      refine g_15_4 B Z kf_RX8_15 dX8_isEmpty_33 ?_
      obtain ⟨r4, hc2, h4⟩ := db1_s h3
      clear h3
      refine cS_I [.long (σ.2 15 0), .long (σ.2 15 1), .long (σ.2 15 3), .long (σ.2 15 4)] [] B mx_yX8_compare (c_fSp_compare l X _ (σ.2 15 0) (σ.2 15 1) (σ.2 15 3) (σ.2 15 4) σ r4 hc2) kl_RX8_34 ks_yX8_compare Z hl rfl rfl ⟨Nat.le_of_ble_eq_true rfl, Nat.le_of_ble_eq_true rfl⟩ rfl rfl (Nat.le_of_ble_eq_true rfl) dX8_isEmpty_36 (fun H locs Z => ?_)
      clear hc2
      refine lv_istore_n (lv' := [(1, .int r4), (0, .ref (X.2.1 15))]) hx hb dX8_isEmpty_39 rfl hl (by decide) rfl (fun ls hl => ?_)
      refine lv_iload_n hx hb dX8_isEmpty_40 rfl (lv_at hl 0 rfl) ?_
      refine lv_if_gt (tgt := 62) hx hb dX8_isEmpty_41 (by decide) (fun c5 => ?_) (fun c5 => ?_)
      · have h5 := dit h4 c5
        clear h4
        refine lv_iconst (v := (1 : Int32)) hx hb dX8_isEmpty_62 (by decide) ?_
        refine lv_goto (tgt := 67) hx hb dX8_isEmpty_63 (by decide) ?_
        exact reI B Z rfl hz (congrArg (Option.map (fun q => (q, σ))) h5) dX8_isEmpty_67
      · have h6 := dif h4 c5
        clear h4
        refine lv_iload_n hx hb dX8_isEmpty_44 rfl (lv_at hl 0 rfl) ?_
        refine lv_if_ne (tgt := 66) hx hb dX8_isEmpty_45 (by decide) (fun c6 => ?_) (fun c6 => ?_)
        · have h7 := dif h6 c6
          clear h6
          refine lv_iconst (v := (0 : Int32)) hx hb dX8_isEmpty_66 (by decide) ?_
          exact reI B Z rfl hz (congrArg (Option.map (fun q => (q, σ))) h7) dX8_isEmpty_67
        · have h8 := dit h6 c6
          clear h6
          refine lv_aload_n hx hb dX8_isEmpty_48 rfl (lv_at hl 1 rfl) ?_
          refine g_15_2 B Z kf_RX8_45 dX8_isEmpty_49 ?_
          refine lv_if_ne (tgt := 62) hx hb dX8_isEmpty_52 (by decide) (fun c7 => ?_) (fun c7 => ?_)
          · have h9 := dif h8 c7
            clear h8
            refine lv_iconst (v := (1 : Int32)) hx hb dX8_isEmpty_62 (by decide) ?_
            refine lv_goto (tgt := 67) hx hb dX8_isEmpty_63 (by decide) ?_
            exact reI B Z rfl hz (congrArg (Option.map (fun q => (q, σ))) h9) dX8_isEmpty_67
          · have h10 := dit h8 c7
            clear h8
            refine lv_aload_n hx hb dX8_isEmpty_55 rfl (lv_at hl 1 rfl) ?_
            refine g_15_5 B Z kf_RX8_38 dX8_isEmpty_56 ?_
            refine lv_if_eq (tgt := 66) hx hb dX8_isEmpty_59 (by decide) (fun c8 => ?_) (fun c8 => ?_)
            · have h11 := dit h10 c8
              clear h10
              refine lv_iconst (v := (0 : Int32)) hx hb dX8_isEmpty_66 (by decide) ?_
              exact reI B Z rfl hz (congrArg (Option.map (fun q => (q, σ))) h11) dX8_isEmpty_67
            · have h12 := dif h10 c8
              clear h10
              refine lv_iconst (v := (1 : Int32)) hx hb dX8_isEmpty_62 (by decide) ?_
              refine lv_goto (tgt := 67) hx hb dX8_isEmpty_63 (by decide) ?_
              exact reI B Z rfl hz (congrArg (Option.map (fun q => (q, σ))) h12) dX8_isEmpty_67
    · have h13 := dit h2 c2
      clear h2
      refine lv_iconst (v := (0 : Int32)) hx hb dX8_isEmpty_18 (by decide) ?_
      exact reI B Z rfl hz (congrArg (Option.map (fun q => (q, σ))) h13) dX8_isEmpty_19
theorem dX8_raiseLow_0 : decode cX8_raiseLow 0 = .ok (.aload_n 0, 1) := by decide +kernel
theorem dX8_raiseLow_1 : decode cX8_raiseLow 1 = .ok (.getfield 9, 3) := by decide +kernel
theorem dX8_raiseLow_4 : decode cX8_raiseLow 4 = .ok (.lconst 0, 1) := by decide +kernel
theorem dX8_raiseLow_5 : decode cX8_raiseLow 5 = .ok (.lcmp, 1) := by decide +kernel
theorem dX8_raiseLow_6 : decode cX8_raiseLow 6 = .ok (.ifCond .ne 7, 3) := by decide +kernel
theorem dX8_raiseLow_9 : decode cX8_raiseLow 9 = .ok (.iconst 1, 1) := by decide +kernel
theorem dX8_raiseLow_10 : decode cX8_raiseLow 10 = .ok (.goto 16, 3) := by decide +kernel
theorem dX8_raiseLow_13 : decode cX8_raiseLow 13 = .ok (.lload_n 1, 1) := by decide +kernel
theorem dX8_raiseLow_14 : decode cX8_raiseLow 14 = .ok (.lload_n 3, 1) := by decide +kernel
theorem dX8_raiseLow_15 : decode cX8_raiseLow 15 = .ok (.aload_n 0, 1) := by decide +kernel
theorem dX8_raiseLow_16 : decode cX8_raiseLow 16 = .ok (.getfield 42, 3) := by decide +kernel
theorem dX8_raiseLow_19 : decode cX8_raiseLow 19 = .ok (.aload_n 0, 1) := by decide +kernel
theorem dX8_raiseLow_20 : decode cX8_raiseLow 20 = .ok (.getfield 9, 3) := by decide +kernel
theorem dX8_raiseLow_23 : decode cX8_raiseLow 23 = .ok (.invokestatic 34, 3) := by decide +kernel
theorem dX8_raiseLow_26 : decode cX8_raiseLow 26 = .ok (.istore 6, 2) := by decide +kernel
theorem dX8_raiseLow_28 : decode cX8_raiseLow 28 = .ok (.iload 6, 2) := by decide +kernel
theorem dX8_raiseLow_30 : decode cX8_raiseLow 30 = .ok (.ifCond .le 22, 3) := by decide +kernel
theorem dX8_raiseLow_33 : decode cX8_raiseLow 33 = .ok (.aload_n 0, 1) := by decide +kernel
theorem dX8_raiseLow_34 : decode cX8_raiseLow 34 = .ok (.lload_n 1, 1) := by decide +kernel
theorem dX8_raiseLow_35 : decode cX8_raiseLow 35 = .ok (.putfield 42, 3) := by decide +kernel
theorem dX8_raiseLow_38 : decode cX8_raiseLow 38 = .ok (.aload_n 0, 1) := by decide +kernel
theorem dX8_raiseLow_39 : decode cX8_raiseLow 39 = .ok (.lload_n 3, 1) := by decide +kernel
theorem dX8_raiseLow_40 : decode cX8_raiseLow 40 = .ok (.putfield 9, 3) := by decide +kernel
theorem dX8_raiseLow_43 : decode cX8_raiseLow 43 = .ok (.aload_n 0, 1) := by decide +kernel
theorem dX8_raiseLow_44 : decode cX8_raiseLow 44 = .ok (.iload 5, 2) := by decide +kernel
theorem dX8_raiseLow_46 : decode cX8_raiseLow 46 = .ok (.putfield 45, 3) := by decide +kernel
theorem dX8_raiseLow_49 : decode cX8_raiseLow 49 = .ok (.goto 29, 3) := by decide +kernel
theorem dX8_raiseLow_52 : decode cX8_raiseLow 52 = .ok (.iload 6, 2) := by decide +kernel
theorem dX8_raiseLow_54 : decode cX8_raiseLow 54 = .ok (.ifCond .ne 24, 3) := by decide +kernel
theorem dX8_raiseLow_57 : decode cX8_raiseLow 57 = .ok (.aload_n 0, 1) := by decide +kernel
theorem dX8_raiseLow_58 : decode cX8_raiseLow 58 = .ok (.aload_n 0, 1) := by decide +kernel
theorem dX8_raiseLow_59 : decode cX8_raiseLow 59 = .ok (.getfield 45, 3) := by decide +kernel
theorem dX8_raiseLow_62 : decode cX8_raiseLow 62 = .ok (.ifCond .ne 8, 3) := by decide +kernel
theorem dX8_raiseLow_65 : decode cX8_raiseLow 65 = .ok (.iload 5, 2) := by decide +kernel
theorem dX8_raiseLow_67 : decode cX8_raiseLow 67 = .ok (.ifCond .eq 7, 3) := by decide +kernel
theorem dX8_raiseLow_70 : decode cX8_raiseLow 70 = .ok (.iconst 1, 1) := by decide +kernel
theorem dX8_raiseLow_71 : decode cX8_raiseLow 71 = .ok (.goto 4, 3) := by decide +kernel
theorem dX8_raiseLow_74 : decode cX8_raiseLow 74 = .ok (.iconst 0, 1) := by decide +kernel
theorem dX8_raiseLow_75 : decode cX8_raiseLow 75 = .ok (.putfield 45, 3) := by decide +kernel
theorem dX8_raiseLow_78 : decode cX8_raiseLow 78 = .ok (.return_, 1) := by decide +kernel
def rm_fSp_raiseLow : Room := { frames := 3, cells := 0, slots := 0, locals := 129 }
set_option maxHeartbeats 4000000 in
set_option maxRecDepth 100000 in
theorem c_fSp_raiseLow (l : Launch) (X : eX) (sz : Nat) (a1 : Int64) (a2 : Int64) (a3 : Int32) (σ : sT) (σz : sT) (h0 : fSp_raiseLow a1 a2 a3 σ = some σz) : ctV l yX8_raiseLow cX8_raiseLow 7 none rm_fSp_raiseLow [.ref (X.2.1 15), .long a1, .long a2, .int a3] (wC X) (tC X) (aC X) X sz σ σz := by
  refine ct_of (by decide +kernel) (Nat.le_of_ble_eq_true rfl) ?_
  intro p e s m args below meth c ls hz B hl Z
  have B : Bd p s m args meth c RX8 cX8_raiseLow 7 none := B
  have hl : lv_has ls 7 [(0, .ref (X.2.1 15)), (1, .long a1), (3, .long a2), (5, .int a3)] := hl
  have hx := B.1
  have hb := B.2.1
  unfold fSp_raiseLow at h0
  refine lv_aload_n hx hb dX8_raiseLow_0 rfl (lv_at hl 0 rfl) ?_
  refine g_15_1 B Z kf_RX8_9 dX8_raiseLow_1 ?_
  refine lv_lconst (v := (0 : Int64)) hx hb dX8_raiseLow_4 (by decide) ?_
  refine W.lcmp hx hb dX8_raiseLow_5 ?_
  obtain ⟨J2, eJ2, h20⟩ := dlt_s h0
  clear h0
  have kJ2 : ∀ (x1 : Int32) (H : Heap) (locs : List Loc) (ls : Array Slot), Wd (wC X) (tC X) (aC X) X s σ H locs → lv_has ls 7 [(0, .ref (X.2.1 15)), (1, .long a1), (3, .long a2), (5, .int a3)] → J2 x1 = some σz → W p l e rm_fSp_raiseLow s m args below meth c H locs 0 0 (MQ below (va_Qv (fun u => u = σz) (poW (wC X) (tC X) (aC X) X sz) (aA (aC X) sz)) args s 0 0 (aA (aC X) sz)) (F0 m 26 ls [.int x1]) := by
    intro x1 H locs ls Z hl h1
    rw [eJ2] at h1
    refine lv_istore (lv' := [(6, .int x1), (0, .ref (X.2.1 15)), (1, .long a1), (3, .long a2), (5, .int a3)]) hx hb dX8_raiseLow_26 hl (by decide) rfl (fun ls hl => ?_)
    refine lv_iload hx hb dX8_raiseLow_28 (lv_at hl 0 rfl) ?_
    refine lv_if_le (tgt := 52) hx hb dX8_raiseLow_30 (by decide) (fun c3 => ?_) (fun c3 => ?_)
    · have h2 := dit h1 c3
      clear h1
      refine lv_iload hx hb dX8_raiseLow_52 (lv_at hl 0 rfl) ?_
      refine lv_if_ne (tgt := 78) hx hb dX8_raiseLow_54 (by decide) (fun c4 => ?_) (fun c4 => ?_)
      · have h3 := dif h2 c4
        clear h2
        exact reV B Z hz h3 dX8_raiseLow_78
      · have h4 := dit h2 c4
        clear h2
        refine lv_aload_n hx hb dX8_raiseLow_57 rfl (lv_at hl 1 rfl) ?_
        refine lv_aload_n hx hb dX8_raiseLow_58 rfl (lv_at hl 1 rfl) ?_
        refine g_15_2 B Z kf_RX8_45 dX8_raiseLow_59 ?_
        obtain ⟨J6, eJ6, h8⟩ := dlt_s h4
        clear h4
        have kJ6 : ∀ (x5 : Int32) (H : Heap) (locs : List Loc) (ls : Array Slot), Wd (wC X) (tC X) (aC X) X s σ H locs → lv_has ls 7 [] → J6 x5 = some σz → W p l e rm_fSp_raiseLow s m args below meth c H locs 0 0 (MQ below (va_Qv (fun u => u = σz) (poW (wC X) (tC X) (aC X) X sz) (aA (aC X) sz)) args s 0 0 (aA (aC X) sz)) (F0 m 75 ls [.int x5, .ref (X.2.1 15)]) := by
          intro x5 H locs ls Z hl h5
          rw [eJ6] at h5
          obtain ⟨z7, h6⟩ := dck_s h5
          clear h5
          refine s_15_2 B Z z7 kf_RX8_45 dX8_raiseLow_75 (fun H locs Z => ?_)
          obtain ⟨σ8, eσ8, h7⟩ := dlt_s h6
          clear h6
          replace Z := Wd.eq eσ8 Z
          clear eσ8
          exact reV B Z hz h7 dX8_raiseLow_78
        clear eJ6
        obtain ⟨J9, eJ9, h10⟩ := dlt_s h8
        clear h8
        have kJ9 : ∀ (H : Heap) (locs : List Loc) (ls : Array Slot), Wd (wC X) (tC X) (aC X) X s σ H locs → lv_has ls 7 [] → J9 () = some σz → W p l e rm_fSp_raiseLow s m args below meth c H locs 0 0 (MQ below (va_Qv (fun u => u = σz) (poW (wC X) (tC X) (aC X) X sz) (aA (aC X) sz)) args s 0 0 (aA (aC X) sz)) (F0 m 70 ls [.ref (X.2.1 15)]) := by
          intro  H locs ls Z hl h9
          rw [eJ9] at h9
          refine lv_iconst (v := (1 : Int32)) hx hb dX8_raiseLow_70 (by decide) ?_
          refine lv_goto (tgt := 75) hx hb dX8_raiseLow_71 (by decide) ?_
          exact kJ6 (1 : Int32) _ _ _ Z (lv_sub hl [] rfl) h9
        clear eJ9
        refine lv_if_ne (tgt := 70) hx hb dX8_raiseLow_62 (by decide) (fun c10 => ?_) (fun c10 => ?_)
        · have h11 := dif h10 c10
          clear h10
          exact kJ9  _ _ _ Z (lv_sub hl [] rfl) h11
        · have h12 := dit h10 c10
          clear h10
          refine lv_iload hx hb dX8_raiseLow_65 (lv_at hl 4 rfl) ?_
          refine lv_if_eq (tgt := 74) hx hb dX8_raiseLow_67 (by decide) (fun c11 => ?_) (fun c11 => ?_)
          · have h13 := dit h12 c11
            clear h12
            refine lv_iconst (v := (0 : Int32)) hx hb dX8_raiseLow_74 (by decide) ?_
            exact kJ6 (0 : Int32) _ _ _ Z (lv_sub hl [] rfl) h13
          · have h14 := dif h12 c11
            clear h12
            exact kJ9  _ _ _ Z (lv_sub hl [] rfl) h14
    · have h15 := dif h1 c3
      clear h1
      refine lv_aload_n hx hb dX8_raiseLow_33 rfl (lv_at hl 1 rfl) ?_
      refine lv_lload_n hx hb dX8_raiseLow_34 rfl (lv_at hl 2 rfl) ?_
      refine s_15_0 B Z kf_RX8_42 dX8_raiseLow_35 (fun H locs Z => ?_)
      obtain ⟨σ12, eσ12, h16⟩ := dlt_s h15
      clear h15
      replace Z := Wd.eq eσ12 Z
      clear eσ12
      refine lv_aload_n hx hb dX8_raiseLow_38 rfl (lv_at hl 1 rfl) ?_
      refine lv_lload_n hx hb dX8_raiseLow_39 rfl (lv_at hl 3 rfl) ?_
      refine s_15_1 B Z kf_RX8_9 dX8_raiseLow_40 (fun H locs Z => ?_)
      obtain ⟨σ13, eσ13, h17⟩ := dlt_s h16
      clear h16
      replace Z := Wd.eq eσ13 Z
      clear eσ13
      refine lv_aload_n hx hb dX8_raiseLow_43 rfl (lv_at hl 1 rfl) ?_
      refine lv_iload hx hb dX8_raiseLow_44 (lv_at hl 4 rfl) ?_
      obtain ⟨z14, h18⟩ := dck_s h17
      clear h17
      refine s_15_2 B Z z14 kf_RX8_45 dX8_raiseLow_46 (fun H locs Z => ?_)
      obtain ⟨σ15, eσ15, h19⟩ := dlt_s h18
      clear h18
      replace Z := Wd.eq eσ15 Z
      clear eσ15
      refine lv_goto (tgt := 78) hx hb dX8_raiseLow_49 (by decide) ?_
      exact reV B Z hz h19 dX8_raiseLow_78
  clear eJ2
  refine lv_if_ne (tgt := 13) hx hb dX8_raiseLow_6 (by decide) (fun c16 => ?_) (fun c16 => ?_)
  · have h21 := dif h20 c16
    clear h20
    refine lv_lload_n hx hb dX8_raiseLow_13 rfl (lv_at hl 1 rfl) ?_
    refine lv_lload_n hx hb dX8_raiseLow_14 rfl (lv_at hl 2 rfl) ?_
    refine lv_aload_n hx hb dX8_raiseLow_15 rfl (lv_at hl 0 rfl) ?_
    refine g_15_0 B Z kf_RX8_42 dX8_raiseLow_16 ?_
    refine lv_aload_n hx hb dX8_raiseLow_19 rfl (lv_at hl 0 rfl) ?_
    refine g_15_1 B Z kf_RX8_9 dX8_raiseLow_20 ?_
    obtain ⟨r18, hc16, h22⟩ := db1_s h21
    clear h21
    refine cS_I [.long a1, .long a2, .long (σ.2 15 0), .long (σ.2 15 1)] [] B mx_yX8_compare (c_fSp_compare l X _ a1 a2 (σ.2 15 0) (σ.2 15 1) σ r18 hc16) kl_RX8_34 ks_yX8_compare Z hl rfl rfl ⟨Nat.le_of_ble_eq_true rfl, Nat.le_of_ble_eq_true rfl⟩ rfl rfl (Nat.le_of_ble_eq_true rfl) dX8_raiseLow_23 (fun H locs Z => ?_)
    clear hc16
    exact kJ2 r18 _ _ _ Z (lv_sub hl [0, 1, 2, 3] rfl) h22
  · have h23 := dit h20 c16
    clear h20
    refine lv_iconst (v := (1 : Int32)) hx hb dX8_raiseLow_9 (by decide) ?_
    refine lv_goto (tgt := 26) hx hb dX8_raiseLow_10 (by decide) ?_
    exact kJ2 (1 : Int32) _ _ _ Z (lv_sub hl [0, 1, 2, 3] rfl) h23
theorem dX8_lowerHigh_0 : decode cX8_lowerHigh 0 = .ok (.aload_n 0, 1) := by decide +kernel
theorem dX8_lowerHigh_1 : decode cX8_lowerHigh 1 = .ok (.getfield 15, 3) := by decide +kernel
theorem dX8_lowerHigh_4 : decode cX8_lowerHigh 4 = .ok (.lconst 0, 1) := by decide +kernel
theorem dX8_lowerHigh_5 : decode cX8_lowerHigh 5 = .ok (.lcmp, 1) := by decide +kernel
theorem dX8_lowerHigh_6 : decode cX8_lowerHigh 6 = .ok (.ifCond .ne 7, 3) := by decide +kernel
theorem dX8_lowerHigh_9 : decode cX8_lowerHigh 9 = .ok (.iconst (-1), 1) := by decide +kernel
theorem dX8_lowerHigh_10 : decode cX8_lowerHigh 10 = .ok (.goto 16, 3) := by decide +kernel
theorem dX8_lowerHigh_13 : decode cX8_lowerHigh 13 = .ok (.lload_n 1, 1) := by decide +kernel
theorem dX8_lowerHigh_14 : decode cX8_lowerHigh 14 = .ok (.lload_n 3, 1) := by decide +kernel
theorem dX8_lowerHigh_15 : decode cX8_lowerHigh 15 = .ok (.aload_n 0, 1) := by decide +kernel
theorem dX8_lowerHigh_16 : decode cX8_lowerHigh 16 = .ok (.getfield 31, 3) := by decide +kernel
theorem dX8_lowerHigh_19 : decode cX8_lowerHigh 19 = .ok (.aload_n 0, 1) := by decide +kernel
theorem dX8_lowerHigh_20 : decode cX8_lowerHigh 20 = .ok (.getfield 15, 3) := by decide +kernel
theorem dX8_lowerHigh_23 : decode cX8_lowerHigh 23 = .ok (.invokestatic 34, 3) := by decide +kernel
theorem dX8_lowerHigh_26 : decode cX8_lowerHigh 26 = .ok (.istore 6, 2) := by decide +kernel
theorem dX8_lowerHigh_28 : decode cX8_lowerHigh 28 = .ok (.iload 6, 2) := by decide +kernel
theorem dX8_lowerHigh_30 : decode cX8_lowerHigh 30 = .ok (.ifCond .ge 22, 3) := by decide +kernel
theorem dX8_lowerHigh_33 : decode cX8_lowerHigh 33 = .ok (.aload_n 0, 1) := by decide +kernel
theorem dX8_lowerHigh_34 : decode cX8_lowerHigh 34 = .ok (.lload_n 1, 1) := by decide +kernel
theorem dX8_lowerHigh_35 : decode cX8_lowerHigh 35 = .ok (.putfield 31, 3) := by decide +kernel
theorem dX8_lowerHigh_38 : decode cX8_lowerHigh 38 = .ok (.aload_n 0, 1) := by decide +kernel
theorem dX8_lowerHigh_39 : decode cX8_lowerHigh 39 = .ok (.lload_n 3, 1) := by decide +kernel
theorem dX8_lowerHigh_40 : decode cX8_lowerHigh 40 = .ok (.putfield 15, 3) := by decide +kernel
theorem dX8_lowerHigh_43 : decode cX8_lowerHigh 43 = .ok (.aload_n 0, 1) := by decide +kernel
theorem dX8_lowerHigh_44 : decode cX8_lowerHigh 44 = .ok (.iload 5, 2) := by decide +kernel
theorem dX8_lowerHigh_46 : decode cX8_lowerHigh 46 = .ok (.putfield 38, 3) := by decide +kernel
theorem dX8_lowerHigh_49 : decode cX8_lowerHigh 49 = .ok (.goto 29, 3) := by decide +kernel
theorem dX8_lowerHigh_52 : decode cX8_lowerHigh 52 = .ok (.iload 6, 2) := by decide +kernel
theorem dX8_lowerHigh_54 : decode cX8_lowerHigh 54 = .ok (.ifCond .ne 24, 3) := by decide +kernel
theorem dX8_lowerHigh_57 : decode cX8_lowerHigh 57 = .ok (.aload_n 0, 1) := by decide +kernel
theorem dX8_lowerHigh_58 : decode cX8_lowerHigh 58 = .ok (.aload_n 0, 1) := by decide +kernel
theorem dX8_lowerHigh_59 : decode cX8_lowerHigh 59 = .ok (.getfield 38, 3) := by decide +kernel
theorem dX8_lowerHigh_62 : decode cX8_lowerHigh 62 = .ok (.ifCond .ne 8, 3) := by decide +kernel
theorem dX8_lowerHigh_65 : decode cX8_lowerHigh 65 = .ok (.iload 5, 2) := by decide +kernel
theorem dX8_lowerHigh_67 : decode cX8_lowerHigh 67 = .ok (.ifCond .eq 7, 3) := by decide +kernel
theorem dX8_lowerHigh_70 : decode cX8_lowerHigh 70 = .ok (.iconst 1, 1) := by decide +kernel
theorem dX8_lowerHigh_71 : decode cX8_lowerHigh 71 = .ok (.goto 4, 3) := by decide +kernel
theorem dX8_lowerHigh_74 : decode cX8_lowerHigh 74 = .ok (.iconst 0, 1) := by decide +kernel
theorem dX8_lowerHigh_75 : decode cX8_lowerHigh 75 = .ok (.putfield 38, 3) := by decide +kernel
theorem dX8_lowerHigh_78 : decode cX8_lowerHigh 78 = .ok (.return_, 1) := by decide +kernel
def rm_fSp_lowerHigh : Room := { frames := 3, cells := 0, slots := 0, locals := 129 }
set_option maxHeartbeats 4000000 in
set_option maxRecDepth 100000 in
theorem c_fSp_lowerHigh (l : Launch) (X : eX) (sz : Nat) (a1 : Int64) (a2 : Int64) (a3 : Int32) (σ : sT) (σz : sT) (h0 : fSp_lowerHigh a1 a2 a3 σ = some σz) : ctV l yX8_lowerHigh cX8_lowerHigh 7 none rm_fSp_lowerHigh [.ref (X.2.1 15), .long a1, .long a2, .int a3] (wC X) (tC X) (aC X) X sz σ σz := by
  refine ct_of (by decide +kernel) (Nat.le_of_ble_eq_true rfl) ?_
  intro p e s m args below meth c ls hz B hl Z
  have B : Bd p s m args meth c RX8 cX8_lowerHigh 7 none := B
  have hl : lv_has ls 7 [(0, .ref (X.2.1 15)), (1, .long a1), (3, .long a2), (5, .int a3)] := hl
  have hx := B.1
  have hb := B.2.1
  unfold fSp_lowerHigh at h0
  refine lv_aload_n hx hb dX8_lowerHigh_0 rfl (lv_at hl 0 rfl) ?_
  refine g_15_4 B Z kf_RX8_15 dX8_lowerHigh_1 ?_
  refine lv_lconst (v := (0 : Int64)) hx hb dX8_lowerHigh_4 (by decide) ?_
  refine W.lcmp hx hb dX8_lowerHigh_5 ?_
  obtain ⟨J2, eJ2, h20⟩ := dlt_s h0
  clear h0
  have kJ2 : ∀ (x1 : Int32) (H : Heap) (locs : List Loc) (ls : Array Slot), Wd (wC X) (tC X) (aC X) X s σ H locs → lv_has ls 7 [(0, .ref (X.2.1 15)), (1, .long a1), (3, .long a2), (5, .int a3)] → J2 x1 = some σz → W p l e rm_fSp_lowerHigh s m args below meth c H locs 0 0 (MQ below (va_Qv (fun u => u = σz) (poW (wC X) (tC X) (aC X) X sz) (aA (aC X) sz)) args s 0 0 (aA (aC X) sz)) (F0 m 26 ls [.int x1]) := by
    intro x1 H locs ls Z hl h1
    rw [eJ2] at h1
    refine lv_istore (lv' := [(6, .int x1), (0, .ref (X.2.1 15)), (1, .long a1), (3, .long a2), (5, .int a3)]) hx hb dX8_lowerHigh_26 hl (by decide) rfl (fun ls hl => ?_)
    refine lv_iload hx hb dX8_lowerHigh_28 (lv_at hl 0 rfl) ?_
    refine lv_if_ge (tgt := 52) hx hb dX8_lowerHigh_30 (by decide) (fun c3 => ?_) (fun c3 => ?_)
    · have h2 := dit h1 c3
      clear h1
      refine lv_iload hx hb dX8_lowerHigh_52 (lv_at hl 0 rfl) ?_
      refine lv_if_ne (tgt := 78) hx hb dX8_lowerHigh_54 (by decide) (fun c4 => ?_) (fun c4 => ?_)
      · have h3 := dif h2 c4
        clear h2
        exact reV B Z hz h3 dX8_lowerHigh_78
      · have h4 := dit h2 c4
        clear h2
        refine lv_aload_n hx hb dX8_lowerHigh_57 rfl (lv_at hl 1 rfl) ?_
        refine lv_aload_n hx hb dX8_lowerHigh_58 rfl (lv_at hl 1 rfl) ?_
        refine g_15_5 B Z kf_RX8_38 dX8_lowerHigh_59 ?_
        obtain ⟨J6, eJ6, h8⟩ := dlt_s h4
        clear h4
        have kJ6 : ∀ (x5 : Int32) (H : Heap) (locs : List Loc) (ls : Array Slot), Wd (wC X) (tC X) (aC X) X s σ H locs → lv_has ls 7 [] → J6 x5 = some σz → W p l e rm_fSp_lowerHigh s m args below meth c H locs 0 0 (MQ below (va_Qv (fun u => u = σz) (poW (wC X) (tC X) (aC X) X sz) (aA (aC X) sz)) args s 0 0 (aA (aC X) sz)) (F0 m 75 ls [.int x5, .ref (X.2.1 15)]) := by
          intro x5 H locs ls Z hl h5
          rw [eJ6] at h5
          obtain ⟨z7, h6⟩ := dck_s h5
          clear h5
          refine s_15_5 B Z z7 kf_RX8_38 dX8_lowerHigh_75 (fun H locs Z => ?_)
          obtain ⟨σ8, eσ8, h7⟩ := dlt_s h6
          clear h6
          replace Z := Wd.eq eσ8 Z
          clear eσ8
          exact reV B Z hz h7 dX8_lowerHigh_78
        clear eJ6
        obtain ⟨J9, eJ9, h10⟩ := dlt_s h8
        clear h8
        have kJ9 : ∀ (H : Heap) (locs : List Loc) (ls : Array Slot), Wd (wC X) (tC X) (aC X) X s σ H locs → lv_has ls 7 [] → J9 () = some σz → W p l e rm_fSp_lowerHigh s m args below meth c H locs 0 0 (MQ below (va_Qv (fun u => u = σz) (poW (wC X) (tC X) (aC X) X sz) (aA (aC X) sz)) args s 0 0 (aA (aC X) sz)) (F0 m 70 ls [.ref (X.2.1 15)]) := by
          intro  H locs ls Z hl h9
          rw [eJ9] at h9
          refine lv_iconst (v := (1 : Int32)) hx hb dX8_lowerHigh_70 (by decide) ?_
          refine lv_goto (tgt := 75) hx hb dX8_lowerHigh_71 (by decide) ?_
          exact kJ6 (1 : Int32) _ _ _ Z (lv_sub hl [] rfl) h9
        clear eJ9
        refine lv_if_ne (tgt := 70) hx hb dX8_lowerHigh_62 (by decide) (fun c10 => ?_) (fun c10 => ?_)
        · have h11 := dif h10 c10
          clear h10
          exact kJ9  _ _ _ Z (lv_sub hl [] rfl) h11
        · have h12 := dit h10 c10
          clear h10
          refine lv_iload hx hb dX8_lowerHigh_65 (lv_at hl 4 rfl) ?_
          refine lv_if_eq (tgt := 74) hx hb dX8_lowerHigh_67 (by decide) (fun c11 => ?_) (fun c11 => ?_)
          · have h13 := dit h12 c11
            clear h12
            refine lv_iconst (v := (0 : Int32)) hx hb dX8_lowerHigh_74 (by decide) ?_
            exact kJ6 (0 : Int32) _ _ _ Z (lv_sub hl [] rfl) h13
          · have h14 := dif h12 c11
            clear h12
            exact kJ9  _ _ _ Z (lv_sub hl [] rfl) h14
    · have h15 := dif h1 c3
      clear h1
      refine lv_aload_n hx hb dX8_lowerHigh_33 rfl (lv_at hl 1 rfl) ?_
      refine lv_lload_n hx hb dX8_lowerHigh_34 rfl (lv_at hl 2 rfl) ?_
      refine s_15_3 B Z kf_RX8_31 dX8_lowerHigh_35 (fun H locs Z => ?_)
      obtain ⟨σ12, eσ12, h16⟩ := dlt_s h15
      clear h15
      replace Z := Wd.eq eσ12 Z
      clear eσ12
      refine lv_aload_n hx hb dX8_lowerHigh_38 rfl (lv_at hl 1 rfl) ?_
      refine lv_lload_n hx hb dX8_lowerHigh_39 rfl (lv_at hl 3 rfl) ?_
      refine s_15_4 B Z kf_RX8_15 dX8_lowerHigh_40 (fun H locs Z => ?_)
      obtain ⟨σ13, eσ13, h17⟩ := dlt_s h16
      clear h16
      replace Z := Wd.eq eσ13 Z
      clear eσ13
      refine lv_aload_n hx hb dX8_lowerHigh_43 rfl (lv_at hl 1 rfl) ?_
      refine lv_iload hx hb dX8_lowerHigh_44 (lv_at hl 4 rfl) ?_
      obtain ⟨z14, h18⟩ := dck_s h17
      clear h17
      refine s_15_5 B Z z14 kf_RX8_38 dX8_lowerHigh_46 (fun H locs Z => ?_)
      obtain ⟨σ15, eσ15, h19⟩ := dlt_s h18
      clear h18
      replace Z := Wd.eq eσ15 Z
      clear eσ15
      refine lv_goto (tgt := 78) hx hb dX8_lowerHigh_49 (by decide) ?_
      exact reV B Z hz h19 dX8_lowerHigh_78
  clear eJ2
  refine lv_if_ne (tgt := 13) hx hb dX8_lowerHigh_6 (by decide) (fun c16 => ?_) (fun c16 => ?_)
  · have h21 := dif h20 c16
    clear h20
    refine lv_lload_n hx hb dX8_lowerHigh_13 rfl (lv_at hl 1 rfl) ?_
    refine lv_lload_n hx hb dX8_lowerHigh_14 rfl (lv_at hl 2 rfl) ?_
    refine lv_aload_n hx hb dX8_lowerHigh_15 rfl (lv_at hl 0 rfl) ?_
    refine g_15_3 B Z kf_RX8_31 dX8_lowerHigh_16 ?_
    refine lv_aload_n hx hb dX8_lowerHigh_19 rfl (lv_at hl 0 rfl) ?_
    refine g_15_4 B Z kf_RX8_15 dX8_lowerHigh_20 ?_
    obtain ⟨r18, hc16, h22⟩ := db1_s h21
    clear h21
    refine cS_I [.long a1, .long a2, .long (σ.2 15 3), .long (σ.2 15 4)] [] B mx_yX8_compare (c_fSp_compare l X _ a1 a2 (σ.2 15 3) (σ.2 15 4) σ r18 hc16) kl_RX8_34 ks_yX8_compare Z hl rfl rfl ⟨Nat.le_of_ble_eq_true rfl, Nat.le_of_ble_eq_true rfl⟩ rfl rfl (Nat.le_of_ble_eq_true rfl) dX8_lowerHigh_23 (fun H locs Z => ?_)
    clear hc16
    exact kJ2 r18 _ _ _ Z (lv_sub hl [0, 1, 2, 3] rfl) h22
  · have h23 := dit h20 c16
    clear h20
    refine lv_iconst (v := (-1 : Int32)) hx hb dX8_lowerHigh_9 (by decide) ?_
    refine lv_goto (tgt := 26) hx hb dX8_lowerHigh_10 (by decide) ?_
    exact kJ2 (-1 : Int32) _ _ _ Z (lv_sub hl [0, 1, 2, 3] rfl) h23
