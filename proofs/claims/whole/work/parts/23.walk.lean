theorem dX12_between_0 : decode cX12_between 0 = .ok (.lload_n 1, 1) := by decide +kernel
theorem dX12_between_1 : decode cX12_between 1 = .ok (.lstore 9, 2) := by decide +kernel
theorem dX12_between_3 : decode cX12_between 3 = .ok (.lload_n 3, 1) := by decide +kernel
theorem dX12_between_4 : decode cX12_between 4 = .ok (.lstore 11, 2) := by decide +kernel
theorem dX12_between_6 : decode cX12_between 6 = .ok (.lload 5, 2) := by decide +kernel
theorem dX12_between_8 : decode cX12_between 8 = .ok (.lstore 13, 2) := by decide +kernel
theorem dX12_between_10 : decode cX12_between 10 = .ok (.lload 7, 2) := by decide +kernel
theorem dX12_between_12 : decode cX12_between 12 = .ok (.lstore 15, 2) := by decide +kernel
theorem dX12_between_14 : decode cX12_between 14 = .ok (.iconst 0, 1) := by decide +kernel
theorem dX12_between_15 : decode cX12_between 15 = .ok (.istore 17, 2) := by decide +kernel
theorem dX12_between_17 : decode cX12_between 17 = .ok (.aload_n 0, 1) := by decide +kernel
theorem dX12_between_18 : decode cX12_between 18 = .ok (.getfield 26, 3) := by decide +kernel
theorem dX12_between_21 : decode cX12_between 21 = .ok (.iload 17, 2) := by decide +kernel
theorem dX12_between_23 : decode cX12_between 23 = .ok (.lload 9, 2) := by decide +kernel
theorem dX12_between_25 : decode cX12_between 25 = .ok (.lload 11, 2) := by decide +kernel
theorem dX12_between_27 : decode cX12_between 27 = .ok (.ldiv, 1) := by decide +kernel
theorem dX12_between_28 : decode cX12_between 28 = .ok (.lastore, 1) := by decide +kernel
theorem dX12_between_29 : decode cX12_between 29 = .ok (.lload 15, 2) := by decide +kernel
theorem dX12_between_31 : decode cX12_between 31 = .ok (.lconst 0, 1) := by decide +kernel
theorem dX12_between_32 : decode cX12_between 32 = .ok (.lcmp, 1) := by decide +kernel
theorem dX12_between_33 : decode cX12_between 33 = .ok (.ifCond .eq 89, 3) := by decide +kernel
theorem dX12_between_36 : decode cX12_between 36 = .ok (.aload_n 0, 1) := by decide +kernel
theorem dX12_between_37 : decode cX12_between 37 = .ok (.getfield 26, 3) := by decide +kernel
theorem dX12_between_40 : decode cX12_between 40 = .ok (.iload 17, 2) := by decide +kernel
theorem dX12_between_42 : decode cX12_between 42 = .ok (.laload, 1) := by decide +kernel
theorem dX12_between_43 : decode cX12_between 43 = .ok (.lconst 1, 1) := by decide +kernel
theorem dX12_between_44 : decode cX12_between 44 = .ok (.ladd, 1) := by decide +kernel
theorem dX12_between_45 : decode cX12_between 45 = .ok (.lload 15, 2) := by decide +kernel
theorem dX12_between_47 : decode cX12_between 47 = .ok (.lmul, 1) := by decide +kernel
theorem dX12_between_48 : decode cX12_between 48 = .ok (.lload 13, 2) := by decide +kernel
theorem dX12_between_50 : decode cX12_between 50 = .ok (.lcmp, 1) := by decide +kernel
theorem dX12_between_51 : decode cX12_between 51 = .ok (.ifCond .lt 71, 3) := by decide +kernel
theorem dX12_between_54 : decode cX12_between 54 = .ok (.lload 9, 2) := by decide +kernel
theorem dX12_between_56 : decode cX12_between 56 = .ok (.aload_n 0, 1) := by decide +kernel
theorem dX12_between_57 : decode cX12_between 57 = .ok (.getfield 26, 3) := by decide +kernel
theorem dX12_between_60 : decode cX12_between 60 = .ok (.iload 17, 2) := by decide +kernel
theorem dX12_between_62 : decode cX12_between 62 = .ok (.laload, 1) := by decide +kernel
theorem dX12_between_63 : decode cX12_between 63 = .ok (.lload 11, 2) := by decide +kernel
theorem dX12_between_65 : decode cX12_between 65 = .ok (.lmul, 1) := by decide +kernel
theorem dX12_between_66 : decode cX12_between 66 = .ok (.lsub, 1) := by decide +kernel
theorem dX12_between_67 : decode cX12_between 67 = .ok (.lstore 18, 2) := by decide +kernel
theorem dX12_between_69 : decode cX12_between 69 = .ok (.lload 13, 2) := by decide +kernel
theorem dX12_between_71 : decode cX12_between 71 = .ok (.aload_n 0, 1) := by decide +kernel
theorem dX12_between_72 : decode cX12_between 72 = .ok (.getfield 26, 3) := by decide +kernel
theorem dX12_between_75 : decode cX12_between 75 = .ok (.iload 17, 2) := by decide +kernel
theorem dX12_between_77 : decode cX12_between 77 = .ok (.laload, 1) := by decide +kernel
theorem dX12_between_78 : decode cX12_between 78 = .ok (.lload 15, 2) := by decide +kernel
theorem dX12_between_80 : decode cX12_between 80 = .ok (.lmul, 1) := by decide +kernel
theorem dX12_between_81 : decode cX12_between 81 = .ok (.lsub, 1) := by decide +kernel
theorem dX12_between_82 : decode cX12_between 82 = .ok (.lstore 20, 2) := by decide +kernel
theorem dX12_between_84 : decode cX12_between 84 = .ok (.lload 11, 2) := by decide +kernel
theorem dX12_between_86 : decode cX12_between 86 = .ok (.lstore 22, 2) := by decide +kernel
theorem dX12_between_88 : decode cX12_between 88 = .ok (.lload 15, 2) := by decide +kernel
theorem dX12_between_90 : decode cX12_between 90 = .ok (.lstore 9, 2) := by decide +kernel
theorem dX12_between_92 : decode cX12_between 92 = .ok (.lload 20, 2) := by decide +kernel
theorem dX12_between_94 : decode cX12_between 94 = .ok (.lstore 11, 2) := by decide +kernel
theorem dX12_between_96 : decode cX12_between 96 = .ok (.lload 22, 2) := by decide +kernel
theorem dX12_between_98 : decode cX12_between 98 = .ok (.lstore 13, 2) := by decide +kernel
theorem dX12_between_100 : decode cX12_between 100 = .ok (.lload 18, 2) := by decide +kernel
theorem dX12_between_102 : decode cX12_between 102 = .ok (.lstore 15, 2) := by decide +kernel
theorem dX12_between_104 : decode cX12_between 104 = .ok (.iinc 17 1, 3) := by decide +kernel
theorem dX12_between_107 : decode cX12_between 107 = .ok (.aload_n 0, 1) := by decide +kernel
theorem dX12_between_108 : decode cX12_between 108 = .ok (.getfield 26, 3) := by decide +kernel
theorem dX12_between_111 : decode cX12_between 111 = .ok (.iload 17, 2) := by decide +kernel
theorem dX12_between_113 : decode cX12_between 113 = .ok (.lload 9, 2) := by decide +kernel
theorem dX12_between_115 : decode cX12_between 115 = .ok (.lload 11, 2) := by decide +kernel
theorem dX12_between_117 : decode cX12_between 117 = .ok (.ldiv, 1) := by decide +kernel
theorem dX12_between_118 : decode cX12_between 118 = .ok (.lastore, 1) := by decide +kernel
theorem dX12_between_119 : decode cX12_between 119 = .ok (.goto (-90), 3) := by decide +kernel
theorem dX12_between_122 : decode cX12_between 122 = .ok (.aload_n 0, 1) := by decide +kernel
theorem dX12_between_123 : decode cX12_between 123 = .ok (.aload_n 0, 1) := by decide +kernel
theorem dX12_between_124 : decode cX12_between 124 = .ok (.getfield 26, 3) := by decide +kernel
theorem dX12_between_127 : decode cX12_between 127 = .ok (.iload 17, 2) := by decide +kernel
theorem dX12_between_129 : decode cX12_between 129 = .ok (.laload, 1) := by decide +kernel
theorem dX12_between_130 : decode cX12_between 130 = .ok (.lconst 1, 1) := by decide +kernel
theorem dX12_between_131 : decode cX12_between 131 = .ok (.ladd, 1) := by decide +kernel
theorem dX12_between_132 : decode cX12_between 132 = .ok (.putfield 218, 3) := by decide +kernel
theorem dX12_between_135 : decode cX12_between 135 = .ok (.aload_n 0, 1) := by decide +kernel
theorem dX12_between_136 : decode cX12_between 136 = .ok (.lconst 1, 1) := by decide +kernel
theorem dX12_between_137 : decode cX12_between 137 = .ok (.putfield 221, 3) := by decide +kernel
theorem dX12_between_140 : decode cX12_between 140 = .ok (.iload 17, 2) := by decide +kernel
theorem dX12_between_142 : decode cX12_between 142 = .ok (.iconst 1, 1) := by decide +kernel
theorem dX12_between_143 : decode cX12_between 143 = .ok (.isub, 1) := by decide +kernel
theorem dX12_between_144 : decode cX12_between 144 = .ok (.istore 18, 2) := by decide +kernel
theorem dX12_between_146 : decode cX12_between 146 = .ok (.iload 18, 2) := by decide +kernel
theorem dX12_between_148 : decode cX12_between 148 = .ok (.ifCond .lt 42, 3) := by decide +kernel
theorem dX12_between_151 : decode cX12_between 151 = .ok (.aload_n 0, 1) := by decide +kernel
theorem dX12_between_152 : decode cX12_between 152 = .ok (.getfield 218, 3) := by decide +kernel
theorem dX12_between_155 : decode cX12_between 155 = .ok (.lstore 19, 2) := by decide +kernel
theorem dX12_between_157 : decode cX12_between 157 = .ok (.aload_n 0, 1) := by decide +kernel
theorem dX12_between_158 : decode cX12_between 158 = .ok (.aload_n 0, 1) := by decide +kernel
theorem dX12_between_159 : decode cX12_between 159 = .ok (.getfield 26, 3) := by decide +kernel
theorem dX12_between_162 : decode cX12_between 162 = .ok (.iload 18, 2) := by decide +kernel
theorem dX12_between_164 : decode cX12_between 164 = .ok (.laload, 1) := by decide +kernel
theorem dX12_between_165 : decode cX12_between 165 = .ok (.aload_n 0, 1) := by decide +kernel
theorem dX12_between_166 : decode cX12_between 166 = .ok (.getfield 218, 3) := by decide +kernel
theorem dX12_between_169 : decode cX12_between 169 = .ok (.lmul, 1) := by decide +kernel
theorem dX12_between_170 : decode cX12_between 170 = .ok (.aload_n 0, 1) := by decide +kernel
theorem dX12_between_171 : decode cX12_between 171 = .ok (.getfield 221, 3) := by decide +kernel
theorem dX12_between_174 : decode cX12_between 174 = .ok (.ladd, 1) := by decide +kernel
theorem dX12_between_175 : decode cX12_between 175 = .ok (.putfield 218, 3) := by decide +kernel
theorem dX12_between_178 : decode cX12_between 178 = .ok (.aload_n 0, 1) := by decide +kernel
theorem dX12_between_179 : decode cX12_between 179 = .ok (.lload 19, 2) := by decide +kernel
theorem dX12_between_181 : decode cX12_between 181 = .ok (.putfield 221, 3) := by decide +kernel
theorem dX12_between_184 : decode cX12_between 184 = .ok (.iinc 18 (-1), 3) := by decide +kernel
theorem dX12_between_187 : decode cX12_between 187 = .ok (.goto (-41), 3) := by decide +kernel
theorem dX12_between_190 : decode cX12_between 190 = .ok (.return_, 1) := by decide +kernel
def rm_fMM_betweenJ : Room := { frames := 1, cells := 0, slots := 0, locals := 60 }
set_option maxHeartbeats 4000000 in
set_option maxRecDepth 100000 in
theorem c_fMM_betweenJ (l : Launch) (X : eX) (sz : Nat) (a1 : Int64) (a2 : Int64) (a3 : Int64) (a4 : Int64) (σ : sT) (σz : sT) (h0 : fMM_betweenJ a1 a2 a3 a4 σ = some σz) : ctV l yX12_between cX12_between 24 none rm_fMM_betweenJ [.ref (X.2.1 33), .long a1, .long a2, .long a3, .long a4] (wM X) (tM X) (aM X) X sz σ σz := by
  refine ct_of (by decide +kernel) (Nat.le_of_ble_eq_true rfl) ?_
  intro p e s m args below meth c ls hz B hl Z
  have B : Bd p s m args meth c RX12 cX12_between 24 none := B
  have hl : lv_has ls 24 [(0, .ref (X.2.1 33)), (1, .long a1), (3, .long a2), (5, .long a3), (7, .long a4)] := hl
  have hx := B.1
  have hb := B.2.1
  unfold fMM_betweenJ at h0
  refine lv_lload_n hx hb dX12_between_0 rfl (lv_at hl 1 rfl) ?_
  refine lv_lstore (lv' := [(9, .long a1), (0, .ref (X.2.1 33)), (1, .long a1), (3, .long a2), (5, .long a3), (7, .long a4)]) hx hb dX12_between_1 hl (by decide) rfl (fun ls hl => ?_)
  refine lv_lload_n hx hb dX12_between_3 rfl (lv_at hl 3 rfl) ?_
  refine lv_lstore (lv' := [(11, .long a2), (9, .long a1), (0, .ref (X.2.1 33)), (1, .long a1), (3, .long a2), (5, .long a3), (7, .long a4)]) hx hb dX12_between_4 hl (by decide) rfl (fun ls hl => ?_)
  refine lv_lload hx hb dX12_between_6 (lv_at hl 5 rfl) ?_
  refine lv_lstore (lv' := [(13, .long a3), (11, .long a2), (9, .long a1), (0, .ref (X.2.1 33)), (1, .long a1), (3, .long a2), (5, .long a3), (7, .long a4)]) hx hb dX12_between_8 hl (by decide) rfl (fun ls hl => ?_)
  refine lv_lload hx hb dX12_between_10 (lv_at hl 7 rfl) ?_
  refine lv_lstore (lv' := [(15, .long a4), (13, .long a3), (11, .long a2), (9, .long a1), (0, .ref (X.2.1 33)), (1, .long a1), (3, .long a2), (5, .long a3), (7, .long a4)]) hx hb dX12_between_12 hl (by decide) rfl (fun ls hl => ?_)
  refine lv_iconst (v := (0 : Int32)) hx hb dX12_between_14 (by decide) ?_
  refine lv_istore (lv' := [(17, .int (0 : Int32)), (15, .long a4), (13, .long a3), (11, .long a2), (9, .long a1), (0, .ref (X.2.1 33)), (1, .long a1), (3, .long a2), (5, .long a3), (7, .long a4)]) hx hb dX12_between_15 hl (by decide) rfl (fun ls hl => ?_)
  refine lv_aload_n hx hb dX12_between_17 rfl (lv_at hl 5 rfl) ?_
  refine g_33_17 B Z kf_RX12_26 dX12_between_18 ?_
  refine lv_iload hx hb dX12_between_21 (lv_at hl 0 rfl) ?_
  refine lv_lload hx hb dX12_between_23 (lv_at hl 4 rfl) ?_
  refine lv_lload hx hb dX12_between_25 (lv_at hl 3 rfl) ?_
  obtain ⟨z1, h1⟩ := dck_s h0
  clear h0
  refine lv_ldiv hx hb dX12_between_27 (okE_s z1) ?_
  obtain ⟨z2, h2⟩ := dck_s h1
  clear h1
  refine st_39 B Z z2 dX12_between_28 (fun H locs Z => ?_)
  obtain ⟨σ3, eσ3, h3⟩ := dlt_s h2
  clear h2
  replace Z := Wd.eq eσ3 Z
  clear eσ3
  obtain ⟨K12, eK12, h16⟩ := dlt_s h3
  clear h3
  have kK12 : ∀ (x10 : Int32) (σ11 : sT) (H : Heap) (locs : List Loc) (ls : Array Slot), Wd (wM X) (tM X) (aM X) X s σ11 H locs → lv_has ls 24 [(0, .ref (X.2.1 33)), (17, .int x10)] → K12 x10 σ11 = some σz → W p l e rm_fMM_betweenJ s m args below meth c H locs 0 0 (MQ below (va_Qv (fun u => u = σz) (poW (wM X) (tM X) (aM X) X sz) (aA (aM X) sz)) args s 0 0 (aA (aM X) sz)) (F0 m 122 ls []) := by
    intro x10 σ11 H locs ls Z hl h4
    rw [eK12] at h4
    refine lv_aload_n hx hb dX12_between_122 rfl (lv_at hl 0 rfl) ?_
    refine lv_aload_n hx hb dX12_between_123 rfl (lv_at hl 0 rfl) ?_
    refine g_33_17 B Z kf_RX12_26 dX12_between_124 ?_
    refine lv_iload hx hb dX12_between_127 (lv_at hl 1 rfl) ?_
    obtain ⟨z13, h5⟩ := dck_s h4
    clear h4
    refine ld_39 B Z z13 dX12_between_129 ?_
    refine lv_lconst (v := (1 : Int64)) hx hb dX12_between_130 (by decide) ?_
    refine lv_ladd hx hb dX12_between_131 ?_
    refine s_33_15 B Z kf_RX12_218 dX12_between_132 (fun H locs Z => ?_)
    obtain ⟨σ14, eσ14, h6⟩ := dlt_s h5
    clear h5
    replace Z := Wd.eq eσ14 Z
    clear eσ14
    refine lv_aload_n hx hb dX12_between_135 rfl (lv_at hl 0 rfl) ?_
    refine lv_lconst (v := (1 : Int64)) hx hb dX12_between_136 (by decide) ?_
    refine s_33_16 B Z kf_RX12_221 dX12_between_137 (fun H locs Z => ?_)
    obtain ⟨σ15, eσ15, h7⟩ := dlt_s h6
    clear h6
    replace Z := Wd.eq eσ15 Z
    clear eσ15
    refine lv_iload hx hb dX12_between_140 (lv_at hl 1 rfl) ?_
    refine lv_iconst (v := (1 : Int32)) hx hb dX12_between_142 (by decide) ?_
    refine lv_isub hx hb dX12_between_143 ?_
    refine lv_topi (fun x16 ex16 => ?_)
    have h8 := dlt_e ex16 h7
    clear ex16 h7
    refine lv_istore (lv' := [(18, .int x16), (0, .ref (X.2.1 33)), (17, .int x10)]) hx hb dX12_between_144 hl (by decide) rfl (fun ls hl => ?_)
    have lL146 : ∀ (n : Nat), ∀ (x17 : Int32) (σ18 : sT) (H : Heap) (locs : List Loc) (ls : Array Slot), Wd (wM X) (tM X) (aM X) X s σ18 H locs → lv_has ls 24 [(0, .ref (X.2.1 33)), (18, .int x17)] → fMM_betweenJ_L146 n x17 σ18 = some σz → W p l e rm_fMM_betweenJ s m args below meth c H locs 0 0 (MQ below (va_Qv (fun u => u = σz) (poW (wM X) (tM X) (aM X) X sz) (aA (aM X) sz)) args s 0 0 (aA (aM X) sz)) (F0 m 146 ls []) := by
      intro n
      induction n with
      | zero =>
        intro x17 σ18 H locs ls Z hl h
        exact nomatch (show (none : Option (sT)) = some _ from h)
      | succ n19 ih84 =>
        intro x17 σ18 H locs ls Z hl h9
        unfold fMM_betweenJ_L146 at h9
        refine lv_iload hx hb dX12_between_146 (lv_at hl 1 rfl) ?_
        refine lv_if_lt (tgt := 190) hx hb dX12_between_148 (by decide) (fun c20 => ?_) (fun c20 => ?_)
        · have h10 := dit h9 c20
          clear h9
          exact reV B Z hz h10 dX12_between_190
        · have h11 := dif h9 c20
          clear h9
          refine lv_aload_n hx hb dX12_between_151 rfl (lv_at hl 0 rfl) ?_
          refine g_33_15 B Z kf_RX12_218 dX12_between_152 ?_
          refine lv_topl (fun x21 ex21 => ?_)
          have h12 := dlt_e ex21 h11
          clear ex21 h11
          refine lv_lstore (lv' := [(19, .long x21), (0, .ref (X.2.1 33)), (18, .int x17)]) hx hb dX12_between_155 hl (by decide) rfl (fun ls hl => ?_)
          refine lv_aload_n hx hb dX12_between_157 rfl (lv_at hl 1 rfl) ?_
          refine lv_aload_n hx hb dX12_between_158 rfl (lv_at hl 1 rfl) ?_
          refine g_33_17 B Z kf_RX12_26 dX12_between_159 ?_
          refine lv_iload hx hb dX12_between_162 (lv_at hl 2 rfl) ?_
          obtain ⟨z22, h13⟩ := dck_s h12
          clear h12
          refine ld_39 B Z z22 dX12_between_164 ?_
          refine lv_aload_n hx hb dX12_between_165 rfl (lv_at hl 1 rfl) ?_
          refine g_33_15 B Z kf_RX12_218 dX12_between_166 ?_
          refine lv_lmul hx hb dX12_between_169 ?_
          refine lv_aload_n hx hb dX12_between_170 rfl (lv_at hl 1 rfl) ?_
          refine g_33_16 B Z kf_RX12_221 dX12_between_171 ?_
          refine lv_ladd hx hb dX12_between_174 ?_
          refine s_33_15 B Z kf_RX12_218 dX12_between_175 (fun H locs Z => ?_)
          obtain ⟨σ23, eσ23, h14⟩ := dlt_s h13
          clear h13
          replace Z := Wd.eq eσ23 Z
          clear eσ23
          refine lv_aload_n hx hb dX12_between_178 rfl (lv_at hl 1 rfl) ?_
          refine lv_lload hx hb dX12_between_179 (lv_at hl 0 rfl) ?_
          refine s_33_16 B Z kf_RX12_221 dX12_between_181 (fun H locs Z => ?_)
          obtain ⟨σ24, eσ24, h15⟩ := dlt_s h14
          clear h14
          replace Z := Wd.eq eσ24 Z
          clear eσ24
          refine lv_iinc (v := x17 + (-1 : Int32)) (lv' := [(18, .int (x17 + (-1 : Int32))), (19, .long x21), (0, .ref (X.2.1 33))]) hx hb dX12_between_184 hl (k := 2) rfl (by rfl) (by decide) rfl (fun ls hl => ?_)
          refine lv_goto (tgt := 146) hx hb dX12_between_187 (by decide) ?_
          exact ih84 (x17 + (-1 : Int32)) σ24 _ _ _ Z (lv_sub hl [2, 0] rfl) h15
    exact lL146 FU x16 σ15 _ _ _ Z (lv_sub hl [1, 0] rfl) h8
  clear eK12
  have lL29 : ∀ (n : Nat), ∀ (x4 : Int64) (x5 : Int64) (x6 : Int64) (x7 : Int64) (x8 : Int32) (σ9 : sT) (H : Heap) (locs : List Loc) (ls : Array Slot), Wd (wM X) (tM X) (aM X) X s σ9 H locs → lv_has ls 24 [(0, .ref (X.2.1 33)), (9, .long x4), (11, .long x5), (13, .long x6), (15, .long x7), (17, .int x8)] → fMM_betweenJ_L29 K12 n x4 x5 x6 x7 x8 σ9 = some σz → W p l e rm_fMM_betweenJ s m args below meth c H locs 0 0 (MQ below (va_Qv (fun u => u = σz) (poW (wM X) (tM X) (aM X) X sz) (aA (aM X) sz)) args s 0 0 (aA (aM X) sz)) (F0 m 29 ls []) := by
    intro n
    induction n with
    | zero =>
      intro x4 x5 x6 x7 x8 σ9 H locs ls Z hl h
      exact nomatch (show (none : Option (sT)) = some _ from h)
    | succ n25 ih17 =>
      intro x4 x5 x6 x7 x8 σ9 H locs ls Z hl h17
      unfold fMM_betweenJ_L29 at h17
      refine lv_lload hx hb dX12_between_29 (lv_at hl 4 rfl) ?_
      refine lv_lconst (v := (0 : Int64)) hx hb dX12_between_31 (by decide) ?_
      refine W.lcmp hx hb dX12_between_32 ?_
      refine lv_if_eq (tgt := 122) hx hb dX12_between_33 (by decide) (fun c26 => ?_) (fun c26 => ?_)
      · have h18 := dit h17 c26
        clear h17
        exact kK12 x8 σ9 _ _ _ Z (lv_sub hl [0, 5] rfl) h18
      · have h19 := dif h17 c26
        clear h17
        refine lv_aload_n hx hb dX12_between_36 rfl (lv_at hl 0 rfl) ?_
        refine g_33_17 B Z kf_RX12_26 dX12_between_37 ?_
        refine lv_iload hx hb dX12_between_40 (lv_at hl 5 rfl) ?_
        obtain ⟨z27, h20⟩ := dck_s h19
        clear h19
        refine ld_39 B Z z27 dX12_between_42 ?_
        refine lv_lconst (v := (1 : Int64)) hx hb dX12_between_43 (by decide) ?_
        refine lv_ladd hx hb dX12_between_44 ?_
        refine lv_lload hx hb dX12_between_45 (lv_at hl 4 rfl) ?_
        refine lv_lmul hx hb dX12_between_47 ?_
        refine lv_lload hx hb dX12_between_48 (lv_at hl 3 rfl) ?_
        refine W.lcmp hx hb dX12_between_50 ?_
        refine lv_if_lt (tgt := 122) hx hb dX12_between_51 (by decide) (fun c28 => ?_) (fun c28 => ?_)
        · have h21 := dit h20 c28
          clear h20
          exact kK12 x8 σ9 _ _ _ Z (lv_sub hl [0, 5] rfl) h21
        · have h22 := dif h20 c28
          clear h20
          refine lv_lload hx hb dX12_between_54 (lv_at hl 1 rfl) ?_
          refine lv_aload_n hx hb dX12_between_56 rfl (lv_at hl 0 rfl) ?_
          refine g_33_17 B Z kf_RX12_26 dX12_between_57 ?_
          refine lv_iload hx hb dX12_between_60 (lv_at hl 5 rfl) ?_
          obtain ⟨z29, h23⟩ := dck_s h22
          clear h22
          refine ld_39 B Z z29 dX12_between_62 ?_
          refine lv_lload hx hb dX12_between_63 (lv_at hl 2 rfl) ?_
          refine lv_lmul hx hb dX12_between_65 ?_
          refine lv_lsub hx hb dX12_between_66 ?_
          refine lv_topl (fun x30 ex30 => ?_)
          have h24 := dlt_e ex30 h23
          clear ex30 h23
          refine lv_lstore (lv' := [(18, .long x30), (0, .ref (X.2.1 33)), (9, .long x4), (11, .long x5), (13, .long x6), (15, .long x7), (17, .int x8)]) hx hb dX12_between_67 hl (by decide) rfl (fun ls hl => ?_)
          refine lv_lload hx hb dX12_between_69 (lv_at hl 4 rfl) ?_
          refine lv_aload_n hx hb dX12_between_71 rfl (lv_at hl 1 rfl) ?_
          refine g_33_17 B Z kf_RX12_26 dX12_between_72 ?_
          refine lv_iload hx hb dX12_between_75 (lv_at hl 6 rfl) ?_
          obtain ⟨z31, h25⟩ := dck_s h24
          clear h24
          refine ld_39 B Z z31 dX12_between_77 ?_
          refine lv_lload hx hb dX12_between_78 (lv_at hl 5 rfl) ?_
          refine lv_lmul hx hb dX12_between_80 ?_
          refine lv_lsub hx hb dX12_between_81 ?_
          refine lv_topl (fun x32 ex32 => ?_)
          have h26 := dlt_e ex32 h25
          clear ex32 h25
          refine lv_lstore (lv' := [(20, .long x32), (18, .long x30), (0, .ref (X.2.1 33)), (9, .long x4), (11, .long x5), (13, .long x6), (15, .long x7), (17, .int x8)]) hx hb dX12_between_82 hl (by decide) rfl (fun ls hl => ?_)
          refine lv_lload hx hb dX12_between_84 (lv_at hl 4 rfl) ?_
          refine lv_lstore (lv' := [(22, .long x5), (20, .long x32), (18, .long x30), (0, .ref (X.2.1 33)), (9, .long x4), (11, .long x5), (13, .long x6), (15, .long x7), (17, .int x8)]) hx hb dX12_between_86 hl (by decide) rfl (fun ls hl => ?_)
          refine lv_lload hx hb dX12_between_88 (lv_at hl 7 rfl) ?_
          refine lv_lstore (lv' := [(9, .long x7), (22, .long x5), (20, .long x32), (18, .long x30), (0, .ref (X.2.1 33)), (11, .long x5), (13, .long x6), (15, .long x7), (17, .int x8)]) hx hb dX12_between_90 hl (by decide) rfl (fun ls hl => ?_)
          refine lv_lload hx hb dX12_between_92 (lv_at hl 2 rfl) ?_
          refine lv_lstore (lv' := [(11, .long x32), (9, .long x7), (22, .long x5), (20, .long x32), (18, .long x30), (0, .ref (X.2.1 33)), (13, .long x6), (15, .long x7), (17, .int x8)]) hx hb dX12_between_94 hl (by decide) rfl (fun ls hl => ?_)
          refine lv_lload hx hb dX12_between_96 (lv_at hl 2 rfl) ?_
          refine lv_lstore (lv' := [(13, .long x5), (11, .long x32), (9, .long x7), (22, .long x5), (20, .long x32), (18, .long x30), (0, .ref (X.2.1 33)), (15, .long x7), (17, .int x8)]) hx hb dX12_between_98 hl (by decide) rfl (fun ls hl => ?_)
          refine lv_lload hx hb dX12_between_100 (lv_at hl 5 rfl) ?_
          refine lv_lstore (lv' := [(15, .long x30), (13, .long x5), (11, .long x32), (9, .long x7), (22, .long x5), (20, .long x32), (18, .long x30), (0, .ref (X.2.1 33)), (17, .int x8)]) hx hb dX12_between_102 hl (by decide) rfl (fun ls hl => ?_)
          refine lv_iinc (v := x8 + (1 : Int32)) (lv' := [(17, .int (x8 + (1 : Int32))), (15, .long x30), (13, .long x5), (11, .long x32), (9, .long x7), (22, .long x5), (20, .long x32), (18, .long x30), (0, .ref (X.2.1 33))]) hx hb dX12_between_104 hl (k := 8) rfl (by rfl) (by decide) rfl (fun ls hl => ?_)
          refine lv_aload_n hx hb dX12_between_107 rfl (lv_at hl 8 rfl) ?_
          refine g_33_17 B Z kf_RX12_26 dX12_between_108 ?_
          refine lv_iload hx hb dX12_between_111 (lv_at hl 0 rfl) ?_
          refine lv_lload hx hb dX12_between_113 (lv_at hl 4 rfl) ?_
          refine lv_lload hx hb dX12_between_115 (lv_at hl 3 rfl) ?_
          obtain ⟨z33, h27⟩ := dck_s h26
          clear h26
          refine lv_ldiv hx hb dX12_between_117 (okE_s z33) ?_
          obtain ⟨z34, h28⟩ := dck_s h27
          clear h27
          refine st_39 B Z z34 dX12_between_118 (fun H locs Z => ?_)
          obtain ⟨σ35, eσ35, h29⟩ := dlt_s h28
          clear h28
          replace Z := Wd.eq eσ35 Z
          clear eσ35
          refine lv_goto (tgt := 29) hx hb dX12_between_119 (by decide) ?_
          exact ih17 x7 x32 x5 x30 (x8 + (1 : Int32)) σ35 _ _ _ Z (lv_sub hl [8, 4, 3, 2, 1, 0] rfl) h29
  exact lL29 FU a1 a2 a3 a4 (0 : Int32) σ3 _ _ _ Z (lv_sub hl [5, 4, 3, 2, 1, 0] rfl) h16
theorem dX12_choosesBetween_0 : decode cX12_choosesBetween 0 = .ok (.lload_n 1, 1) := by decide +kernel
theorem dX12_choosesBetween_1 : decode cX12_choosesBetween 1 = .ok (.lconst 0, 1) := by decide +kernel
theorem dX12_choosesBetween_2 : decode cX12_choosesBetween 2 = .ok (.lcmp, 1) := by decide +kernel
theorem dX12_choosesBetween_3 : decode cX12_choosesBetween 3 = .ok (.ifCond .ge 23, 3) := by decide +kernel
theorem dX12_choosesBetween_6 : decode cX12_choosesBetween 6 = .ok (.lload 5, 2) := by decide +kernel
theorem dX12_choosesBetween_8 : decode cX12_choosesBetween 8 = .ok (.lconst 0, 1) := by decide +kernel
theorem dX12_choosesBetween_9 : decode cX12_choosesBetween 9 = .ok (.lcmp, 1) := by decide +kernel
theorem dX12_choosesBetween_10 : decode cX12_choosesBetween 10 = .ok (.ifCond .le 16, 3) := by decide +kernel
theorem dX12_choosesBetween_13 : decode cX12_choosesBetween 13 = .ok (.aload_n 0, 1) := by decide +kernel
theorem dX12_choosesBetween_14 : decode cX12_choosesBetween 14 = .ok (.lconst 0, 1) := by decide +kernel
theorem dX12_choosesBetween_15 : decode cX12_choosesBetween 15 = .ok (.putfield 218, 3) := by decide +kernel
theorem dX12_choosesBetween_18 : decode cX12_choosesBetween 18 = .ok (.aload_n 0, 1) := by decide +kernel
theorem dX12_choosesBetween_19 : decode cX12_choosesBetween 19 = .ok (.lconst 1, 1) := by decide +kernel
theorem dX12_choosesBetween_20 : decode cX12_choosesBetween 20 = .ok (.putfield 221, 3) := by decide +kernel
theorem dX12_choosesBetween_23 : decode cX12_choosesBetween 23 = .ok (.goto 43, 3) := by decide +kernel
theorem dX12_choosesBetween_26 : decode cX12_choosesBetween 26 = .ok (.lload_n 1, 1) := by decide +kernel
theorem dX12_choosesBetween_27 : decode cX12_choosesBetween 27 = .ok (.lconst 0, 1) := by decide +kernel
theorem dX12_choosesBetween_28 : decode cX12_choosesBetween 28 = .ok (.lcmp, 1) := by decide +kernel
theorem dX12_choosesBetween_29 : decode cX12_choosesBetween 29 = .ok (.ifCond .lt 16, 3) := by decide +kernel
theorem dX12_choosesBetween_32 : decode cX12_choosesBetween 32 = .ok (.aload_n 0, 1) := by decide +kernel
theorem dX12_choosesBetween_33 : decode cX12_choosesBetween 33 = .ok (.lload_n 1, 1) := by decide +kernel
theorem dX12_choosesBetween_34 : decode cX12_choosesBetween 34 = .ok (.lload_n 3, 1) := by decide +kernel
theorem dX12_choosesBetween_35 : decode cX12_choosesBetween 35 = .ok (.lload 5, 2) := by decide +kernel
theorem dX12_choosesBetween_37 : decode cX12_choosesBetween 37 = .ok (.lload 7, 2) := by decide +kernel
theorem dX12_choosesBetween_39 : decode cX12_choosesBetween 39 = .ok (.invokevirtual 231, 3) := by decide +kernel
theorem dX12_choosesBetween_42 : decode cX12_choosesBetween 42 = .ok (.goto 24, 3) := by decide +kernel
theorem dX12_choosesBetween_45 : decode cX12_choosesBetween 45 = .ok (.aload_n 0, 1) := by decide +kernel
theorem dX12_choosesBetween_46 : decode cX12_choosesBetween 46 = .ok (.lload 5, 2) := by decide +kernel
theorem dX12_choosesBetween_48 : decode cX12_choosesBetween 48 = .ok (.lneg, 1) := by decide +kernel
theorem dX12_choosesBetween_49 : decode cX12_choosesBetween 49 = .ok (.lload 7, 2) := by decide +kernel
theorem dX12_choosesBetween_51 : decode cX12_choosesBetween 51 = .ok (.lload_n 1, 1) := by decide +kernel
theorem dX12_choosesBetween_52 : decode cX12_choosesBetween 52 = .ok (.lneg, 1) := by decide +kernel
theorem dX12_choosesBetween_53 : decode cX12_choosesBetween 53 = .ok (.lload_n 3, 1) := by decide +kernel
theorem dX12_choosesBetween_54 : decode cX12_choosesBetween 54 = .ok (.invokevirtual 231, 3) := by decide +kernel
theorem dX12_choosesBetween_57 : decode cX12_choosesBetween 57 = .ok (.aload_n 0, 1) := by decide +kernel
theorem dX12_choosesBetween_58 : decode cX12_choosesBetween 58 = .ok (.aload_n 0, 1) := by decide +kernel
theorem dX12_choosesBetween_59 : decode cX12_choosesBetween 59 = .ok (.getfield 218, 3) := by decide +kernel
theorem dX12_choosesBetween_62 : decode cX12_choosesBetween 62 = .ok (.lneg, 1) := by decide +kernel
theorem dX12_choosesBetween_63 : decode cX12_choosesBetween 63 = .ok (.putfield 218, 3) := by decide +kernel
theorem dX12_choosesBetween_66 : decode cX12_choosesBetween 66 = .ok (.return_, 1) := by decide +kernel
def rm_fMM_choosesBetween : Room := { frames := 2, cells := 0, slots := 0, locals := 103 }
set_option maxHeartbeats 4000000 in
set_option maxRecDepth 100000 in
theorem c_fMM_choosesBetween (l : Launch) (X : eX) (sz : Nat) (a1 : Int64) (a2 : Int64) (a3 : Int64) (a4 : Int64) (σ : sT) (σz : sT) (h0 : fMM_choosesBetween a1 a2 a3 a4 σ = some σz) : ctV l yX12_choosesBetween cX12_choosesBetween 9 none rm_fMM_choosesBetween [.ref (X.2.1 33), .long a1, .long a2, .long a3, .long a4] (wM X) (tM X) (aM X) X sz σ σz := by
  refine ct_of (by decide +kernel) (Nat.le_of_ble_eq_true rfl) ?_
  intro p e s m args below meth c ls hz B hl Z
  have B : Bd p s m args meth c RX12 cX12_choosesBetween 9 none := B
  have hl : lv_has ls 9 [(0, .ref (X.2.1 33)), (1, .long a1), (3, .long a2), (5, .long a3), (7, .long a4)] := hl
  have hx := B.1
  have hb := B.2.1
  unfold fMM_choosesBetween at h0
  refine lv_lload_n hx hb dX12_choosesBetween_0 rfl (lv_at hl 1 rfl) ?_
  refine lv_lconst (v := (0 : Int64)) hx hb dX12_choosesBetween_1 (by decide) ?_
  refine W.lcmp hx hb dX12_choosesBetween_2 ?_
  obtain ⟨J1, eJ1, h7⟩ := dlt_s h0
  clear h0
  have kJ1 : ∀ (H : Heap) (locs : List Loc) (ls : Array Slot), Wd (wM X) (tM X) (aM X) X s σ H locs → lv_has ls 9 [(0, .ref (X.2.1 33)), (1, .long a1), (3, .long a2), (5, .long a3), (7, .long a4)] → J1 () = some σz → W p l e rm_fMM_choosesBetween s m args below meth c H locs 0 0 (MQ below (va_Qv (fun u => u = σz) (poW (wM X) (tM X) (aM X) X sz) (aA (aM X) sz)) args s 0 0 (aA (aM X) sz)) (F0 m 26 ls []) := by
    intro  H locs ls Z hl h1
    rw [eJ1] at h1
    refine lv_lload_n hx hb dX12_choosesBetween_26 rfl (lv_at hl 1 rfl) ?_
    refine lv_lconst (v := (0 : Int64)) hx hb dX12_choosesBetween_27 (by decide) ?_
    refine W.lcmp hx hb dX12_choosesBetween_28 ?_
    refine lv_if_lt (tgt := 45) hx hb dX12_choosesBetween_29 (by decide) (fun c2 => ?_) (fun c2 => ?_)
    · have h2 := dit h1 c2
      clear h1
      refine lv_aload_n hx hb dX12_choosesBetween_45 rfl (lv_at hl 0 rfl) ?_
      refine lv_lload hx hb dX12_choosesBetween_46 (lv_at hl 3 rfl) ?_
      refine lv_lneg hx hb dX12_choosesBetween_48 ?_
      refine lv_lload hx hb dX12_choosesBetween_49 (lv_at hl 4 rfl) ?_
      refine lv_lload_n hx hb dX12_choosesBetween_51 rfl (lv_at hl 1 rfl) ?_
      refine lv_lneg hx hb dX12_choosesBetween_52 ?_
      refine lv_lload_n hx hb dX12_choosesBetween_53 rfl (lv_at hl 2 rfl) ?_
      obtain ⟨σ4, hc2, h3⟩ := db1_s h2
      clear h2
      refine cV_V [.long (-a3), .long a4, .long (-a1), .long a2] [] B mx_yX12_between (c_fMM_betweenJ l X _ (-a3) a4 (-a1) a2 σ σ4 hc2) kl_RX12_231 mi_yX12_between (rv_33 _ _) hcl_12 Z hl rfl rfl ⟨Nat.le_of_ble_eq_true rfl, Nat.le_of_ble_eq_true rfl⟩ rfl rfl (Nat.le_of_ble_eq_true rfl) dX12_choosesBetween_54 (fun H locs Z => ?_)
      clear hc2
      refine lv_aload_n hx hb dX12_choosesBetween_57 rfl (lv_at hl 0 rfl) ?_
      refine lv_aload_n hx hb dX12_choosesBetween_58 rfl (lv_at hl 0 rfl) ?_
      refine g_33_15 B Z kf_RX12_218 dX12_choosesBetween_59 ?_
      refine lv_lneg hx hb dX12_choosesBetween_62 ?_
      refine s_33_15 B Z kf_RX12_218 dX12_choosesBetween_63 (fun H locs Z => ?_)
      obtain ⟨σ5, eσ5, h4⟩ := dlt_s h3
      clear h3
      replace Z := Wd.eq eσ5 Z
      clear eσ5
      exact reV B Z hz h4 dX12_choosesBetween_66
    · have h5 := dif h1 c2
      clear h1
      refine lv_aload_n hx hb dX12_choosesBetween_32 rfl (lv_at hl 0 rfl) ?_
      refine lv_lload_n hx hb dX12_choosesBetween_33 rfl (lv_at hl 1 rfl) ?_
      refine lv_lload_n hx hb dX12_choosesBetween_34 rfl (lv_at hl 2 rfl) ?_
      refine lv_lload hx hb dX12_choosesBetween_35 (lv_at hl 3 rfl) ?_
      refine lv_lload hx hb dX12_choosesBetween_37 (lv_at hl 4 rfl) ?_
      obtain ⟨σ7, hc5, h6⟩ := db1_s h5
      clear h5
      refine cV_V [.long a1, .long a2, .long a3, .long a4] [] B mx_yX12_between (c_fMM_betweenJ l X _ a1 a2 a3 a4 σ σ7 hc5) kl_RX12_231 mi_yX12_between (rv_33 _ _) hcl_12 Z hl rfl rfl ⟨Nat.le_of_ble_eq_true rfl, Nat.le_of_ble_eq_true rfl⟩ rfl rfl (Nat.le_of_ble_eq_true rfl) dX12_choosesBetween_39 (fun H locs Z => ?_)
      clear hc5
      refine lv_goto (tgt := 66) hx hb dX12_choosesBetween_42 (by decide) ?_
      exact reV B Z hz h6 dX12_choosesBetween_66
  clear eJ1
  refine lv_if_ge (tgt := 26) hx hb dX12_choosesBetween_3 (by decide) (fun c8 => ?_) (fun c8 => ?_)
  · have h8 := dit h7 c8
    clear h7
    exact kJ1  _ _ _ Z (lv_sub hl [0, 1, 2, 3, 4] rfl) h8
  · have h9 := dif h7 c8
    clear h7
    refine lv_lload hx hb dX12_choosesBetween_6 (lv_at hl 3 rfl) ?_
    refine lv_lconst (v := (0 : Int64)) hx hb dX12_choosesBetween_8 (by decide) ?_
    refine W.lcmp hx hb dX12_choosesBetween_9 ?_
    refine lv_if_le (tgt := 26) hx hb dX12_choosesBetween_10 (by decide) (fun c9 => ?_) (fun c9 => ?_)
    · have h10 := dit h9 c9
      clear h9
      exact kJ1  _ _ _ Z (lv_sub hl [0, 1, 2, 3, 4] rfl) h10
    · have h11 := dif h9 c9
      clear h9
      refine lv_aload_n hx hb dX12_choosesBetween_13 rfl (lv_at hl 0 rfl) ?_
      refine lv_lconst (v := (0 : Int64)) hx hb dX12_choosesBetween_14 (by decide) ?_
      refine s_33_15 B Z kf_RX12_218 dX12_choosesBetween_15 (fun H locs Z => ?_)
      obtain ⟨σ10, eσ10, h12⟩ := dlt_s h11
      clear h11
      replace Z := Wd.eq eσ10 Z
      clear eσ10
      refine lv_aload_n hx hb dX12_choosesBetween_18 rfl (lv_at hl 0 rfl) ?_
      refine lv_lconst (v := (1 : Int64)) hx hb dX12_choosesBetween_19 (by decide) ?_
      refine s_33_16 B Z kf_RX12_221 dX12_choosesBetween_20 (fun H locs Z => ?_)
      obtain ⟨σ11, eσ11, h13⟩ := dlt_s h12
      clear h12
      replace Z := Wd.eq eσ11 Z
      clear eσ11
      refine lv_goto (tgt := 66) hx hb dX12_choosesBetween_23 (by decide) ?_
      exact reV B Z hz h13 dX12_choosesBetween_66
theorem dX12_chooses_0 : decode cX12_chooses 0 = .ok (.aload_n 0, 1) := by decide +kernel
theorem dX12_chooses_1 : decode cX12_chooses 1 = .ok (.getfield 129, 3) := by decide +kernel
theorem dX12_chooses_4 : decode cX12_chooses 4 = .ok (.aload_n 0, 1) := by decide +kernel
theorem dX12_chooses_5 : decode cX12_chooses 5 = .ok (.getfield 126, 3) := by decide +kernel
theorem dX12_chooses_8 : decode cX12_chooses 8 = .ok (.lload_n 1, 1) := by decide +kernel
theorem dX12_chooses_9 : decode cX12_chooses 9 = .ok (.lmul, 1) := by decide +kernel
theorem dX12_chooses_10 : decode cX12_chooses 10 = .ok (.invokestatic 204, 3) := by decide +kernel
theorem dX12_chooses_13 : decode cX12_chooses 13 = .ok (.lstore_n 3, 1) := by decide +kernel
theorem dX12_chooses_14 : decode cX12_chooses 14 = .ok (.aload_n 0, 1) := by decide +kernel
theorem dX12_chooses_15 : decode cX12_chooses 15 = .ok (.getfield 120, 3) := by decide +kernel
theorem dX12_chooses_18 : decode cX12_chooses 18 = .ok (.aload_n 0, 1) := by decide +kernel
theorem dX12_chooses_19 : decode cX12_chooses 19 = .ok (.getfield 114, 3) := by decide +kernel
theorem dX12_chooses_22 : decode cX12_chooses 22 = .ok (.lload_n 1, 1) := by decide +kernel
theorem dX12_chooses_23 : decode cX12_chooses 23 = .ok (.lmul, 1) := by decide +kernel
theorem dX12_chooses_24 : decode cX12_chooses 24 = .ok (.invokestatic 204, 3) := by decide +kernel
theorem dX12_chooses_27 : decode cX12_chooses 27 = .ok (.lstore 5, 2) := by decide +kernel
theorem dX12_chooses_29 : decode cX12_chooses 29 = .ok (.aload_n 0, 1) := by decide +kernel
theorem dX12_chooses_30 : decode cX12_chooses 30 = .ok (.getfield 126, 3) := by decide +kernel
theorem dX12_chooses_33 : decode cX12_chooses 33 = .ok (.lconst 0, 1) := by decide +kernel
theorem dX12_chooses_34 : decode cX12_chooses 34 = .ok (.lcmp, 1) := by decide +kernel
theorem dX12_chooses_35 : decode cX12_chooses 35 = .ok (.ifCond .ne 7, 3) := by decide +kernel
theorem dX12_chooses_38 : decode cX12_chooses 38 = .ok (.lconst 0, 1) := by decide +kernel
theorem dX12_chooses_39 : decode cX12_chooses 39 = .ok (.goto 9, 3) := by decide +kernel
theorem dX12_chooses_42 : decode cX12_chooses 42 = .ok (.aload_n 0, 1) := by decide +kernel
theorem dX12_chooses_43 : decode cX12_chooses 43 = .ok (.getfield 129, 3) := by decide +kernel
theorem dX12_chooses_46 : decode cX12_chooses 46 = .ok (.lload_n 3, 1) := by decide +kernel
theorem dX12_chooses_47 : decode cX12_chooses 47 = .ok (.ldiv, 1) := by decide +kernel
theorem dX12_chooses_48 : decode cX12_chooses 48 = .ok (.lstore 7, 2) := by decide +kernel
theorem dX12_chooses_50 : decode cX12_chooses 50 = .ok (.aload_n 0, 1) := by decide +kernel
theorem dX12_chooses_51 : decode cX12_chooses 51 = .ok (.getfield 126, 3) := by decide +kernel
theorem dX12_chooses_54 : decode cX12_chooses 54 = .ok (.lconst 0, 1) := by decide +kernel
theorem dX12_chooses_55 : decode cX12_chooses 55 = .ok (.lcmp, 1) := by decide +kernel
theorem dX12_chooses_56 : decode cX12_chooses 56 = .ok (.ifCond .ne 7, 3) := by decide +kernel
theorem dX12_chooses_59 : decode cX12_chooses 59 = .ok (.lconst 0, 1) := by decide +kernel
theorem dX12_chooses_60 : decode cX12_chooses 60 = .ok (.goto 11, 3) := by decide +kernel
theorem dX12_chooses_63 : decode cX12_chooses 63 = .ok (.aload_n 0, 1) := by decide +kernel
theorem dX12_chooses_64 : decode cX12_chooses 64 = .ok (.getfield 126, 3) := by decide +kernel
theorem dX12_chooses_67 : decode cX12_chooses 67 = .ok (.lload_n 1, 1) := by decide +kernel
theorem dX12_chooses_68 : decode cX12_chooses 68 = .ok (.lmul, 1) := by decide +kernel
theorem dX12_chooses_69 : decode cX12_chooses 69 = .ok (.lload_n 3, 1) := by decide +kernel
theorem dX12_chooses_70 : decode cX12_chooses 70 = .ok (.ldiv, 1) := by decide +kernel
theorem dX12_chooses_71 : decode cX12_chooses 71 = .ok (.lstore 9, 2) := by decide +kernel
theorem dX12_chooses_73 : decode cX12_chooses 73 = .ok (.aload_n 0, 1) := by decide +kernel
theorem dX12_chooses_74 : decode cX12_chooses 74 = .ok (.getfield 114, 3) := by decide +kernel
theorem dX12_chooses_77 : decode cX12_chooses 77 = .ok (.lconst 0, 1) := by decide +kernel
theorem dX12_chooses_78 : decode cX12_chooses 78 = .ok (.lcmp, 1) := by decide +kernel
theorem dX12_chooses_79 : decode cX12_chooses 79 = .ok (.ifCond .ne 7, 3) := by decide +kernel
theorem dX12_chooses_82 : decode cX12_chooses 82 = .ok (.lconst 0, 1) := by decide +kernel
theorem dX12_chooses_83 : decode cX12_chooses 83 = .ok (.goto 10, 3) := by decide +kernel
theorem dX12_chooses_86 : decode cX12_chooses 86 = .ok (.aload_n 0, 1) := by decide +kernel
theorem dX12_chooses_87 : decode cX12_chooses 87 = .ok (.getfield 120, 3) := by decide +kernel
theorem dX12_chooses_90 : decode cX12_chooses 90 = .ok (.lload 5, 2) := by decide +kernel
theorem dX12_chooses_92 : decode cX12_chooses 92 = .ok (.ldiv, 1) := by decide +kernel
theorem dX12_chooses_93 : decode cX12_chooses 93 = .ok (.lstore 11, 2) := by decide +kernel
theorem dX12_chooses_95 : decode cX12_chooses 95 = .ok (.aload_n 0, 1) := by decide +kernel
theorem dX12_chooses_96 : decode cX12_chooses 96 = .ok (.getfield 114, 3) := by decide +kernel
theorem dX12_chooses_99 : decode cX12_chooses 99 = .ok (.lconst 0, 1) := by decide +kernel
theorem dX12_chooses_100 : decode cX12_chooses 100 = .ok (.lcmp, 1) := by decide +kernel
theorem dX12_chooses_101 : decode cX12_chooses 101 = .ok (.ifCond .ne 7, 3) := by decide +kernel
theorem dX12_chooses_104 : decode cX12_chooses 104 = .ok (.lconst 0, 1) := by decide +kernel
theorem dX12_chooses_105 : decode cX12_chooses 105 = .ok (.goto 12, 3) := by decide +kernel
theorem dX12_chooses_108 : decode cX12_chooses 108 = .ok (.aload_n 0, 1) := by decide +kernel
theorem dX12_chooses_109 : decode cX12_chooses 109 = .ok (.getfield 114, 3) := by decide +kernel
theorem dX12_chooses_112 : decode cX12_chooses 112 = .ok (.lload_n 1, 1) := by decide +kernel
theorem dX12_chooses_113 : decode cX12_chooses 113 = .ok (.lmul, 1) := by decide +kernel
theorem dX12_chooses_114 : decode cX12_chooses 114 = .ok (.lload 5, 2) := by decide +kernel
theorem dX12_chooses_116 : decode cX12_chooses 116 = .ok (.ldiv, 1) := by decide +kernel
theorem dX12_chooses_117 : decode cX12_chooses 117 = .ok (.lstore 13, 2) := by decide +kernel
theorem dX12_chooses_119 : decode cX12_chooses 119 = .ok (.lload 9, 2) := by decide +kernel
theorem dX12_chooses_121 : decode cX12_chooses 121 = .ok (.lconst 0, 1) := by decide +kernel
theorem dX12_chooses_122 : decode cX12_chooses 122 = .ok (.lcmp, 1) := by decide +kernel
theorem dX12_chooses_123 : decode cX12_chooses 123 = .ok (.ifCond .le 25, 3) := by decide +kernel
theorem dX12_chooses_126 : decode cX12_chooses 126 = .ok (.aload_n 0, 1) := by decide +kernel
theorem dX12_chooses_127 : decode cX12_chooses 127 = .ok (.getfield 132, 3) := by decide +kernel
theorem dX12_chooses_130 : decode cX12_chooses 130 = .ok (.ifCond .ne 18, 3) := by decide +kernel
theorem dX12_chooses_133 : decode cX12_chooses 133 = .ok (.aload_n 0, 1) := by decide +kernel
theorem dX12_chooses_134 : decode cX12_chooses 134 = .ok (.lload 7, 2) := by decide +kernel
theorem dX12_chooses_136 : decode cX12_chooses 136 = .ok (.putfield 218, 3) := by decide +kernel
theorem dX12_chooses_139 : decode cX12_chooses 139 = .ok (.aload_n 0, 1) := by decide +kernel
theorem dX12_chooses_140 : decode cX12_chooses 140 = .ok (.lload 9, 2) := by decide +kernel
theorem dX12_chooses_142 : decode cX12_chooses 142 = .ok (.putfield 221, 3) := by decide +kernel
theorem dX12_chooses_145 : decode cX12_chooses 145 = .ok (.goto 111, 3) := by decide +kernel
theorem dX12_chooses_148 : decode cX12_chooses 148 = .ok (.lload 13, 2) := by decide +kernel
theorem dX12_chooses_150 : decode cX12_chooses 150 = .ok (.lconst 0, 1) := by decide +kernel
theorem dX12_chooses_151 : decode cX12_chooses 151 = .ok (.lcmp, 1) := by decide +kernel
theorem dX12_chooses_152 : decode cX12_chooses 152 = .ok (.ifCond .le 25, 3) := by decide +kernel
theorem dX12_chooses_155 : decode cX12_chooses 155 = .ok (.aload_n 0, 1) := by decide +kernel
theorem dX12_chooses_156 : decode cX12_chooses 156 = .ok (.getfield 123, 3) := by decide +kernel
theorem dX12_chooses_159 : decode cX12_chooses 159 = .ok (.ifCond .ne 18, 3) := by decide +kernel
theorem dX12_chooses_162 : decode cX12_chooses 162 = .ok (.aload_n 0, 1) := by decide +kernel
theorem dX12_chooses_163 : decode cX12_chooses 163 = .ok (.lload 11, 2) := by decide +kernel
theorem dX12_chooses_165 : decode cX12_chooses 165 = .ok (.putfield 218, 3) := by decide +kernel
theorem dX12_chooses_168 : decode cX12_chooses 168 = .ok (.aload_n 0, 1) := by decide +kernel
theorem dX12_chooses_169 : decode cX12_chooses 169 = .ok (.lload 13, 2) := by decide +kernel
theorem dX12_chooses_171 : decode cX12_chooses 171 = .ok (.putfield 221, 3) := by decide +kernel
theorem dX12_chooses_174 : decode cX12_chooses 174 = .ok (.goto 82, 3) := by decide +kernel
theorem dX12_chooses_177 : decode cX12_chooses 177 = .ok (.lload 9, 2) := by decide +kernel
theorem dX12_chooses_179 : decode cX12_chooses 179 = .ok (.lconst 0, 1) := by decide +kernel
theorem dX12_chooses_180 : decode cX12_chooses 180 = .ok (.lcmp, 1) := by decide +kernel
theorem dX12_chooses_181 : decode cX12_chooses 181 = .ok (.ifCond .le 25, 3) := by decide +kernel
theorem dX12_chooses_184 : decode cX12_chooses 184 = .ok (.lload 13, 2) := by decide +kernel
theorem dX12_chooses_186 : decode cX12_chooses 186 = .ok (.lconst 0, 1) := by decide +kernel
theorem dX12_chooses_187 : decode cX12_chooses 187 = .ok (.lcmp, 1) := by decide +kernel
theorem dX12_chooses_188 : decode cX12_chooses 188 = .ok (.ifCond .le 18, 3) := by decide +kernel
theorem dX12_chooses_191 : decode cX12_chooses 191 = .ok (.aload_n 0, 1) := by decide +kernel
theorem dX12_chooses_192 : decode cX12_chooses 192 = .ok (.lload 7, 2) := by decide +kernel
theorem dX12_chooses_194 : decode cX12_chooses 194 = .ok (.lload 9, 2) := by decide +kernel
theorem dX12_chooses_196 : decode cX12_chooses 196 = .ok (.lload 11, 2) := by decide +kernel
theorem dX12_chooses_198 : decode cX12_chooses 198 = .ok (.lload 13, 2) := by decide +kernel
theorem dX12_chooses_200 : decode cX12_chooses 200 = .ok (.invokevirtual 224, 3) := by decide +kernel
theorem dX12_chooses_203 : decode cX12_chooses 203 = .ok (.goto 53, 3) := by decide +kernel
theorem dX12_chooses_206 : decode cX12_chooses 206 = .ok (.aload_n 0, 1) := by decide +kernel
theorem dX12_chooses_207 : decode cX12_chooses 207 = .ok (.lload 9, 2) := by decide +kernel
theorem dX12_chooses_209 : decode cX12_chooses 209 = .ok (.lconst 0, 1) := by decide +kernel
theorem dX12_chooses_210 : decode cX12_chooses 210 = .ok (.lcmp, 1) := by decide +kernel
theorem dX12_chooses_211 : decode cX12_chooses 211 = .ok (.ifCond .le 15, 3) := by decide +kernel
theorem dX12_chooses_214 : decode cX12_chooses 214 = .ok (.lload 7, 2) := by decide +kernel
theorem dX12_chooses_216 : decode cX12_chooses 216 = .ok (.lload 9, 2) := by decide +kernel
theorem dX12_chooses_218 : decode cX12_chooses 218 = .ok (.invokestatic 228, 3) := by decide +kernel
theorem dX12_chooses_221 : decode cX12_chooses 221 = .ok (.lconst 1, 1) := by decide +kernel
theorem dX12_chooses_222 : decode cX12_chooses 222 = .ok (.ladd, 1) := by decide +kernel
theorem dX12_chooses_223 : decode cX12_chooses 223 = .ok (.goto 25, 3) := by decide +kernel
theorem dX12_chooses_226 : decode cX12_chooses 226 = .ok (.lload 13, 2) := by decide +kernel
theorem dX12_chooses_228 : decode cX12_chooses 228 = .ok (.lconst 0, 1) := by decide +kernel
theorem dX12_chooses_229 : decode cX12_chooses 229 = .ok (.lcmp, 1) := by decide +kernel
theorem dX12_chooses_230 : decode cX12_chooses 230 = .ok (.ifCond .le 17, 3) := by decide +kernel
theorem dX12_chooses_233 : decode cX12_chooses 233 = .ok (.lload 11, 2) := by decide +kernel
theorem dX12_chooses_235 : decode cX12_chooses 235 = .ok (.lneg, 1) := by decide +kernel
theorem dX12_chooses_236 : decode cX12_chooses 236 = .ok (.lload 13, 2) := by decide +kernel
theorem dX12_chooses_238 : decode cX12_chooses 238 = .ok (.invokestatic 228, 3) := by decide +kernel
theorem dX12_chooses_241 : decode cX12_chooses 241 = .ok (.lneg, 1) := by decide +kernel
theorem dX12_chooses_242 : decode cX12_chooses 242 = .ok (.lconst 1, 1) := by decide +kernel
theorem dX12_chooses_243 : decode cX12_chooses 243 = .ok (.lsub, 1) := by decide +kernel
theorem dX12_chooses_244 : decode cX12_chooses 244 = .ok (.goto 4, 3) := by decide +kernel
theorem dX12_chooses_247 : decode cX12_chooses 247 = .ok (.lconst 0, 1) := by decide +kernel
theorem dX12_chooses_248 : decode cX12_chooses 248 = .ok (.putfield 218, 3) := by decide +kernel
theorem dX12_chooses_251 : decode cX12_chooses 251 = .ok (.aload_n 0, 1) := by decide +kernel
theorem dX12_chooses_252 : decode cX12_chooses 252 = .ok (.lconst 1, 1) := by decide +kernel
theorem dX12_chooses_253 : decode cX12_chooses 253 = .ok (.putfield 221, 3) := by decide +kernel
theorem dX12_chooses_256 : decode cX12_chooses 256 = .ok (.return_, 1) := by decide +kernel
def rm_fMM_chooses : Room := { frames := 3, cells := 0, slots := 0, locals := 131 }
set_option maxHeartbeats 4000000 in
set_option maxRecDepth 100000 in
theorem c_fMM_chooses (l : Launch) (X : eX) (sz : Nat) (a1 : Int64) (σ : sT) (σz : sT) (h0 : fMM_chooses a1 σ = some σz) : ctV l yX12_chooses cX12_chooses 15 none rm_fMM_chooses [.ref (X.2.1 33), .long a1] (wM X) (tM X) (aM X) X sz σ σz := by
  refine ct_of (by decide +kernel) (Nat.le_of_ble_eq_true rfl) ?_
  intro p e s m args below meth c ls hz B hl Z
  have B : Bd p s m args meth c RX12 cX12_chooses 15 none := B
  have hl : lv_has ls 15 [(0, .ref (X.2.1 33)), (1, .long a1)] := hl
  have hx := B.1
  have hb := B.2.1
  unfold fMM_chooses at h0
  refine lv_aload_n hx hb dX12_chooses_0 rfl (lv_at hl 0 rfl) ?_
  refine g_33_9 B Z kf_RX12_129 dX12_chooses_1 ?_
  refine lv_aload_n hx hb dX12_chooses_4 rfl (lv_at hl 0 rfl) ?_
  refine g_33_10 B Z kf_RX12_126 dX12_chooses_5 ?_
  refine lv_lload_n hx hb dX12_chooses_8 rfl (lv_at hl 1 rfl) ?_
  refine lv_lmul hx hb dX12_chooses_9 ?_
  obtain ⟨r2, hc0, h1⟩ := db1_s h0
  clear h0
  refine cS_L [.long (σ.2 33 9), .long ((σ.2 33 10) * a1)] [] B mx_yX12_divisor (c_fMM_divisor l X _ (σ.2 33 9) ((σ.2 33 10) * a1) σ r2 hc0) kl_RX12_204 ks_yX12_divisor Z hl rfl rfl ⟨Nat.le_of_ble_eq_true rfl, Nat.le_of_ble_eq_true rfl⟩ rfl rfl (Nat.le_of_ble_eq_true rfl) dX12_chooses_10 (fun H locs Z => ?_)
  clear hc0
  refine lv_lstore_n (lv' := [(3, .long r2), (0, .ref (X.2.1 33)), (1, .long a1)]) hx hb dX12_chooses_13 rfl hl (by decide) rfl (fun ls hl => ?_)
  refine lv_aload_n hx hb dX12_chooses_14 rfl (lv_at hl 1 rfl) ?_
  refine g_33_12 B Z kf_RX12_120 dX12_chooses_15 ?_
  refine lv_aload_n hx hb dX12_chooses_18 rfl (lv_at hl 1 rfl) ?_
  refine g_33_13 B Z kf_RX12_114 dX12_chooses_19 ?_
  refine lv_lload_n hx hb dX12_chooses_22 rfl (lv_at hl 2 rfl) ?_
  refine lv_lmul hx hb dX12_chooses_23 ?_
  obtain ⟨r4, hc2, h2⟩ := db1_s h1
  clear h1
  refine cS_L [.long (σ.2 33 12), .long ((σ.2 33 13) * a1)] [] B mx_yX12_divisor (c_fMM_divisor l X _ (σ.2 33 12) ((σ.2 33 13) * a1) σ r4 hc2) kl_RX12_204 ks_yX12_divisor Z hl rfl rfl ⟨Nat.le_of_ble_eq_true rfl, Nat.le_of_ble_eq_true rfl⟩ rfl rfl (Nat.le_of_ble_eq_true rfl) dX12_chooses_24 (fun H locs Z => ?_)
  clear hc2
  refine lv_lstore (lv' := [(5, .long r4), (3, .long r2), (0, .ref (X.2.1 33)), (1, .long a1)]) hx hb dX12_chooses_27 hl (by decide) rfl (fun ls hl => ?_)
  refine lv_aload_n hx hb dX12_chooses_29 rfl (lv_at hl 2 rfl) ?_
  refine g_33_10 B Z kf_RX12_126 dX12_chooses_30 ?_
  refine lv_lconst (v := (0 : Int64)) hx hb dX12_chooses_33 (by decide) ?_
  refine W.lcmp hx hb dX12_chooses_34 ?_
  obtain ⟨J6, eJ6, h52⟩ := dlt_s h2
  clear h2
  have kJ6 : ∀ (x5 : Int64) (H : Heap) (locs : List Loc) (ls : Array Slot), Wd (wM X) (tM X) (aM X) X s σ H locs → lv_has ls 15 [(0, .ref (X.2.1 33)), (1, .long a1), (3, .long r2), (5, .long r4)] → J6 x5 = some σz → W p l e rm_fMM_chooses s m args below meth c H locs 0 0 (MQ below (va_Qv (fun u => u = σz) (poW (wM X) (tM X) (aM X) X sz) (aA (aM X) sz)) args s 0 0 (aA (aM X) sz)) (F0 m 48 ls [.long x5]) := by
    intro x5 H locs ls Z hl h3
    rw [eJ6] at h3
    refine lv_lstore (lv' := [(7, .long x5), (0, .ref (X.2.1 33)), (1, .long a1), (3, .long r2), (5, .long r4)]) hx hb dX12_chooses_48 hl (by decide) rfl (fun ls hl => ?_)
    refine lv_aload_n hx hb dX12_chooses_50 rfl (lv_at hl 1 rfl) ?_
    refine g_33_10 B Z kf_RX12_126 dX12_chooses_51 ?_
    refine lv_lconst (v := (0 : Int64)) hx hb dX12_chooses_54 (by decide) ?_
    refine W.lcmp hx hb dX12_chooses_55 ?_
    obtain ⟨J8, eJ8, h48⟩ := dlt_s h3
    clear h3
    have kJ8 : ∀ (x7 : Int64) (H : Heap) (locs : List Loc) (ls : Array Slot), Wd (wM X) (tM X) (aM X) X s σ H locs → lv_has ls 15 [(0, .ref (X.2.1 33)), (1, .long a1), (5, .long r4), (7, .long x5)] → J8 x7 = some σz → W p l e rm_fMM_chooses s m args below meth c H locs 0 0 (MQ below (va_Qv (fun u => u = σz) (poW (wM X) (tM X) (aM X) X sz) (aA (aM X) sz)) args s 0 0 (aA (aM X) sz)) (F0 m 71 ls [.long x7]) := by
      intro x7 H locs ls Z hl h4
      rw [eJ8] at h4
      refine lv_lstore (lv' := [(9, .long x7), (0, .ref (X.2.1 33)), (1, .long a1), (5, .long r4), (7, .long x5)]) hx hb dX12_chooses_71 hl (by decide) rfl (fun ls hl => ?_)
      refine lv_aload_n hx hb dX12_chooses_73 rfl (lv_at hl 1 rfl) ?_
      refine g_33_13 B Z kf_RX12_114 dX12_chooses_74 ?_
      refine lv_lconst (v := (0 : Int64)) hx hb dX12_chooses_77 (by decide) ?_
      refine W.lcmp hx hb dX12_chooses_78 ?_
      obtain ⟨J10, eJ10, h44⟩ := dlt_s h4
      clear h4
      have kJ10 : ∀ (x9 : Int64) (H : Heap) (locs : List Loc) (ls : Array Slot), Wd (wM X) (tM X) (aM X) X s σ H locs → lv_has ls 15 [(0, .ref (X.2.1 33)), (1, .long a1), (5, .long r4), (7, .long x5), (9, .long x7)] → J10 x9 = some σz → W p l e rm_fMM_chooses s m args below meth c H locs 0 0 (MQ below (va_Qv (fun u => u = σz) (poW (wM X) (tM X) (aM X) X sz) (aA (aM X) sz)) args s 0 0 (aA (aM X) sz)) (F0 m 93 ls [.long x9]) := by
        intro x9 H locs ls Z hl h5
        rw [eJ10] at h5
        refine lv_lstore (lv' := [(11, .long x9), (0, .ref (X.2.1 33)), (1, .long a1), (5, .long r4), (7, .long x5), (9, .long x7)]) hx hb dX12_chooses_93 hl (by decide) rfl (fun ls hl => ?_)
        refine lv_aload_n hx hb dX12_chooses_95 rfl (lv_at hl 1 rfl) ?_
        refine g_33_13 B Z kf_RX12_114 dX12_chooses_96 ?_
        refine lv_lconst (v := (0 : Int64)) hx hb dX12_chooses_99 (by decide) ?_
        refine W.lcmp hx hb dX12_chooses_100 ?_
        obtain ⟨J12, eJ12, h40⟩ := dlt_s h5
        clear h5
        have kJ12 : ∀ (x11 : Int64) (H : Heap) (locs : List Loc) (ls : Array Slot), Wd (wM X) (tM X) (aM X) X s σ H locs → lv_has ls 15 [(0, .ref (X.2.1 33)), (7, .long x5), (9, .long x7), (11, .long x9)] → J12 x11 = some σz → W p l e rm_fMM_chooses s m args below meth c H locs 0 0 (MQ below (va_Qv (fun u => u = σz) (poW (wM X) (tM X) (aM X) X sz) (aA (aM X) sz)) args s 0 0 (aA (aM X) sz)) (F0 m 117 ls [.long x11]) := by
          intro x11 H locs ls Z hl h6
          rw [eJ12] at h6
          refine lv_lstore (lv' := [(13, .long x11), (0, .ref (X.2.1 33)), (7, .long x5), (9, .long x7), (11, .long x9)]) hx hb dX12_chooses_117 hl (by decide) rfl (fun ls hl => ?_)
          refine lv_lload hx hb dX12_chooses_119 (lv_at hl 3 rfl) ?_
          refine lv_lconst (v := (0 : Int64)) hx hb dX12_chooses_121 (by decide) ?_
          refine W.lcmp hx hb dX12_chooses_122 ?_
          obtain ⟨J13, eJ13, h33⟩ := dlt_s h6
          clear h6
          have kJ13 : ∀ (H : Heap) (locs : List Loc) (ls : Array Slot), Wd (wM X) (tM X) (aM X) X s σ H locs → lv_has ls 15 [(0, .ref (X.2.1 33)), (7, .long x5), (9, .long x7), (11, .long x9), (13, .long x11)] → J13 () = some σz → W p l e rm_fMM_chooses s m args below meth c H locs 0 0 (MQ below (va_Qv (fun u => u = σz) (poW (wM X) (tM X) (aM X) X sz) (aA (aM X) sz)) args s 0 0 (aA (aM X) sz)) (F0 m 148 ls []) := by
            intro  H locs ls Z hl h7
            rw [eJ13] at h7
            refine lv_lload hx hb dX12_chooses_148 (lv_at hl 4 rfl) ?_
            refine lv_lconst (v := (0 : Int64)) hx hb dX12_chooses_150 (by decide) ?_
            refine W.lcmp hx hb dX12_chooses_151 ?_
            obtain ⟨J14, eJ14, h26⟩ := dlt_s h7
            clear h7
            have kJ14 : ∀ (H : Heap) (locs : List Loc) (ls : Array Slot), Wd (wM X) (tM X) (aM X) X s σ H locs → lv_has ls 15 [(0, .ref (X.2.1 33)), (7, .long x5), (9, .long x7), (11, .long x9), (13, .long x11)] → J14 () = some σz → W p l e rm_fMM_chooses s m args below meth c H locs 0 0 (MQ below (va_Qv (fun u => u = σz) (poW (wM X) (tM X) (aM X) X sz) (aA (aM X) sz)) args s 0 0 (aA (aM X) sz)) (F0 m 177 ls []) := by
              intro  H locs ls Z hl h8
              rw [eJ14] at h8
              refine lv_lload hx hb dX12_chooses_177 (lv_at hl 2 rfl) ?_
              refine lv_lconst (v := (0 : Int64)) hx hb dX12_chooses_179 (by decide) ?_
              refine W.lcmp hx hb dX12_chooses_180 ?_
              obtain ⟨J15, eJ15, h20⟩ := dlt_s h8
              clear h8
              have kJ15 : ∀ (H : Heap) (locs : List Loc) (ls : Array Slot), Wd (wM X) (tM X) (aM X) X s σ H locs → lv_has ls 15 [(0, .ref (X.2.1 33)), (7, .long x5), (9, .long x7), (11, .long x9), (13, .long x11)] → J15 () = some σz → W p l e rm_fMM_chooses s m args below meth c H locs 0 0 (MQ below (va_Qv (fun u => u = σz) (poW (wM X) (tM X) (aM X) X sz) (aA (aM X) sz)) args s 0 0 (aA (aM X) sz)) (F0 m 206 ls []) := by
                intro  H locs ls Z hl h9
                rw [eJ15] at h9
                refine lv_aload_n hx hb dX12_chooses_206 rfl (lv_at hl 0 rfl) ?_
                refine lv_lload hx hb dX12_chooses_207 (lv_at hl 2 rfl) ?_
                refine lv_lconst (v := (0 : Int64)) hx hb dX12_chooses_209 (by decide) ?_
                refine W.lcmp hx hb dX12_chooses_210 ?_
                obtain ⟨J17, eJ17, h13⟩ := dlt_s h9
                clear h9
                have kJ17 : ∀ (x16 : Int64) (H : Heap) (locs : List Loc) (ls : Array Slot), Wd (wM X) (tM X) (aM X) X s σ H locs → lv_has ls 15 [(0, .ref (X.2.1 33))] → J17 x16 = some σz → W p l e rm_fMM_chooses s m args below meth c H locs 0 0 (MQ below (va_Qv (fun u => u = σz) (poW (wM X) (tM X) (aM X) X sz) (aA (aM X) sz)) args s 0 0 (aA (aM X) sz)) (F0 m 248 ls [.long x16, .ref (X.2.1 33)]) := by
                  intro x16 H locs ls Z hl h10
                  rw [eJ17] at h10
                  refine s_33_15 B Z kf_RX12_218 dX12_chooses_248 (fun H locs Z => ?_)
                  obtain ⟨σ18, eσ18, h11⟩ := dlt_s h10
                  clear h10
                  replace Z := Wd.eq eσ18 Z
                  clear eσ18
                  refine lv_aload_n hx hb dX12_chooses_251 rfl (lv_at hl 0 rfl) ?_
                  refine lv_lconst (v := (1 : Int64)) hx hb dX12_chooses_252 (by decide) ?_
                  refine s_33_16 B Z kf_RX12_221 dX12_chooses_253 (fun H locs Z => ?_)
                  obtain ⟨σ19, eσ19, h12⟩ := dlt_s h11
                  clear h11
                  replace Z := Wd.eq eσ19 Z
                  clear eσ19
                  exact reV B Z hz h12 dX12_chooses_256
                clear eJ17
                refine lv_if_le (tgt := 226) hx hb dX12_chooses_211 (by decide) (fun c20 => ?_) (fun c20 => ?_)
                · have h14 := dit h13 c20
                  clear h13
                  refine lv_lload hx hb dX12_chooses_226 (lv_at hl 4 rfl) ?_
                  refine lv_lconst (v := (0 : Int64)) hx hb dX12_chooses_228 (by decide) ?_
                  refine W.lcmp hx hb dX12_chooses_229 ?_
                  refine lv_if_le (tgt := 247) hx hb dX12_chooses_230 (by decide) (fun c21 => ?_) (fun c21 => ?_)
                  · have h15 := dit h14 c21
                    clear h14
                    refine lv_lconst (v := (0 : Int64)) hx hb dX12_chooses_247 (by decide) ?_
                    exact kJ17 (0 : Int64) _ _ _ Z (lv_sub hl [0] rfl) h15
                  · have h16 := dif h14 c21
                    clear h14
                    refine lv_lload hx hb dX12_chooses_233 (lv_at hl 3 rfl) ?_
                    refine lv_lneg hx hb dX12_chooses_235 ?_
                    refine lv_lload hx hb dX12_chooses_236 (lv_at hl 4 rfl) ?_
                    obtain ⟨r23, hc21, h17⟩ := db1_s h16
                    clear h16
                    refine cS_L [.long (-x9), .long x11] [.ref (X.2.1 33)] B mx_yX12_floor (c_fMM_floor l X _ (-x9) x11 σ r23 hc21) kl_RX12_228 ks_yX12_floor Z hl rfl rfl ⟨Nat.le_of_ble_eq_true rfl, Nat.le_of_ble_eq_true rfl⟩ rfl rfl (Nat.le_of_ble_eq_true rfl) dX12_chooses_238 (fun H locs Z => ?_)
                    clear hc21
                    refine lv_lneg hx hb dX12_chooses_241 ?_
                    refine lv_lconst (v := (1 : Int64)) hx hb dX12_chooses_242 (by decide) ?_
                    refine lv_lsub hx hb dX12_chooses_243 ?_
                    refine lv_goto (tgt := 248) hx hb dX12_chooses_244 (by decide) ?_
                    exact kJ17 ((-r23) - (1 : Int64)) _ _ _ Z (lv_sub hl [0] rfl) h17
                · have h18 := dif h13 c20
                  clear h13
                  refine lv_lload hx hb dX12_chooses_214 (lv_at hl 1 rfl) ?_
                  refine lv_lload hx hb dX12_chooses_216 (lv_at hl 2 rfl) ?_
                  obtain ⟨r25, hc23, h19⟩ := db1_s h18
                  clear h18
                  refine cS_L [.long x5, .long x7] [.ref (X.2.1 33)] B mx_yX12_floor (c_fMM_floor l X _ x5 x7 σ r25 hc23) kl_RX12_228 ks_yX12_floor Z hl rfl rfl ⟨Nat.le_of_ble_eq_true rfl, Nat.le_of_ble_eq_true rfl⟩ rfl rfl (Nat.le_of_ble_eq_true rfl) dX12_chooses_218 (fun H locs Z => ?_)
                  clear hc23
                  refine lv_lconst (v := (1 : Int64)) hx hb dX12_chooses_221 (by decide) ?_
                  refine lv_ladd hx hb dX12_chooses_222 ?_
                  refine lv_goto (tgt := 248) hx hb dX12_chooses_223 (by decide) ?_
                  exact kJ17 (r25 + (1 : Int64)) _ _ _ Z (lv_sub hl [0] rfl) h19
              clear eJ15
              refine lv_if_le (tgt := 206) hx hb dX12_chooses_181 (by decide) (fun c26 => ?_) (fun c26 => ?_)
              · have h21 := dit h20 c26
                clear h20
                exact kJ15  _ _ _ Z (lv_sub hl [0, 1, 2, 3, 4] rfl) h21
              · have h22 := dif h20 c26
                clear h20
                refine lv_lload hx hb dX12_chooses_184 (lv_at hl 4 rfl) ?_
                refine lv_lconst (v := (0 : Int64)) hx hb dX12_chooses_186 (by decide) ?_
                refine W.lcmp hx hb dX12_chooses_187 ?_
                refine lv_if_le (tgt := 206) hx hb dX12_chooses_188 (by decide) (fun c27 => ?_) (fun c27 => ?_)
                · have h23 := dit h22 c27
                  clear h22
                  exact kJ15  _ _ _ Z (lv_sub hl [0, 1, 2, 3, 4] rfl) h23
                · have h24 := dif h22 c27
                  clear h22
                  refine lv_aload_n hx hb dX12_chooses_191 rfl (lv_at hl 0 rfl) ?_
                  refine lv_lload hx hb dX12_chooses_192 (lv_at hl 1 rfl) ?_
                  refine lv_lload hx hb dX12_chooses_194 (lv_at hl 2 rfl) ?_
                  refine lv_lload hx hb dX12_chooses_196 (lv_at hl 3 rfl) ?_
                  refine lv_lload hx hb dX12_chooses_198 (lv_at hl 4 rfl) ?_
                  obtain ⟨σ29, hc27, h25⟩ := db1_s h24
                  clear h24
                  refine cV_V [.long x5, .long x7, .long x9, .long x11] [] B mx_yX12_choosesBetween (c_fMM_choosesBetween l X _ x5 x7 x9 x11 σ σ29 hc27) kl_RX12_224 mi_yX12_choosesBetween (rv_33 _ _) hcl_12 Z hl rfl rfl ⟨Nat.le_of_ble_eq_true rfl, Nat.le_of_ble_eq_true rfl⟩ rfl rfl (Nat.le_of_ble_eq_true rfl) dX12_chooses_200 (fun H locs Z => ?_)
                  clear hc27
                  refine lv_goto (tgt := 256) hx hb dX12_chooses_203 (by decide) ?_
                  exact reV B Z hz h25 dX12_chooses_256
            clear eJ14
            refine lv_if_le (tgt := 177) hx hb dX12_chooses_152 (by decide) (fun c30 => ?_) (fun c30 => ?_)
            · have h27 := dit h26 c30
              clear h26
              exact kJ14  _ _ _ Z (lv_sub hl [0, 1, 2, 3, 4] rfl) h27
            · have h28 := dif h26 c30
              clear h26
              refine lv_aload_n hx hb dX12_chooses_155 rfl (lv_at hl 0 rfl) ?_
              refine g_33_14 B Z kf_RX12_123 dX12_chooses_156 ?_
              refine lv_if_ne (tgt := 177) hx hb dX12_chooses_159 (by decide) (fun c31 => ?_) (fun c31 => ?_)
              · have h29 := dif h28 c31
                clear h28
                exact kJ14  _ _ _ Z (lv_sub hl [0, 1, 2, 3, 4] rfl) h29
              · have h30 := dit h28 c31
                clear h28
                refine lv_aload_n hx hb dX12_chooses_162 rfl (lv_at hl 0 rfl) ?_
                refine lv_lload hx hb dX12_chooses_163 (lv_at hl 3 rfl) ?_
                refine s_33_15 B Z kf_RX12_218 dX12_chooses_165 (fun H locs Z => ?_)
                obtain ⟨σ32, eσ32, h31⟩ := dlt_s h30
                clear h30
                replace Z := Wd.eq eσ32 Z
                clear eσ32
                refine lv_aload_n hx hb dX12_chooses_168 rfl (lv_at hl 0 rfl) ?_
                refine lv_lload hx hb dX12_chooses_169 (lv_at hl 4 rfl) ?_
                refine s_33_16 B Z kf_RX12_221 dX12_chooses_171 (fun H locs Z => ?_)
                obtain ⟨σ33, eσ33, h32⟩ := dlt_s h31
                clear h31
                replace Z := Wd.eq eσ33 Z
                clear eσ33
                refine lv_goto (tgt := 256) hx hb dX12_chooses_174 (by decide) ?_
                exact reV B Z hz h32 dX12_chooses_256
          clear eJ13
          refine lv_if_le (tgt := 148) hx hb dX12_chooses_123 (by decide) (fun c34 => ?_) (fun c34 => ?_)
          · have h34 := dit h33 c34
            clear h33
            exact kJ13  _ _ _ Z (lv_sub hl [1, 2, 3, 4, 0] rfl) h34
          · have h35 := dif h33 c34
            clear h33
            refine lv_aload_n hx hb dX12_chooses_126 rfl (lv_at hl 1 rfl) ?_
            refine g_33_11 B Z kf_RX12_132 dX12_chooses_127 ?_
            refine lv_if_ne (tgt := 148) hx hb dX12_chooses_130 (by decide) (fun c35 => ?_) (fun c35 => ?_)
            · have h36 := dif h35 c35
              clear h35
              exact kJ13  _ _ _ Z (lv_sub hl [1, 2, 3, 4, 0] rfl) h36
            · have h37 := dit h35 c35
              clear h35
              refine lv_aload_n hx hb dX12_chooses_133 rfl (lv_at hl 1 rfl) ?_
              refine lv_lload hx hb dX12_chooses_134 (lv_at hl 2 rfl) ?_
              refine s_33_15 B Z kf_RX12_218 dX12_chooses_136 (fun H locs Z => ?_)
              obtain ⟨σ36, eσ36, h38⟩ := dlt_s h37
              clear h37
              replace Z := Wd.eq eσ36 Z
              clear eσ36
              refine lv_aload_n hx hb dX12_chooses_139 rfl (lv_at hl 1 rfl) ?_
              refine lv_lload hx hb dX12_chooses_140 (lv_at hl 3 rfl) ?_
              refine s_33_16 B Z kf_RX12_221 dX12_chooses_142 (fun H locs Z => ?_)
              obtain ⟨σ37, eσ37, h39⟩ := dlt_s h38
              clear h38
              replace Z := Wd.eq eσ37 Z
              clear eσ37
              refine lv_goto (tgt := 256) hx hb dX12_chooses_145 (by decide) ?_
              exact reV B Z hz h39 dX12_chooses_256
        clear eJ12
        refine lv_if_ne (tgt := 108) hx hb dX12_chooses_101 (by decide) (fun c38 => ?_) (fun c38 => ?_)
        · have h41 := dif h40 c38
          clear h40
          refine lv_aload_n hx hb dX12_chooses_108 rfl (lv_at hl 1 rfl) ?_
          refine g_33_13 B Z kf_RX12_114 dX12_chooses_109 ?_
          refine lv_lload_n hx hb dX12_chooses_112 rfl (lv_at hl 2 rfl) ?_
          refine lv_lmul hx hb dX12_chooses_113 ?_
          refine lv_lload hx hb dX12_chooses_114 (lv_at hl 3 rfl) ?_
          obtain ⟨z39, h42⟩ := dck_s h41
          clear h41
          refine lv_ldiv hx hb dX12_chooses_116 (okE_s z39) ?_
          exact kJ12 (((σ.2 33 13) * a1) / r4) _ _ _ Z (lv_sub hl [1, 4, 5, 0] rfl) h42
        · have h43 := dit h40 c38
          clear h40
          refine lv_lconst (v := (0 : Int64)) hx hb dX12_chooses_104 (by decide) ?_
          refine lv_goto (tgt := 117) hx hb dX12_chooses_105 (by decide) ?_
          exact kJ12 (0 : Int64) _ _ _ Z (lv_sub hl [1, 4, 5, 0] rfl) h43
      clear eJ10
      refine lv_if_ne (tgt := 86) hx hb dX12_chooses_79 (by decide) (fun c40 => ?_) (fun c40 => ?_)
      · have h45 := dif h44 c40
        clear h44
        refine lv_aload_n hx hb dX12_chooses_86 rfl (lv_at hl 1 rfl) ?_
        refine g_33_12 B Z kf_RX12_120 dX12_chooses_87 ?_
        refine lv_lload hx hb dX12_chooses_90 (lv_at hl 3 rfl) ?_
        obtain ⟨z41, h46⟩ := dck_s h45
        clear h45
        refine lv_ldiv hx hb dX12_chooses_92 (okE_s z41) ?_
        exact kJ10 ((σ.2 33 12) / r4) _ _ _ Z (lv_sub hl [1, 2, 3, 4, 0] rfl) h46
      · have h47 := dit h44 c40
        clear h44
        refine lv_lconst (v := (0 : Int64)) hx hb dX12_chooses_82 (by decide) ?_
        refine lv_goto (tgt := 93) hx hb dX12_chooses_83 (by decide) ?_
        exact kJ10 (0 : Int64) _ _ _ Z (lv_sub hl [1, 2, 3, 4, 0] rfl) h47
    clear eJ8
    refine lv_if_ne (tgt := 63) hx hb dX12_chooses_56 (by decide) (fun c42 => ?_) (fun c42 => ?_)
    · have h49 := dif h48 c42
      clear h48
      refine lv_aload_n hx hb dX12_chooses_63 rfl (lv_at hl 1 rfl) ?_
      refine g_33_10 B Z kf_RX12_126 dX12_chooses_64 ?_
      refine lv_lload_n hx hb dX12_chooses_67 rfl (lv_at hl 2 rfl) ?_
      refine lv_lmul hx hb dX12_chooses_68 ?_
      refine lv_lload_n hx hb dX12_chooses_69 rfl (lv_at hl 3 rfl) ?_
      obtain ⟨z43, h50⟩ := dck_s h49
      clear h49
      refine lv_ldiv hx hb dX12_chooses_70 (okE_s z43) ?_
      exact kJ8 (((σ.2 33 10) * a1) / r2) _ _ _ Z (lv_sub hl [1, 2, 4, 0] rfl) h50
    · have h51 := dit h48 c42
      clear h48
      refine lv_lconst (v := (0 : Int64)) hx hb dX12_chooses_59 (by decide) ?_
      refine lv_goto (tgt := 71) hx hb dX12_chooses_60 (by decide) ?_
      exact kJ8 (0 : Int64) _ _ _ Z (lv_sub hl [1, 2, 4, 0] rfl) h51
  clear eJ6
  refine lv_if_ne (tgt := 42) hx hb dX12_chooses_35 (by decide) (fun c44 => ?_) (fun c44 => ?_)
  · have h53 := dif h52 c44
    clear h52
    refine lv_aload_n hx hb dX12_chooses_42 rfl (lv_at hl 2 rfl) ?_
    refine g_33_9 B Z kf_RX12_129 dX12_chooses_43 ?_
    refine lv_lload_n hx hb dX12_chooses_46 rfl (lv_at hl 1 rfl) ?_
    obtain ⟨z45, h54⟩ := dck_s h53
    clear h53
    refine lv_ldiv hx hb dX12_chooses_47 (okE_s z45) ?_
    exact kJ6 ((σ.2 33 9) / r2) _ _ _ Z (lv_sub hl [2, 3, 1, 0] rfl) h54
  · have h55 := dit h52 c44
    clear h52
    refine lv_lconst (v := (0 : Int64)) hx hb dX12_chooses_38 (by decide) ?_
    refine lv_goto (tgt := 48) hx hb dX12_chooses_39 (by decide) ?_
    exact kJ6 (0 : Int64) _ _ _ Z (lv_sub hl [2, 3, 1, 0] rfl) h55
theorem dX12_findsPoint_0 : decode cX12_findsPoint 0 = .ok (.iconst 0, 1) := by decide +kernel
theorem dX12_findsPoint_1 : decode cX12_findsPoint 1 = .ok (.istore_n 2, 1) := by decide +kernel
theorem dX12_findsPoint_2 : decode cX12_findsPoint 2 = .ok (.iload_n 2, 1) := by decide +kernel
theorem dX12_findsPoint_3 : decode cX12_findsPoint 3 = .ok (.iconst 3, 1) := by decide +kernel
theorem dX12_findsPoint_4 : decode cX12_findsPoint 4 = .ok (.if_icmp .ge 52, 3) := by decide +kernel
theorem dX12_findsPoint_7 : decode cX12_findsPoint 7 = .ok (.aload_n 0, 1) := by decide +kernel
theorem dX12_findsPoint_8 : decode cX12_findsPoint 8 = .ok (.iload_n 1, 1) := by decide +kernel
theorem dX12_findsPoint_9 : decode cX12_findsPoint 9 = .ok (.iload_n 2, 1) := by decide +kernel
theorem dX12_findsPoint_10 : decode cX12_findsPoint 10 = .ok (.invokevirtual 234, 3) := by decide +kernel
theorem dX12_findsPoint_13 : decode cX12_findsPoint 13 = .ok (.lstore_n 3, 1) := by decide +kernel
theorem dX12_findsPoint_14 : decode cX12_findsPoint 14 = .ok (.aload_n 0, 1) := by decide +kernel
theorem dX12_findsPoint_15 : decode cX12_findsPoint 15 = .ok (.iload_n 2, 1) := by decide +kernel
theorem dX12_findsPoint_16 : decode cX12_findsPoint 16 = .ok (.invokevirtual 143, 3) := by decide +kernel
theorem dX12_findsPoint_19 : decode cX12_findsPoint 19 = .ok (.aload_n 0, 1) := by decide +kernel
theorem dX12_findsPoint_20 : decode cX12_findsPoint 20 = .ok (.lload_n 3, 1) := by decide +kernel
theorem dX12_findsPoint_21 : decode cX12_findsPoint 21 = .ok (.invokevirtual 238, 3) := by decide +kernel
theorem dX12_findsPoint_24 : decode cX12_findsPoint 24 = .ok (.aload_n 0, 1) := by decide +kernel
theorem dX12_findsPoint_25 : decode cX12_findsPoint 25 = .ok (.getfield 29, 3) := by decide +kernel
theorem dX12_findsPoint_28 : decode cX12_findsPoint 28 = .ok (.iconst 2, 1) := by decide +kernel
theorem dX12_findsPoint_29 : decode cX12_findsPoint 29 = .ok (.iload_n 2, 1) := by decide +kernel
theorem dX12_findsPoint_30 : decode cX12_findsPoint 30 = .ok (.imul, 1) := by decide +kernel
theorem dX12_findsPoint_31 : decode cX12_findsPoint 31 = .ok (.aload_n 0, 1) := by decide +kernel
theorem dX12_findsPoint_32 : decode cX12_findsPoint 32 = .ok (.getfield 218, 3) := by decide +kernel
theorem dX12_findsPoint_35 : decode cX12_findsPoint 35 = .ok (.lastore, 1) := by decide +kernel
theorem dX12_findsPoint_36 : decode cX12_findsPoint 36 = .ok (.aload_n 0, 1) := by decide +kernel
theorem dX12_findsPoint_37 : decode cX12_findsPoint 37 = .ok (.getfield 29, 3) := by decide +kernel
theorem dX12_findsPoint_40 : decode cX12_findsPoint 40 = .ok (.iconst 2, 1) := by decide +kernel
theorem dX12_findsPoint_41 : decode cX12_findsPoint 41 = .ok (.iload_n 2, 1) := by decide +kernel
theorem dX12_findsPoint_42 : decode cX12_findsPoint 42 = .ok (.imul, 1) := by decide +kernel
theorem dX12_findsPoint_43 : decode cX12_findsPoint 43 = .ok (.iconst 1, 1) := by decide +kernel
theorem dX12_findsPoint_44 : decode cX12_findsPoint 44 = .ok (.iadd, 1) := by decide +kernel
theorem dX12_findsPoint_45 : decode cX12_findsPoint 45 = .ok (.aload_n 0, 1) := by decide +kernel
theorem dX12_findsPoint_46 : decode cX12_findsPoint 46 = .ok (.getfield 221, 3) := by decide +kernel
theorem dX12_findsPoint_49 : decode cX12_findsPoint 49 = .ok (.lastore, 1) := by decide +kernel
theorem dX12_findsPoint_50 : decode cX12_findsPoint 50 = .ok (.iinc 2 1, 3) := by decide +kernel
theorem dX12_findsPoint_53 : decode cX12_findsPoint 53 = .ok (.goto (-51), 3) := by decide +kernel
theorem dX12_findsPoint_56 : decode cX12_findsPoint 56 = .ok (.return_, 1) := by decide +kernel
def rm_fMM_findsPoint : Room := { frames := 4, cells := 0, slots := 0, locals := 165 }
set_option maxHeartbeats 4000000 in
set_option maxRecDepth 100000 in
theorem c_fMM_findsPoint (l : Launch) (X : eX) (sz : Nat) (a1 : Int32) (σ : sT) (σz : sT) (h0 : fMM_findsPoint a1 σ = some σz) : ctV l yX12_findsPoint cX12_findsPoint 5 none rm_fMM_findsPoint [.ref (X.2.1 33), .int a1] (wM X) (tM X) (aM X) X sz σ σz := by
  refine ct_of (by decide +kernel) (Nat.le_of_ble_eq_true rfl) ?_
  intro p e s m args below meth c ls hz B hl Z
  have B : Bd p s m args meth c RX12 cX12_findsPoint 5 none := B
  have hl : lv_has ls 5 [(0, .ref (X.2.1 33)), (1, .int a1)] := hl
  have hx := B.1
  have hb := B.2.1
  unfold fMM_findsPoint at h0
  refine lv_iconst (v := (0 : Int32)) hx hb dX12_findsPoint_0 (by decide) ?_
  refine lv_istore_n (lv' := [(2, .int (0 : Int32)), (0, .ref (X.2.1 33)), (1, .int a1)]) hx hb dX12_findsPoint_1 rfl hl (by decide) rfl (fun ls hl => ?_)
  have lL2 : ∀ (n : Nat), ∀ (x1 : Int32) (σ2 : sT) (H : Heap) (locs : List Loc) (ls : Array Slot), Wd (wM X) (tM X) (aM X) X s σ2 H locs → lv_has ls 5 [(0, .ref (X.2.1 33)), (1, .int a1), (2, .int x1)] → fMM_findsPoint_L2 a1 n x1 σ2 = some σz → W p l e rm_fMM_findsPoint s m args below meth c H locs 0 0 (MQ below (va_Qv (fun u => u = σz) (poW (wM X) (tM X) (aM X) X sz) (aA (aM X) sz)) args s 0 0 (aA (aM X) sz)) (F0 m 2 ls []) := by
    intro n
    induction n with
    | zero =>
      intro x1 σ2 H locs ls Z hl h
      exact nomatch (show (none : Option (sT)) = some _ from h)
    | succ n3 ih2 =>
      intro x1 σ2 H locs ls Z hl h1
      unfold fMM_findsPoint_L2 at h1
      refine lv_iload_n hx hb dX12_findsPoint_2 rfl (lv_at hl 2 rfl) ?_
      refine lv_iconst (v := (3 : Int32)) hx hb dX12_findsPoint_3 (by decide) ?_
      refine lv_icmp_ge (tgt := 56) hx hb dX12_findsPoint_4 (by decide) (fun c4 => ?_) (fun c4 => ?_)
      · have h2 := dit h1 c4
        clear h1
        exact reV B Z hz h2 dX12_findsPoint_56
      · have h3 := dif h1 c4
        clear h1
        refine lv_aload_n hx hb dX12_findsPoint_7 rfl (lv_at hl 0 rfl) ?_
        refine lv_iload_n hx hb dX12_findsPoint_8 rfl (lv_at hl 1 rfl) ?_
        refine lv_iload_n hx hb dX12_findsPoint_9 rfl (lv_at hl 2 rfl) ?_
        obtain ⟨r6, σ7, hc4, h4⟩ := db2_s h3
        clear h3
        refine cV_L [.int a1, .int x1] [] B mx_yX12_laysWith (c_fMM_laysWith l X _ a1 x1 σ2 r6 σ7 hc4) kl_RX12_234 mi_yX12_laysWith (rv_33 _ _) hcl_12 Z hl rfl rfl ⟨Nat.le_of_ble_eq_true rfl, Nat.le_of_ble_eq_true rfl⟩ rfl rfl (Nat.le_of_ble_eq_true rfl) dX12_findsPoint_10 (fun H locs Z => ?_)
        clear hc4
        refine lv_lstore_n (lv' := [(3, .long r6), (0, .ref (X.2.1 33)), (1, .int a1), (2, .int x1)]) hx hb dX12_findsPoint_13 rfl hl (by decide) rfl (fun ls hl => ?_)
        refine lv_aload_n hx hb dX12_findsPoint_14 rfl (lv_at hl 1 rfl) ?_
        refine lv_iload_n hx hb dX12_findsPoint_15 rfl (lv_at hl 3 rfl) ?_
        obtain ⟨σ9, hc7, h5⟩ := db1_s h4
        clear h4
        refine cV_V [.int x1] [] B mx_yX12_solves (c_fMM_solves l X _ x1 σ7 σ9 hc7) kl_RX12_143 mi_yX12_solves (rv_33 _ _) hcl_12 Z hl rfl rfl ⟨Nat.le_of_ble_eq_true rfl, Nat.le_of_ble_eq_true rfl⟩ rfl rfl (Nat.le_of_ble_eq_true rfl) dX12_findsPoint_16 (fun H locs Z => ?_)
        clear hc7
        refine lv_aload_n hx hb dX12_findsPoint_19 rfl (lv_at hl 1 rfl) ?_
        refine lv_lload_n hx hb dX12_findsPoint_20 rfl (lv_at hl 0 rfl) ?_
        obtain ⟨σ11, hc9, h6⟩ := db1_s h5
        clear h5
        refine cV_V [.long r6] [] B mx_yX12_chooses (c_fMM_chooses l X _ r6 σ9 σ11 hc9) kl_RX12_238 mi_yX12_chooses (rv_33 _ _) hcl_12 Z hl rfl rfl ⟨Nat.le_of_ble_eq_true rfl, Nat.le_of_ble_eq_true rfl⟩ rfl rfl (Nat.le_of_ble_eq_true rfl) dX12_findsPoint_21 (fun H locs Z => ?_)
        clear hc9
        refine lv_aload_n hx hb dX12_findsPoint_24 rfl (lv_at hl 1 rfl) ?_
        refine g_33_18 B Z kf_RX12_29 dX12_findsPoint_25 ?_
        refine lv_iconst (v := (2 : Int32)) hx hb dX12_findsPoint_28 (by decide) ?_
        refine lv_iload_n hx hb dX12_findsPoint_29 rfl (lv_at hl 3 rfl) ?_
        refine lv_imul hx hb dX12_findsPoint_30 ?_
        refine lv_aload_n hx hb dX12_findsPoint_31 rfl (lv_at hl 1 rfl) ?_
        refine g_33_15 B Z kf_RX12_218 dX12_findsPoint_32 ?_
        obtain ⟨z12, h7⟩ := dck_s h6
        clear h6
        refine st_40 B Z z12 dX12_findsPoint_35 (fun H locs Z => ?_)
        obtain ⟨σ13, eσ13, h8⟩ := dlt_s h7
        clear h7
        replace Z := Wd.eq eσ13 Z
        clear eσ13
        refine lv_aload_n hx hb dX12_findsPoint_36 rfl (lv_at hl 1 rfl) ?_
        refine g_33_18 B Z kf_RX12_29 dX12_findsPoint_37 ?_
        refine lv_iconst (v := (2 : Int32)) hx hb dX12_findsPoint_40 (by decide) ?_
        refine lv_iload_n hx hb dX12_findsPoint_41 rfl (lv_at hl 3 rfl) ?_
        refine lv_imul hx hb dX12_findsPoint_42 ?_
        refine lv_iconst (v := (1 : Int32)) hx hb dX12_findsPoint_43 (by decide) ?_
        refine lv_iadd hx hb dX12_findsPoint_44 ?_
        refine lv_aload_n hx hb dX12_findsPoint_45 rfl (lv_at hl 1 rfl) ?_
        refine g_33_16 B Z kf_RX12_221 dX12_findsPoint_46 ?_
        obtain ⟨z14, h9⟩ := dck_s h8
        clear h8
        refine st_40 B Z z14 dX12_findsPoint_49 (fun H locs Z => ?_)
        obtain ⟨σ15, eσ15, h10⟩ := dlt_s h9
        clear h9
        replace Z := Wd.eq eσ15 Z
        clear eσ15
        refine lv_iinc (v := x1 + (1 : Int32)) (lv' := [(2, .int (x1 + (1 : Int32))), (3, .long r6), (0, .ref (X.2.1 33)), (1, .int a1)]) hx hb dX12_findsPoint_50 hl (k := 3) rfl (by rfl) (by decide) rfl (fun ls hl => ?_)
        refine lv_goto (tgt := 2) hx hb dX12_findsPoint_53 (by decide) ?_
        exact ih2 (x1 + (1 : Int32)) σ15 _ _ _ Z (lv_sub hl [2, 3, 0] rfl) h10
  exact lL2 FU (0 : Int32) σ _ _ _ Z (lv_sub hl [1, 2, 0] rfl) h0
theorem dX12_point_0 : decode cX12_point 0 = .ok (.aload_n 0, 1) := by decide +kernel
theorem dX12_point_1 : decode cX12_point 1 = .ok (.iload_n 1, 1) := by decide +kernel
theorem dX12_point_2 : decode cX12_point 2 = .ok (.invokevirtual 183, 3) := by decide +kernel
theorem dX12_point_5 : decode cX12_point 5 = .ok (.ifCond .eq 25, 3) := by decide +kernel
theorem dX12_point_8 : decode cX12_point 8 = .ok (.iload_n 2, 1) := by decide +kernel
theorem dX12_point_9 : decode cX12_point 9 = .ok (.i2l, 1) := by decide +kernel
theorem dX12_point_10 : decode cX12_point 10 = .ok (.lconst 0, 1) := by decide +kernel
theorem dX12_point_11 : decode cX12_point 11 = .ok (.ldc2_w 162, 3) := by decide +kernel
theorem dX12_point_14 : decode cX12_point 14 = .ok (.invokestatic 68, 3) := by decide +kernel
theorem dX12_point_17 : decode cX12_point 17 = .ok (.ifCond .eq 13, 3) := by decide +kernel
theorem dX12_point_20 : decode cX12_point 20 = .ok (.iload_n 3, 1) := by decide +kernel
theorem dX12_point_21 : decode cX12_point 21 = .ok (.i2l, 1) := by decide +kernel
theorem dX12_point_22 : decode cX12_point 22 = .ok (.lconst 0, 1) := by decide +kernel
theorem dX12_point_23 : decode cX12_point 23 = .ok (.lconst 1, 1) := by decide +kernel
theorem dX12_point_24 : decode cX12_point 24 = .ok (.invokestatic 68, 3) := by decide +kernel
theorem dX12_point_27 : decode cX12_point 27 = .ok (.ifCond .ne 11, 3) := by decide +kernel
theorem dX12_point_30 : decode cX12_point 30 = .ok (.aload_n 0, 1) := by decide +kernel
theorem dX12_point_31 : decode cX12_point 31 = .ok (.ldc 63, 2) := by decide +kernel
theorem dX12_point_33 : decode cX12_point 33 = .ok (.invokevirtual 168, 3) := by decide +kernel
theorem dX12_point_36 : decode cX12_point 36 = .ok (.i2l, 1) := by decide +kernel
theorem dX12_point_37 : decode cX12_point 37 = .ok (.lreturn, 1) := by decide +kernel
theorem dX12_point_38 : decode cX12_point 38 = .ok (.aload_n 0, 1) := by decide +kernel
theorem dX12_point_39 : decode cX12_point 39 = .ok (.iload_n 1, 1) := by decide +kernel
theorem dX12_point_40 : decode cX12_point 40 = .ok (.invokevirtual 186, 3) := by decide +kernel
theorem dX12_point_43 : decode cX12_point 43 = .ok (.ifCond .ne 11, 3) := by decide +kernel
theorem dX12_point_46 : decode cX12_point 46 = .ok (.aload_n 0, 1) := by decide +kernel
theorem dX12_point_47 : decode cX12_point 47 = .ok (.ldc 201, 2) := by decide +kernel
theorem dX12_point_49 : decode cX12_point 49 = .ok (.invokevirtual 168, 3) := by decide +kernel
theorem dX12_point_52 : decode cX12_point 52 = .ok (.i2l, 1) := by decide +kernel
theorem dX12_point_53 : decode cX12_point 53 = .ok (.lreturn, 1) := by decide +kernel
theorem dX12_point_54 : decode cX12_point 54 = .ok (.aload_n 0, 1) := by decide +kernel
theorem dX12_point_55 : decode cX12_point 55 = .ok (.iload_n 1, 1) := by decide +kernel
theorem dX12_point_56 : decode cX12_point 56 = .ok (.invokevirtual 242, 3) := by decide +kernel
theorem dX12_point_59 : decode cX12_point 59 = .ok (.aload_n 0, 1) := by decide +kernel
theorem dX12_point_60 : decode cX12_point 60 = .ok (.getfield 29, 3) := by decide +kernel
theorem dX12_point_63 : decode cX12_point 63 = .ok (.iconst 2, 1) := by decide +kernel
theorem dX12_point_64 : decode cX12_point 64 = .ok (.iload_n 2, 1) := by decide +kernel
theorem dX12_point_65 : decode cX12_point 65 = .ok (.imul, 1) := by decide +kernel
theorem dX12_point_66 : decode cX12_point 66 = .ok (.iload_n 3, 1) := by decide +kernel
theorem dX12_point_67 : decode cX12_point 67 = .ok (.iadd, 1) := by decide +kernel
theorem dX12_point_68 : decode cX12_point 68 = .ok (.laload, 1) := by decide +kernel
theorem dX12_point_69 : decode cX12_point 69 = .ok (.lreturn, 1) := by decide +kernel
def rm_fMM_point : Room := { frames := 6, cells := 0, slots := 0, locals := 189 }
set_option maxHeartbeats 4000000 in
set_option maxRecDepth 100000 in
theorem c_fMM_point (l : Launch) (X : eX) (sz : Nat) (a1 : Int32) (a2 : Int32) (a3 : Int32) (σ : sT) (rz : Int64) (σz : sT) (h0 : fMM_point a1 a2 a3 σ = some (rz, σz)) : ctL l yX12_point cX12_point 4 (some .long) rm_fMM_point [.ref (X.2.1 33), .int a1, .int a2, .int a3] (wM X) (tM X) (aM X) X sz σ rz σz := by
  refine ct_of (by decide +kernel) (Nat.le_of_ble_eq_true rfl) ?_
  intro p e s m args below meth c ls hz B hl Z
  have B : Bd p s m args meth c RX12 cX12_point 4 (some .long) := B
  have hl : lv_has ls 4 [(0, .ref (X.2.1 33)), (1, .int a1), (2, .int a2), (3, .int a3)] := hl
  have hx := B.1
  have hb := B.2.1
  unfold fMM_point at h0
  refine lv_aload_n hx hb dX12_point_0 rfl (lv_at hl 0 rfl) ?_
  refine lv_iload_n hx hb dX12_point_1 rfl (lv_at hl 1 rfl) ?_
  obtain ⟨r2, hc0, h1⟩ := db1_s h0
  clear h0
  refine cV_I [.int a1] [] B mx_yX12_isSet (c_fMM_isSet l X _ a1 σ r2 hc0) kl_RX12_183 mi_yX12_isSet (rv_33 _ _) hcl_12 Z hl rfl rfl ⟨Nat.le_of_ble_eq_true rfl, Nat.le_of_ble_eq_true rfl⟩ rfl rfl (Nat.le_of_ble_eq_true rfl) dX12_point_2 (fun H locs Z => ?_)
  clear hc0
  obtain ⟨J3, eJ3, h4⟩ := dlt_s h1
  clear h1
  have kJ3 : ∀ (H : Heap) (locs : List Loc) (ls : Array Slot), Wd (wM X) (tM X) (aM X) X s σ H locs → lv_has ls 4 [(0, .ref (X.2.1 33))] → J3 () = some (rz, σz) → W p l e rm_fMM_point s m args below meth c H locs 0 0 (MQ below (va_Ql (fun a u => a = rz ∧ u = σz) (poW (wM X) (tM X) (aM X) X sz) (aA (aM X) sz)) args s 0 0 (aA (aM X) sz)) (F0 m 30 ls []) := by
    intro  H locs ls Z hl h2
    rw [eJ3] at h2
    refine lv_aload_n hx hb dX12_point_30 rfl (lv_at hl 0 rfl) ?_
    refine lv_ldc hx hb B.2.2.2.1 (B.2.2.2.2.1 _ kc_RX12_63) dX12_point_31 ?_
    obtain ⟨r5, σ6, hc3, h3⟩ := db2_s h2
    clear h2
    refine cV_I [.int (-1000002 : Int32)] [] B mx_yX12_refuses (c_fMM_refuses l X _ (-1000002 : Int32) σ r5 σ6 hc3) kl_RX12_168 mi_yX12_refuses (rv_33 _ _) hcl_12 Z hl rfl rfl ⟨Nat.le_of_ble_eq_true rfl, Nat.le_of_ble_eq_true rfl⟩ rfl rfl (Nat.le_of_ble_eq_true rfl) dX12_point_33 (fun H locs Z => ?_)
    clear hc3
    refine lv_i2l hx hb dX12_point_36 rfl ?_
    exact reL B Z hz h3 dX12_point_37
  clear eJ3
  refine lv_if_eq (tgt := 30) hx hb dX12_point_5 (by decide) (fun c7 => ?_) (fun c7 => ?_)
  · have h5 := dit h4 c7
    clear h4
    exact kJ3  _ _ _ Z (lv_sub hl [0] rfl) h5
  · have h6 := dif h4 c7
    clear h4
    refine lv_iload_n hx hb dX12_point_8 rfl (lv_at hl 2 rfl) ?_
    refine lv_i2l hx hb dX12_point_9 rfl ?_
    refine lv_lconst (v := (0 : Int64)) hx hb dX12_point_10 (by decide) ?_
    refine lv_ldc2 hx hb B.2.2.2.1 (B.2.2.2.2.1 _ kc_RX12_162) dX12_point_11 ?_
    obtain ⟨r9, hc7, h7⟩ := db1_s h6
    clear h6
    refine cS_I [.long a2.toInt64, .long (0 : Int64), .long (2 : Int64)] [] B mx_yX12_in (c_fMM_in l X _ a2.toInt64 (0 : Int64) (2 : Int64) σ r9 hc7) kl_RX12_68 ks_yX12_in Z hl rfl rfl ⟨Nat.le_of_ble_eq_true rfl, Nat.le_of_ble_eq_true rfl⟩ rfl rfl (Nat.le_of_ble_eq_true rfl) dX12_point_14 (fun H locs Z => ?_)
    clear hc7
    refine lv_if_eq (tgt := 30) hx hb dX12_point_17 (by decide) (fun c10 => ?_) (fun c10 => ?_)
    · have h8 := dit h7 c10
      clear h7
      exact kJ3  _ _ _ Z (lv_sub hl [0] rfl) h8
    · have h9 := dif h7 c10
      clear h7
      refine lv_iload_n hx hb dX12_point_20 rfl (lv_at hl 3 rfl) ?_
      refine lv_i2l hx hb dX12_point_21 rfl ?_
      refine lv_lconst (v := (0 : Int64)) hx hb dX12_point_22 (by decide) ?_
      refine lv_lconst (v := (1 : Int64)) hx hb dX12_point_23 (by decide) ?_
      obtain ⟨r12, hc10, h10⟩ := db1_s h9
      clear h9
      refine cS_I [.long a3.toInt64, .long (0 : Int64), .long (1 : Int64)] [] B mx_yX12_in (c_fMM_in l X _ a3.toInt64 (0 : Int64) (1 : Int64) σ r12 hc10) kl_RX12_68 ks_yX12_in Z hl rfl rfl ⟨Nat.le_of_ble_eq_true rfl, Nat.le_of_ble_eq_true rfl⟩ rfl rfl (Nat.le_of_ble_eq_true rfl) dX12_point_24 (fun H locs Z => ?_)
      clear hc10
      refine lv_if_ne (tgt := 38) hx hb dX12_point_27 (by decide) (fun c13 => ?_) (fun c13 => ?_)
      · have h11 := dif h10 c13
        clear h10
        refine lv_aload_n hx hb dX12_point_38 rfl (lv_at hl 0 rfl) ?_
        refine lv_iload_n hx hb dX12_point_39 rfl (lv_at hl 1 rfl) ?_
        obtain ⟨r15, σ16, hc13, h12⟩ := db2_s h11
        clear h11
        refine cV_I [.int a1] [] B mx_yX12_canSet (c_fMM_canSet l X _ a1 σ r15 σ16 hc13) kl_RX12_186 mi_yX12_canSet (rv_33 _ _) hcl_12 Z hl rfl rfl ⟨Nat.le_of_ble_eq_true rfl, Nat.le_of_ble_eq_true rfl⟩ rfl rfl (Nat.le_of_ble_eq_true rfl) dX12_point_40 (fun H locs Z => ?_)
        clear hc13
        refine lv_if_ne (tgt := 54) hx hb dX12_point_43 (by decide) (fun c17 => ?_) (fun c17 => ?_)
        · have h13 := dif h12 c17
          clear h12
          refine lv_aload_n hx hb dX12_point_54 rfl (lv_at hl 0 rfl) ?_
          refine lv_iload_n hx hb dX12_point_55 rfl (lv_at hl 1 rfl) ?_
          obtain ⟨σ19, hc17, h14⟩ := db1_s h13
          clear h13
          refine cV_V [.int a1] [] B mx_yX12_findsPoint (c_fMM_findsPoint l X _ a1 σ16 σ19 hc17) kl_RX12_242 mi_yX12_findsPoint (rv_33 _ _) hcl_12 Z hl rfl rfl ⟨Nat.le_of_ble_eq_true rfl, Nat.le_of_ble_eq_true rfl⟩ rfl rfl (Nat.le_of_ble_eq_true rfl) dX12_point_56 (fun H locs Z => ?_)
          clear hc17
          refine lv_aload_n hx hb dX12_point_59 rfl (lv_at hl 0 rfl) ?_
          refine g_33_18 B Z kf_RX12_29 dX12_point_60 ?_
          refine lv_iconst (v := (2 : Int32)) hx hb dX12_point_63 (by decide) ?_
          refine lv_iload_n hx hb dX12_point_64 rfl (lv_at hl 2 rfl) ?_
          refine lv_imul hx hb dX12_point_65 ?_
          refine lv_iload_n hx hb dX12_point_66 rfl (lv_at hl 3 rfl) ?_
          refine lv_iadd hx hb dX12_point_67 ?_
          obtain ⟨z20, h15⟩ := dck_s h14
          clear h14
          refine ld_40 B Z z20 dX12_point_68 ?_
          exact reL B Z hz h15 dX12_point_69
        · have h16 := dit h12 c17
          clear h12
          refine lv_aload_n hx hb dX12_point_46 rfl (lv_at hl 0 rfl) ?_
          refine lv_ldc hx hb B.2.2.2.1 (B.2.2.2.2.1 _ kc_RX12_201) dX12_point_47 ?_
          obtain ⟨r22, σ23, hc20, h17⟩ := db2_s h16
          clear h16
          refine cV_I [.int (-1000003 : Int32)] [] B mx_yX12_refuses (c_fMM_refuses l X _ (-1000003 : Int32) σ16 r22 σ23 hc20) kl_RX12_168 mi_yX12_refuses (rv_33 _ _) hcl_12 Z hl rfl rfl ⟨Nat.le_of_ble_eq_true rfl, Nat.le_of_ble_eq_true rfl⟩ rfl rfl (Nat.le_of_ble_eq_true rfl) dX12_point_49 (fun H locs Z => ?_)
          clear hc20
          refine lv_i2l hx hb dX12_point_52 rfl ?_
          exact reL B Z hz h17 dX12_point_53
      · have h18 := dit h10 c13
        clear h10
        exact kJ3  _ _ _ Z (lv_sub hl [0] rfl) h18
theorem dX12_coreOf_0 : decode cX12_coreOf 0 = .ok (.iload_n 1, 1) := by decide +kernel
theorem dX12_coreOf_1 : decode cX12_coreOf 1 = .ok (.istore_n 2, 1) := by decide +kernel
theorem dX12_coreOf_2 : decode cX12_coreOf 2 = .ok (.aload_n 0, 1) := by decide +kernel
theorem dX12_coreOf_3 : decode cX12_coreOf 3 = .ok (.getfield 7, 3) := by decide +kernel
theorem dX12_coreOf_6 : decode cX12_coreOf 6 = .ok (.iconst 0, 1) := by decide +kernel
theorem dX12_coreOf_7 : decode cX12_coreOf 7 = .ok (.iaload, 1) := by decide +kernel
theorem dX12_coreOf_8 : decode cX12_coreOf 8 = .ok (.iconst 1, 1) := by decide +kernel
theorem dX12_coreOf_9 : decode cX12_coreOf 9 = .ok (.isub, 1) := by decide +kernel
theorem dX12_coreOf_10 : decode cX12_coreOf 10 = .ok (.istore_n 3, 1) := by decide +kernel
theorem dX12_coreOf_11 : decode cX12_coreOf 11 = .ok (.iload_n 3, 1) := by decide +kernel
theorem dX12_coreOf_12 : decode cX12_coreOf 12 = .ok (.ifCond .lt 39, 3) := by decide +kernel
theorem dX12_coreOf_15 : decode cX12_coreOf 15 = .ok (.iload_n 2, 1) := by decide +kernel
theorem dX12_coreOf_16 : decode cX12_coreOf 16 = .ok (.iload_n 3, 1) := by decide +kernel
theorem dX12_coreOf_17 : decode cX12_coreOf 17 = .ok (.invokestatic 95, 3) := by decide +kernel
theorem dX12_coreOf_20 : decode cX12_coreOf 20 = .ok (.ifCond .eq 25, 3) := by decide +kernel
theorem dX12_coreOf_23 : decode cX12_coreOf 23 = .ok (.aload_n 0, 1) := by decide +kernel
theorem dX12_coreOf_24 : decode cX12_coreOf 24 = .ok (.iload_n 2, 1) := by decide +kernel
theorem dX12_coreOf_25 : decode cX12_coreOf 25 = .ok (.iconst 1, 1) := by decide +kernel
theorem dX12_coreOf_26 : decode cX12_coreOf 26 = .ok (.iload_n 3, 1) := by decide +kernel
theorem dX12_coreOf_27 : decode cX12_coreOf 27 = .ok (.ishl, 1) := by decide +kernel
theorem dX12_coreOf_28 : decode cX12_coreOf 28 = .ok (.iconst (-1), 1) := by decide +kernel
theorem dX12_coreOf_29 : decode cX12_coreOf 29 = .ok (.ixor, 1) := by decide +kernel
theorem dX12_coreOf_30 : decode cX12_coreOf 30 = .ok (.iand, 1) := by decide +kernel
theorem dX12_coreOf_31 : decode cX12_coreOf 31 = .ok (.invokevirtual 186, 3) := by decide +kernel
theorem dX12_coreOf_34 : decode cX12_coreOf 34 = .ok (.ifCond .ne 11, 3) := by decide +kernel
theorem dX12_coreOf_37 : decode cX12_coreOf 37 = .ok (.iload_n 2, 1) := by decide +kernel
theorem dX12_coreOf_38 : decode cX12_coreOf 38 = .ok (.iconst 1, 1) := by decide +kernel
theorem dX12_coreOf_39 : decode cX12_coreOf 39 = .ok (.iload_n 3, 1) := by decide +kernel
theorem dX12_coreOf_40 : decode cX12_coreOf 40 = .ok (.ishl, 1) := by decide +kernel
theorem dX12_coreOf_41 : decode cX12_coreOf 41 = .ok (.iconst (-1), 1) := by decide +kernel
theorem dX12_coreOf_42 : decode cX12_coreOf 42 = .ok (.ixor, 1) := by decide +kernel
theorem dX12_coreOf_43 : decode cX12_coreOf 43 = .ok (.iand, 1) := by decide +kernel
theorem dX12_coreOf_44 : decode cX12_coreOf 44 = .ok (.istore_n 2, 1) := by decide +kernel
theorem dX12_coreOf_45 : decode cX12_coreOf 45 = .ok (.iinc 3 (-1), 3) := by decide +kernel
theorem dX12_coreOf_48 : decode cX12_coreOf 48 = .ok (.goto (-37), 3) := by decide +kernel
theorem dX12_coreOf_51 : decode cX12_coreOf 51 = .ok (.iload_n 2, 1) := by decide +kernel
theorem dX12_coreOf_52 : decode cX12_coreOf 52 = .ok (.ireturn, 1) := by decide +kernel
def rm_fMM_coreOf : Room := { frames := 6, cells := 0, slots := 0, locals := 189 }
set_option maxHeartbeats 4000000 in
set_option maxRecDepth 100000 in
theorem c_fMM_coreOf (l : Launch) (X : eX) (sz : Nat) (a1 : Int32) (σ : sT) (rz : Int32) (σz : sT) (h0 : fMM_coreOf a1 σ = some (rz, σz)) : ctI l yX12_coreOf cX12_coreOf 4 (some .int) rm_fMM_coreOf [.ref (X.2.1 33), .int a1] (wM X) (tM X) (aM X) X sz σ rz σz := by
  refine ct_of (by decide +kernel) (Nat.le_of_ble_eq_true rfl) ?_
  intro p e s m args below meth c ls hz B hl Z
  have B : Bd p s m args meth c RX12 cX12_coreOf 4 (some .int) := B
  have hl : lv_has ls 4 [(0, .ref (X.2.1 33)), (1, .int a1)] := hl
  have hx := B.1
  have hb := B.2.1
  unfold fMM_coreOf at h0
  refine lv_iload_n hx hb dX12_coreOf_0 rfl (lv_at hl 1 rfl) ?_
  refine lv_istore_n (lv' := [(2, .int a1), (0, .ref (X.2.1 33)), (1, .int a1)]) hx hb dX12_coreOf_1 rfl hl (by decide) rfl (fun ls hl => ?_)
  refine lv_aload_n hx hb dX12_coreOf_2 rfl (lv_at hl 1 rfl) ?_
  refine g_33_0 B Z kf_RX12_7 dX12_coreOf_3 ?_
  refine lv_iconst (v := (0 : Int32)) hx hb dX12_coreOf_6 (by decide) ?_
  obtain ⟨z1, h1⟩ := dck_s h0
  clear h0
  refine ld_34 B Z z1 dX12_coreOf_7 ?_
  refine lv_iconst (v := (1 : Int32)) hx hb dX12_coreOf_8 (by decide) ?_
  refine lv_isub hx hb dX12_coreOf_9 ?_
  refine lv_topi (fun x2 ex2 => ?_)
  have h2 := dlt_e ex2 h1
  clear ex2 h1
  refine lv_istore_n (lv' := [(3, .int x2), (2, .int a1), (0, .ref (X.2.1 33)), (1, .int a1)]) hx hb dX12_coreOf_10 rfl hl (by decide) rfl (fun ls hl => ?_)
  have lL11 : ∀ (n : Nat), ∀ (x3 : Int32) (x4 : Int32) (σ5 : sT) (H : Heap) (locs : List Loc) (ls : Array Slot), Wd (wM X) (tM X) (aM X) X s σ5 H locs → lv_has ls 4 [(0, .ref (X.2.1 33)), (2, .int x3), (3, .int x4)] → fMM_coreOf_L11 n x3 x4 σ5 = some (rz, σz) → W p l e rm_fMM_coreOf s m args below meth c H locs 0 0 (MQ below (va_Qi (fun a u => a = rz ∧ u = σz) (poW (wM X) (tM X) (aM X) X sz) (aA (aM X) sz)) args s 0 0 (aA (aM X) sz)) (F0 m 11 ls []) := by
    intro n
    induction n with
    | zero =>
      intro x3 x4 σ5 H locs ls Z hl h
      exact nomatch (show (none : Option (Int32 × sT)) = some _ from h)
    | succ n6 ih9 =>
      intro x3 x4 σ5 H locs ls Z hl h3
      unfold fMM_coreOf_L11 at h3
      refine lv_iload_n hx hb dX12_coreOf_11 rfl (lv_at hl 2 rfl) ?_
      refine lv_if_lt (tgt := 51) hx hb dX12_coreOf_12 (by decide) (fun c7 => ?_) (fun c7 => ?_)
      · have h4 := dit h3 c7
        clear h3
        refine lv_iload_n hx hb dX12_coreOf_51 rfl (lv_at hl 1 rfl) ?_
        exact reI B Z rfl hz h4 dX12_coreOf_52
      · have h5 := dif h3 c7
        clear h3
        refine lv_iload_n hx hb dX12_coreOf_15 rfl (lv_at hl 1 rfl) ?_
        refine lv_iload_n hx hb dX12_coreOf_16 rfl (lv_at hl 2 rfl) ?_
        obtain ⟨r9, hc7, h6⟩ := db1_s h5
        clear h5
        refine cS_I [.int x3, .int x4] [] B mx_yX12_has (c_fMM_has l X _ x3 x4 σ5 r9 hc7) kl_RX12_95 ks_yX12_has Z hl rfl rfl ⟨Nat.le_of_ble_eq_true rfl, Nat.le_of_ble_eq_true rfl⟩ rfl rfl (Nat.le_of_ble_eq_true rfl) dX12_coreOf_17 (fun H locs Z => ?_)
        clear hc7
        refine lv_if_eq (tgt := 45) hx hb dX12_coreOf_20 (by decide) (fun c10 => ?_) (fun c10 => ?_)
        · have h7 := dit h6 c10
          clear h6
          refine lv_iinc (v := x4 + (-1 : Int32)) (lv' := [(3, .int (x4 + (-1 : Int32))), (0, .ref (X.2.1 33)), (2, .int x3)]) hx hb dX12_coreOf_45 hl (k := 2) rfl (by rfl) (by decide) rfl (fun ls hl => ?_)
          refine lv_goto (tgt := 11) hx hb dX12_coreOf_48 (by decide) ?_
          exact ih9 x3 (x4 + (-1 : Int32)) σ5 _ _ _ Z (lv_sub hl [1, 2, 0] rfl) h7
        · have h8 := dif h6 c10
          clear h6
          refine lv_aload_n hx hb dX12_coreOf_23 rfl (lv_at hl 0 rfl) ?_
          refine lv_iload_n hx hb dX12_coreOf_24 rfl (lv_at hl 1 rfl) ?_
          refine lv_iconst (v := (1 : Int32)) hx hb dX12_coreOf_25 (by decide) ?_
          refine lv_iload_n hx hb dX12_coreOf_26 rfl (lv_at hl 2 rfl) ?_
          refine lv_ishl hx hb dX12_coreOf_27 ?_
          refine lv_iconst (v := (-1 : Int32)) hx hb dX12_coreOf_28 (by decide) ?_
          refine lv_ixor hx hb dX12_coreOf_29 ?_
          refine lv_iand hx hb dX12_coreOf_30 ?_
          obtain ⟨r12, σ13, hc10, h9⟩ := db2_s h8
          clear h8
          refine cV_I [.int (x3 &&& (((1 : Int32) <<< (x4 &&& 31)) ^^^ (-1 : Int32)))] [] B mx_yX12_canSet (c_fMM_canSet l X _ (x3 &&& (((1 : Int32) <<< (x4 &&& 31)) ^^^ (-1 : Int32))) σ5 r12 σ13 hc10) kl_RX12_186 mi_yX12_canSet (rv_33 _ _) hcl_12 Z hl rfl rfl ⟨Nat.le_of_ble_eq_true rfl, Nat.le_of_ble_eq_true rfl⟩ rfl rfl (Nat.le_of_ble_eq_true rfl) dX12_coreOf_31 (fun H locs Z => ?_)
          clear hc10
          refine lv_if_ne (tgt := 45) hx hb dX12_coreOf_34 (by decide) (fun c14 => ?_) (fun c14 => ?_)
          · have h10 := dif h9 c14
            clear h9
            refine lv_iinc (v := x4 + (-1 : Int32)) (lv' := [(3, .int (x4 + (-1 : Int32))), (0, .ref (X.2.1 33)), (2, .int x3)]) hx hb dX12_coreOf_45 hl (k := 2) rfl (by rfl) (by decide) rfl (fun ls hl => ?_)
            refine lv_goto (tgt := 11) hx hb dX12_coreOf_48 (by decide) ?_
            exact ih9 x3 (x4 + (-1 : Int32)) σ13 _ _ _ Z (lv_sub hl [1, 2, 0] rfl) h10
          · have h11 := dit h9 c14
            clear h9
            refine lv_iload_n hx hb dX12_coreOf_37 rfl (lv_at hl 1 rfl) ?_
            refine lv_iconst (v := (1 : Int32)) hx hb dX12_coreOf_38 (by decide) ?_
            refine lv_iload_n hx hb dX12_coreOf_39 rfl (lv_at hl 2 rfl) ?_
            refine lv_ishl hx hb dX12_coreOf_40 ?_
            refine lv_iconst (v := (-1 : Int32)) hx hb dX12_coreOf_41 (by decide) ?_
            refine lv_ixor hx hb dX12_coreOf_42 ?_
            refine lv_iand hx hb dX12_coreOf_43 ?_
            refine lv_topi (fun x15 ex15 => ?_)
            have h12 := dlt_e ex15 h11
            clear ex15 h11
            refine lv_istore_n (lv' := [(2, .int x15), (0, .ref (X.2.1 33)), (3, .int x4)]) hx hb dX12_coreOf_44 rfl hl (by decide) rfl (fun ls hl => ?_)
            refine lv_iinc (v := x4 + (-1 : Int32)) (lv' := [(3, .int (x4 + (-1 : Int32))), (2, .int x15), (0, .ref (X.2.1 33))]) hx hb dX12_coreOf_45 hl (k := 2) rfl (by rfl) (by decide) rfl (fun ls hl => ?_)
            refine lv_goto (tgt := 11) hx hb dX12_coreOf_48 (by decide) ?_
            exact ih9 x15 (x4 + (-1 : Int32)) σ13 _ _ _ Z (lv_sub hl [2, 1, 0] rfl) h12
  exact lL11 FU a1 x2 σ _ _ _ Z (lv_sub hl [2, 1, 0] rfl) h2
theorem dX12_core_0 : decode cX12_core 0 = .ok (.aload_n 0, 1) := by decide +kernel
theorem dX12_core_1 : decode cX12_core 1 = .ok (.iload_n 1, 1) := by decide +kernel
theorem dX12_core_2 : decode cX12_core 2 = .ok (.invokevirtual 183, 3) := by decide +kernel
theorem dX12_core_5 : decode cX12_core 5 = .ok (.ifCond .ne 10, 3) := by decide +kernel
theorem dX12_core_8 : decode cX12_core 8 = .ok (.aload_n 0, 1) := by decide +kernel
theorem dX12_core_9 : decode cX12_core 9 = .ok (.ldc 63, 2) := by decide +kernel
theorem dX12_core_11 : decode cX12_core 11 = .ok (.invokevirtual 168, 3) := by decide +kernel
theorem dX12_core_14 : decode cX12_core 14 = .ok (.ireturn, 1) := by decide +kernel
theorem dX12_core_15 : decode cX12_core 15 = .ok (.aload_n 0, 1) := by decide +kernel
theorem dX12_core_16 : decode cX12_core 16 = .ok (.iload_n 1, 1) := by decide +kernel
theorem dX12_core_17 : decode cX12_core 17 = .ok (.invokevirtual 186, 3) := by decide +kernel
theorem dX12_core_20 : decode cX12_core 20 = .ok (.ifCond .eq 12, 3) := by decide +kernel
theorem dX12_core_23 : decode cX12_core 23 = .ok (.aload_n 0, 1) := by decide +kernel
theorem dX12_core_24 : decode cX12_core 24 = .ok (.ldc 201, 2) := by decide +kernel
theorem dX12_core_26 : decode cX12_core 26 = .ok (.invokevirtual 168, 3) := by decide +kernel
theorem dX12_core_29 : decode cX12_core 29 = .ok (.goto 8, 3) := by decide +kernel
theorem dX12_core_32 : decode cX12_core 32 = .ok (.aload_n 0, 1) := by decide +kernel
theorem dX12_core_33 : decode cX12_core 33 = .ok (.iload_n 1, 1) := by decide +kernel
theorem dX12_core_34 : decode cX12_core 34 = .ok (.invokevirtual 245, 3) := by decide +kernel
theorem dX12_core_37 : decode cX12_core 37 = .ok (.ireturn, 1) := by decide +kernel
def rm_fMM_core : Room := { frames := 7, cells := 0, slots := 0, locals := 212 }
set_option maxHeartbeats 4000000 in
set_option maxRecDepth 100000 in
theorem c_fMM_core (l : Launch) (X : eX) (sz : Nat) (a1 : Int32) (σ : sT) (rz : Int32) (σz : sT) (h0 : fMM_core a1 σ = some (rz, σz)) : ctI l yX12_core cX12_core 2 (some .int) rm_fMM_core [.ref (X.2.1 33), .int a1] (wM X) (tM X) (aM X) X sz σ rz σz := by
  refine ct_of (by decide +kernel) (Nat.le_of_ble_eq_true rfl) ?_
  intro p e s m args below meth c ls hz B hl Z
  have B : Bd p s m args meth c RX12 cX12_core 2 (some .int) := B
  have hl : lv_has ls 2 [(0, .ref (X.2.1 33)), (1, .int a1)] := hl
  have hx := B.1
  have hb := B.2.1
  unfold fMM_core at h0
  refine lv_aload_n hx hb dX12_core_0 rfl (lv_at hl 0 rfl) ?_
  refine lv_iload_n hx hb dX12_core_1 rfl (lv_at hl 1 rfl) ?_
  obtain ⟨r2, hc0, h1⟩ := db1_s h0
  clear h0
  refine cV_I [.int a1] [] B mx_yX12_isSet (c_fMM_isSet l X _ a1 σ r2 hc0) kl_RX12_183 mi_yX12_isSet (rv_33 _ _) hcl_12 Z hl rfl rfl ⟨Nat.le_of_ble_eq_true rfl, Nat.le_of_ble_eq_true rfl⟩ rfl rfl (Nat.le_of_ble_eq_true rfl) dX12_core_2 (fun H locs Z => ?_)
  clear hc0
  refine lv_if_ne (tgt := 15) hx hb dX12_core_5 (by decide) (fun c3 => ?_) (fun c3 => ?_)
  · have h2 := dif h1 c3
    clear h1
    refine lv_aload_n hx hb dX12_core_15 rfl (lv_at hl 0 rfl) ?_
    refine lv_iload_n hx hb dX12_core_16 rfl (lv_at hl 1 rfl) ?_
    obtain ⟨r5, σ6, hc3, h3⟩ := db2_s h2
    clear h2
    refine cV_I [.int a1] [] B mx_yX12_canSet (c_fMM_canSet l X _ a1 σ r5 σ6 hc3) kl_RX12_186 mi_yX12_canSet (rv_33 _ _) hcl_12 Z hl rfl rfl ⟨Nat.le_of_ble_eq_true rfl, Nat.le_of_ble_eq_true rfl⟩ rfl rfl (Nat.le_of_ble_eq_true rfl) dX12_core_17 (fun H locs Z => ?_)
    clear hc3
    refine lv_if_eq (tgt := 32) hx hb dX12_core_20 (by decide) (fun c7 => ?_) (fun c7 => ?_)
    · have h4 := dit h3 c7
      clear h3
      refine lv_aload_n hx hb dX12_core_32 rfl (lv_at hl 0 rfl) ?_
      refine lv_iload_n hx hb dX12_core_33 rfl (lv_at hl 1 rfl) ?_
      obtain ⟨r9, σ10, hc7, h5⟩ := db2_s h4
      clear h4
      refine cV_I [.int a1] [] B mx_yX12_coreOf (c_fMM_coreOf l X _ a1 σ6 r9 σ10 hc7) kl_RX12_245 mi_yX12_coreOf (rv_33 _ _) hcl_12 Z hl rfl rfl ⟨Nat.le_of_ble_eq_true rfl, Nat.le_of_ble_eq_true rfl⟩ rfl rfl (Nat.le_of_ble_eq_true rfl) dX12_core_34 (fun H locs Z => ?_)
      clear hc7
      exact reI B Z rfl hz h5 dX12_core_37
    · have h6 := dif h3 c7
      clear h3
      refine lv_aload_n hx hb dX12_core_23 rfl (lv_at hl 0 rfl) ?_
      refine lv_ldc hx hb B.2.2.2.1 (B.2.2.2.2.1 _ kc_RX12_201) dX12_core_24 ?_
      obtain ⟨r12, σ13, hc10, h7⟩ := db2_s h6
      clear h6
      refine cV_I [.int (-1000003 : Int32)] [] B mx_yX12_refuses (c_fMM_refuses l X _ (-1000003 : Int32) σ6 r12 σ13 hc10) kl_RX12_168 mi_yX12_refuses (rv_33 _ _) hcl_12 Z hl rfl rfl ⟨Nat.le_of_ble_eq_true rfl, Nat.le_of_ble_eq_true rfl⟩ rfl rfl (Nat.le_of_ble_eq_true rfl) dX12_core_26 (fun H locs Z => ?_)
      clear hc10
      refine lv_goto (tgt := 37) hx hb dX12_core_29 (by decide) ?_
      exact reI B Z rfl hz h7 dX12_core_37
  · have h8 := dit h1 c3
    clear h1
    refine lv_aload_n hx hb dX12_core_8 rfl (lv_at hl 0 rfl) ?_
    refine lv_ldc hx hb B.2.2.2.1 (B.2.2.2.2.1 _ kc_RX12_63) dX12_core_9 ?_
    obtain ⟨r15, σ16, hc13, h9⟩ := db2_s h8
    clear h8
    refine cV_I [.int (-1000002 : Int32)] [] B mx_yX12_refuses (c_fMM_refuses l X _ (-1000002 : Int32) σ r15 σ16 hc13) kl_RX12_168 mi_yX12_refuses (rv_33 _ _) hcl_12 Z hl rfl rfl ⟨Nat.le_of_ble_eq_true rfl, Nat.le_of_ble_eq_true rfl⟩ rfl rfl (Nat.le_of_ble_eq_true rfl) dX12_core_11 (fun H locs Z => ?_)
    clear hc13
    exact reI B Z rfl hz h9 dX12_core_14
theorem dX12_number_0 : decode cX12_number 0 = .ok (.aload_n 0, 1) := by decide +kernel
theorem dX12_number_1 : decode cX12_number 1 = .ok (.aload_n 0, 1) := by decide +kernel
theorem dX12_number_2 : decode cX12_number 2 = .ok (.getfield 32, 3) := by decide +kernel
theorem dX12_number_5 : decode cX12_number 5 = .ok (.iload_n 1, 1) := by decide +kernel
theorem dX12_number_6 : decode cX12_number 6 = .ok (.iaload, 1) := by decide +kernel
theorem dX12_number_7 : decode cX12_number 7 = .ok (.iload_n 2, 1) := by decide +kernel
theorem dX12_number_8 : decode cX12_number 8 = .ok (.invokevirtual 87, 3) := by decide +kernel
theorem dX12_number_11 : decode cX12_number 11 = .ok (.i2l, 1) := by decide +kernel
theorem dX12_number_12 : decode cX12_number 12 = .ok (.lreturn, 1) := by decide +kernel
def rm_fMM_number : Room := { frames := 2, cells := 0, slots := 0, locals := 82 }
set_option maxHeartbeats 4000000 in
set_option maxRecDepth 100000 in
theorem c_fMM_number (l : Launch) (X : eX) (sz : Nat) (a1 : Int32) (a2 : Int32) (σ : sT) (rz : Int64) (h0 : fMM_number a1 a2 σ = some rz) : ctL l yX12_number cX12_number 3 (some .long) rm_fMM_number [.ref (X.2.1 33), .int a1, .int a2] (wM X) (tM X) (aM X) X sz σ rz σ := by
  refine ct_of (by decide +kernel) (Nat.le_of_ble_eq_true rfl) ?_
  intro p e s m args below meth c ls hz B hl Z
  have B : Bd p s m args meth c RX12 cX12_number 3 (some .long) := B
  have hl : lv_has ls 3 [(0, .ref (X.2.1 33)), (1, .int a1), (2, .int a2)] := hl
  have hx := B.1
  have hb := B.2.1
  unfold fMM_number at h0
  refine lv_aload_n hx hb dX12_number_0 rfl (lv_at hl 0 rfl) ?_
  refine lv_aload_n hx hb dX12_number_1 rfl (lv_at hl 0 rfl) ?_
  refine g_33_19 B Z kf_RX12_32 dX12_number_2 ?_
  refine lv_iload_n hx hb dX12_number_5 rfl (lv_at hl 1 rfl) ?_
  obtain ⟨z1, h1⟩ := dck_s h0
  clear h0
  refine ld_41 B Z z1 dX12_number_6 ?_
  refine lv_iload_n hx hb dX12_number_7 rfl (lv_at hl 2 rfl) ?_
  obtain ⟨r3, hc1, h2⟩ := db1_s h1
  clear h1
  refine cV_I [.int (σ.1 41 a1.toNatClampNeg), .int a2] [] B mx_yX12_at (c_fMM_at l X _ (σ.1 41 a1.toNatClampNeg) a2 σ r3 hc1) kl_RX12_87 mi_yX12_at (rv_33 _ _) hcl_12 Z hl rfl rfl ⟨Nat.le_of_ble_eq_true rfl, Nat.le_of_ble_eq_true rfl⟩ rfl rfl (Nat.le_of_ble_eq_true rfl) dX12_number_8 (fun H locs Z => ?_)
  clear hc1
  refine lv_i2l hx hb dX12_number_11 rfl ?_
  exact reL B Z hz (congrArg (Option.map (fun q => (q, σ))) h2) dX12_number_12
