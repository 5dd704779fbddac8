theorem dX12_takesSome_0 : decode cX12_takesSome 0 = .ok (.aload_n 0, 1) := by decide +kernel
theorem dX12_takesSome_1 : decode cX12_takesSome 1 = .ok (.getfield 251, 3) := by decide +kernel
theorem dX12_takesSome_4 : decode cX12_takesSome 4 = .ok (.iconst 1, 1) := by decide +kernel
theorem dX12_takesSome_5 : decode cX12_takesSome 5 = .ok (.if_icmp .ne 13, 3) := by decide +kernel
theorem dX12_takesSome_8 : decode cX12_takesSome 8 = .ok (.aload_n 0, 1) := by decide +kernel
theorem dX12_takesSome_9 : decode cX12_takesSome 9 = .ok (.getfield 35, 3) := by decide +kernel
theorem dX12_takesSome_12 : decode cX12_takesSome 12 = .ok (.iconst 0, 1) := by decide +kernel
theorem dX12_takesSome_13 : decode cX12_takesSome 13 = .ok (.lconst 1, 1) := by decide +kernel
theorem dX12_takesSome_14 : decode cX12_takesSome 14 = .ok (.lastore, 1) := by decide +kernel
theorem dX12_takesSome_15 : decode cX12_takesSome 15 = .ok (.goto 169, 3) := by decide +kernel
theorem dX12_takesSome_18 : decode cX12_takesSome 18 = .ok (.aload_n 0, 1) := by decide +kernel
theorem dX12_takesSome_19 : decode cX12_takesSome 19 = .ok (.getfield 251, 3) := by decide +kernel
theorem dX12_takesSome_22 : decode cX12_takesSome 22 = .ok (.iconst 2, 1) := by decide +kernel
theorem dX12_takesSome_23 : decode cX12_takesSome 23 = .ok (.if_icmp .ne 63, 3) := by decide +kernel
theorem dX12_takesSome_26 : decode cX12_takesSome 26 = .ok (.aload_n 0, 1) := by decide +kernel
theorem dX12_takesSome_27 : decode cX12_takesSome 27 = .ok (.iconst 0, 1) := by decide +kernel
theorem dX12_takesSome_28 : decode cX12_takesSome 28 = .ok (.iconst 0, 1) := by decide +kernel
theorem dX12_takesSome_29 : decode cX12_takesSome 29 = .ok (.invokevirtual 248, 3) := by decide +kernel
theorem dX12_takesSome_32 : decode cX12_takesSome 32 = .ok (.lconst 0, 1) := by decide +kernel
theorem dX12_takesSome_33 : decode cX12_takesSome 33 = .ok (.lcmp, 1) := by decide +kernel
theorem dX12_takesSome_34 : decode cX12_takesSome 34 = .ok (.ifCond .eq 7, 3) := by decide +kernel
theorem dX12_takesSome_37 : decode cX12_takesSome 37 = .ok (.iconst 0, 1) := by decide +kernel
theorem dX12_takesSome_38 : decode cX12_takesSome 38 = .ok (.goto 19, 3) := by decide +kernel
theorem dX12_takesSome_41 : decode cX12_takesSome 41 = .ok (.aload_n 0, 1) := by decide +kernel
theorem dX12_takesSome_42 : decode cX12_takesSome 42 = .ok (.iconst 0, 1) := by decide +kernel
theorem dX12_takesSome_43 : decode cX12_takesSome 43 = .ok (.iconst 1, 1) := by decide +kernel
theorem dX12_takesSome_44 : decode cX12_takesSome 44 = .ok (.invokevirtual 248, 3) := by decide +kernel
theorem dX12_takesSome_47 : decode cX12_takesSome 47 = .ok (.lconst 0, 1) := by decide +kernel
theorem dX12_takesSome_48 : decode cX12_takesSome 48 = .ok (.lcmp, 1) := by decide +kernel
theorem dX12_takesSome_49 : decode cX12_takesSome 49 = .ok (.ifCond .eq 7, 3) := by decide +kernel
theorem dX12_takesSome_52 : decode cX12_takesSome 52 = .ok (.iconst 1, 1) := by decide +kernel
theorem dX12_takesSome_53 : decode cX12_takesSome 53 = .ok (.goto 4, 3) := by decide +kernel
theorem dX12_takesSome_56 : decode cX12_takesSome 56 = .ok (.iconst 2, 1) := by decide +kernel
theorem dX12_takesSome_57 : decode cX12_takesSome 57 = .ok (.istore_n 1, 1) := by decide +kernel
theorem dX12_takesSome_58 : decode cX12_takesSome 58 = .ok (.aload_n 0, 1) := by decide +kernel
theorem dX12_takesSome_59 : decode cX12_takesSome 59 = .ok (.getfield 35, 3) := by decide +kernel
theorem dX12_takesSome_62 : decode cX12_takesSome 62 = .ok (.iconst 0, 1) := by decide +kernel
theorem dX12_takesSome_63 : decode cX12_takesSome 63 = .ok (.aload_n 0, 1) := by decide +kernel
theorem dX12_takesSome_64 : decode cX12_takesSome 64 = .ok (.iconst 1, 1) := by decide +kernel
theorem dX12_takesSome_65 : decode cX12_takesSome 65 = .ok (.iload_n 1, 1) := by decide +kernel
theorem dX12_takesSome_66 : decode cX12_takesSome 66 = .ok (.invokevirtual 248, 3) := by decide +kernel
theorem dX12_takesSome_69 : decode cX12_takesSome 69 = .ok (.lastore, 1) := by decide +kernel
theorem dX12_takesSome_70 : decode cX12_takesSome 70 = .ok (.aload_n 0, 1) := by decide +kernel
theorem dX12_takesSome_71 : decode cX12_takesSome 71 = .ok (.getfield 35, 3) := by decide +kernel
theorem dX12_takesSome_74 : decode cX12_takesSome 74 = .ok (.iconst 1, 1) := by decide +kernel
theorem dX12_takesSome_75 : decode cX12_takesSome 75 = .ok (.aload_n 0, 1) := by decide +kernel
theorem dX12_takesSome_76 : decode cX12_takesSome 76 = .ok (.iconst 0, 1) := by decide +kernel
theorem dX12_takesSome_77 : decode cX12_takesSome 77 = .ok (.iload_n 1, 1) := by decide +kernel
theorem dX12_takesSome_78 : decode cX12_takesSome 78 = .ok (.invokevirtual 248, 3) := by decide +kernel
theorem dX12_takesSome_81 : decode cX12_takesSome 81 = .ok (.lneg, 1) := by decide +kernel
theorem dX12_takesSome_82 : decode cX12_takesSome 82 = .ok (.lastore, 1) := by decide +kernel
theorem dX12_takesSome_83 : decode cX12_takesSome 83 = .ok (.goto 101, 3) := by decide +kernel
theorem dX12_takesSome_86 : decode cX12_takesSome 86 = .ok (.aload_n 0, 1) := by decide +kernel
theorem dX12_takesSome_87 : decode cX12_takesSome 87 = .ok (.getfield 251, 3) := by decide +kernel
theorem dX12_takesSome_90 : decode cX12_takesSome 90 = .ok (.iconst 3, 1) := by decide +kernel
theorem dX12_takesSome_91 : decode cX12_takesSome 91 = .ok (.if_icmp .ne 39, 3) := by decide +kernel
theorem dX12_takesSome_94 : decode cX12_takesSome 94 = .ok (.aload_n 0, 1) := by decide +kernel
theorem dX12_takesSome_95 : decode cX12_takesSome 95 = .ok (.iconst 0, 1) := by decide +kernel
theorem dX12_takesSome_96 : decode cX12_takesSome 96 = .ok (.iconst 1, 1) := by decide +kernel
theorem dX12_takesSome_97 : decode cX12_takesSome 97 = .ok (.invokevirtual 254, 3) := by decide +kernel
theorem dX12_takesSome_100 : decode cX12_takesSome 100 = .ok (.ifCond .ne 21, 3) := by decide +kernel
theorem dX12_takesSome_103 : decode cX12_takesSome 103 = .ok (.aload_n 0, 1) := by decide +kernel
theorem dX12_takesSome_104 : decode cX12_takesSome 104 = .ok (.iconst 1, 1) := by decide +kernel
theorem dX12_takesSome_105 : decode cX12_takesSome 105 = .ok (.iconst 2, 1) := by decide +kernel
theorem dX12_takesSome_106 : decode cX12_takesSome 106 = .ok (.invokevirtual 254, 3) := by decide +kernel
theorem dX12_takesSome_109 : decode cX12_takesSome 109 = .ok (.ifCond .ne 12, 3) := by decide +kernel
theorem dX12_takesSome_112 : decode cX12_takesSome 112 = .ok (.aload_n 0, 1) := by decide +kernel
theorem dX12_takesSome_113 : decode cX12_takesSome 113 = .ok (.iconst 0, 1) := by decide +kernel
theorem dX12_takesSome_114 : decode cX12_takesSome 114 = .ok (.iconst 2, 1) := by decide +kernel
theorem dX12_takesSome_115 : decode cX12_takesSome 115 = .ok (.invokevirtual 254, 3) := by decide +kernel
theorem dX12_takesSome_118 : decode cX12_takesSome 118 = .ok (.ifCond .eq 7, 3) := by decide +kernel
theorem dX12_takesSome_121 : decode cX12_takesSome 121 = .ok (.iconst 1, 1) := by decide +kernel
theorem dX12_takesSome_122 : decode cX12_takesSome 122 = .ok (.goto 4, 3) := by decide +kernel
theorem dX12_takesSome_125 : decode cX12_takesSome 125 = .ok (.iconst 0, 1) := by decide +kernel
theorem dX12_takesSome_126 : decode cX12_takesSome 126 = .ok (.istore_n 1, 1) := by decide +kernel
theorem dX12_takesSome_127 : decode cX12_takesSome 127 = .ok (.goto 57, 3) := by decide +kernel
theorem dX12_takesSome_130 : decode cX12_takesSome 130 = .ok (.aload_n 0, 1) := by decide +kernel
theorem dX12_takesSome_131 : decode cX12_takesSome 131 = .ok (.getfield 35, 3) := by decide +kernel
theorem dX12_takesSome_134 : decode cX12_takesSome 134 = .ok (.iconst 0, 1) := by decide +kernel
theorem dX12_takesSome_135 : decode cX12_takesSome 135 = .ok (.aload_n 0, 1) := by decide +kernel
theorem dX12_takesSome_136 : decode cX12_takesSome 136 = .ok (.iconst 1, 1) := by decide +kernel
theorem dX12_takesSome_137 : decode cX12_takesSome 137 = .ok (.iconst 2, 1) := by decide +kernel
theorem dX12_takesSome_138 : decode cX12_takesSome 138 = .ok (.iconst 3, 1) := by decide +kernel
theorem dX12_takesSome_139 : decode cX12_takesSome 139 = .ok (.invokevirtual 257, 3) := by decide +kernel
theorem dX12_takesSome_142 : decode cX12_takesSome 142 = .ok (.lastore, 1) := by decide +kernel
theorem dX12_takesSome_143 : decode cX12_takesSome 143 = .ok (.aload_n 0, 1) := by decide +kernel
theorem dX12_takesSome_144 : decode cX12_takesSome 144 = .ok (.getfield 35, 3) := by decide +kernel
theorem dX12_takesSome_147 : decode cX12_takesSome 147 = .ok (.iconst 1, 1) := by decide +kernel
theorem dX12_takesSome_148 : decode cX12_takesSome 148 = .ok (.aload_n 0, 1) := by decide +kernel
theorem dX12_takesSome_149 : decode cX12_takesSome 149 = .ok (.iconst 0, 1) := by decide +kernel
theorem dX12_takesSome_150 : decode cX12_takesSome 150 = .ok (.iconst 2, 1) := by decide +kernel
theorem dX12_takesSome_151 : decode cX12_takesSome 151 = .ok (.iconst 3, 1) := by decide +kernel
theorem dX12_takesSome_152 : decode cX12_takesSome 152 = .ok (.invokevirtual 257, 3) := by decide +kernel
theorem dX12_takesSome_155 : decode cX12_takesSome 155 = .ok (.lneg, 1) := by decide +kernel
theorem dX12_takesSome_156 : decode cX12_takesSome 156 = .ok (.lastore, 1) := by decide +kernel
theorem dX12_takesSome_157 : decode cX12_takesSome 157 = .ok (.aload_n 0, 1) := by decide +kernel
theorem dX12_takesSome_158 : decode cX12_takesSome 158 = .ok (.getfield 35, 3) := by decide +kernel
theorem dX12_takesSome_161 : decode cX12_takesSome 161 = .ok (.iconst 2, 1) := by decide +kernel
theorem dX12_takesSome_162 : decode cX12_takesSome 162 = .ok (.aload_n 0, 1) := by decide +kernel
theorem dX12_takesSome_163 : decode cX12_takesSome 163 = .ok (.iconst 0, 1) := by decide +kernel
theorem dX12_takesSome_164 : decode cX12_takesSome 164 = .ok (.iconst 1, 1) := by decide +kernel
theorem dX12_takesSome_165 : decode cX12_takesSome 165 = .ok (.iconst 3, 1) := by decide +kernel
theorem dX12_takesSome_166 : decode cX12_takesSome 166 = .ok (.invokevirtual 257, 3) := by decide +kernel
theorem dX12_takesSome_169 : decode cX12_takesSome 169 = .ok (.lastore, 1) := by decide +kernel
theorem dX12_takesSome_170 : decode cX12_takesSome 170 = .ok (.aload_n 0, 1) := by decide +kernel
theorem dX12_takesSome_171 : decode cX12_takesSome 171 = .ok (.getfield 35, 3) := by decide +kernel
theorem dX12_takesSome_174 : decode cX12_takesSome 174 = .ok (.iconst 3, 1) := by decide +kernel
theorem dX12_takesSome_175 : decode cX12_takesSome 175 = .ok (.aload_n 0, 1) := by decide +kernel
theorem dX12_takesSome_176 : decode cX12_takesSome 176 = .ok (.iconst 0, 1) := by decide +kernel
theorem dX12_takesSome_177 : decode cX12_takesSome 177 = .ok (.iconst 1, 1) := by decide +kernel
theorem dX12_takesSome_178 : decode cX12_takesSome 178 = .ok (.iconst 2, 1) := by decide +kernel
theorem dX12_takesSome_179 : decode cX12_takesSome 179 = .ok (.invokevirtual 257, 3) := by decide +kernel
theorem dX12_takesSome_182 : decode cX12_takesSome 182 = .ok (.lneg, 1) := by decide +kernel
theorem dX12_takesSome_183 : decode cX12_takesSome 183 = .ok (.lastore, 1) := by decide +kernel
theorem dX12_takesSome_184 : decode cX12_takesSome 184 = .ok (.return_, 1) := by decide +kernel
def rm_fMM_takesSome : Room := { frames := 4, cells := 0, slots := 0, locals := 133 }
set_option maxHeartbeats 4000000 in
set_option maxRecDepth 100000 in
theorem c_fMM_takesSome (l : Launch) (X : eX) (sz : Nat)  (σ : sT) (σz : sT) (h0 : fMM_takesSome σ = some σz) : ctV l yX12_takesSome cX12_takesSome 2 none rm_fMM_takesSome [.ref (X.2.1 33)] (wM X) (tM X) (aM X) X sz σ σz := by
  refine ct_of (by decide +kernel) (Nat.le_of_ble_eq_true rfl) ?_
  intro p e s m args below meth c ls hz B hl Z
  have B : Bd p s m args meth c RX12 cX12_takesSome 2 none := B
  have hl : lv_has ls 2 [(0, .ref (X.2.1 33))] := hl
  have hx := B.1
  have hb := B.2.1
  unfold fMM_takesSome at h0
  refine lv_aload_n hx hb dX12_takesSome_0 rfl (lv_at hl 0 rfl) ?_
  refine g_33_20 B Z kf_RX12_251 dX12_takesSome_1 ?_
  refine lv_iconst (v := (1 : Int32)) hx hb dX12_takesSome_4 (by decide) ?_
  refine lv_icmp_ne (tgt := 18) hx hb dX12_takesSome_5 (by decide) (fun c1 => ?_) (fun c1 => ?_)
  · have h1 := dif h0 c1
    clear h0
    refine lv_aload_n hx hb dX12_takesSome_18 rfl (lv_at hl 0 rfl) ?_
    refine g_33_20 B Z kf_RX12_251 dX12_takesSome_19 ?_
    refine lv_iconst (v := (2 : Int32)) hx hb dX12_takesSome_22 (by decide) ?_
    refine lv_icmp_ne (tgt := 86) hx hb dX12_takesSome_23 (by decide) (fun c2 => ?_) (fun c2 => ?_)
    · have h2 := dif h1 c2
      clear h1
      refine lv_aload_n hx hb dX12_takesSome_86 rfl (lv_at hl 0 rfl) ?_
      refine g_33_20 B Z kf_RX12_251 dX12_takesSome_87 ?_
      refine lv_iconst (v := (3 : Int32)) hx hb dX12_takesSome_90 (by decide) ?_
      refine lv_icmp_ne (tgt := 130) hx hb dX12_takesSome_91 (by decide) (fun c3 => ?_) (fun c3 => ?_)
      · have h3 := dif h2 c3
        clear h2
        refine lv_aload_n hx hb dX12_takesSome_130 rfl (lv_at hl 0 rfl) ?_
        refine g_33_21 B Z kf_RX12_35 dX12_takesSome_131 ?_
        refine lv_iconst (v := (0 : Int32)) hx hb dX12_takesSome_134 (by decide) ?_
        refine lv_aload_n hx hb dX12_takesSome_135 rfl (lv_at hl 0 rfl) ?_
        refine lv_iconst (v := (1 : Int32)) hx hb dX12_takesSome_136 (by decide) ?_
        refine lv_iconst (v := (2 : Int32)) hx hb dX12_takesSome_137 (by decide) ?_
        refine lv_iconst (v := (3 : Int32)) hx hb dX12_takesSome_138 (by decide) ?_
        obtain ⟨r5, hc3, h4⟩ := db1_s h3
        clear h3
        refine cV_L [.int (1 : Int32), .int (2 : Int32), .int (3 : Int32)] [.int (0 : Int32), .ref (X.2.1 42)] B mx_yX12_minor (c_fMM_minor l X _ (1 : Int32) (2 : Int32) (3 : Int32) σ r5 hc3) kl_RX12_257 mi_yX12_minor (rv_33 _ _) hcl_12 Z hl rfl rfl ⟨Nat.le_of_ble_eq_true rfl, Nat.le_of_ble_eq_true rfl⟩ rfl rfl (Nat.le_of_ble_eq_true rfl) dX12_takesSome_139 (fun H locs Z => ?_)
        clear hc3
        obtain ⟨z6, h5⟩ := dck_s h4
        clear h4
        refine st_42 B Z z6 dX12_takesSome_142 (fun H locs Z => ?_)
        obtain ⟨σ7, eσ7, h6⟩ := dlt_s h5
        clear h5
        replace Z := Wd.eq eσ7 Z
        clear eσ7
        refine lv_aload_n hx hb dX12_takesSome_143 rfl (lv_at hl 0 rfl) ?_
        refine g_33_21 B Z kf_RX12_35 dX12_takesSome_144 ?_
        refine lv_iconst (v := (1 : Int32)) hx hb dX12_takesSome_147 (by decide) ?_
        refine lv_aload_n hx hb dX12_takesSome_148 rfl (lv_at hl 0 rfl) ?_
        refine lv_iconst (v := (0 : Int32)) hx hb dX12_takesSome_149 (by decide) ?_
        refine lv_iconst (v := (2 : Int32)) hx hb dX12_takesSome_150 (by decide) ?_
        refine lv_iconst (v := (3 : Int32)) hx hb dX12_takesSome_151 (by decide) ?_
        obtain ⟨r9, hc7, h7⟩ := db1_s h6
        clear h6
        refine cV_L [.int (0 : Int32), .int (2 : Int32), .int (3 : Int32)] [.int (1 : Int32), .ref (X.2.1 42)] B mx_yX12_minor (c_fMM_minor l X _ (0 : Int32) (2 : Int32) (3 : Int32) σ7 r9 hc7) kl_RX12_257 mi_yX12_minor (rv_33 _ _) hcl_12 Z hl rfl rfl ⟨Nat.le_of_ble_eq_true rfl, Nat.le_of_ble_eq_true rfl⟩ rfl rfl (Nat.le_of_ble_eq_true rfl) dX12_takesSome_152 (fun H locs Z => ?_)
        clear hc7
        refine lv_lneg hx hb dX12_takesSome_155 ?_
        obtain ⟨z10, h8⟩ := dck_s h7
        clear h7
        refine st_42 B Z z10 dX12_takesSome_156 (fun H locs Z => ?_)
        obtain ⟨σ11, eσ11, h9⟩ := dlt_s h8
        clear h8
        replace Z := Wd.eq eσ11 Z
        clear eσ11
        refine lv_aload_n hx hb dX12_takesSome_157 rfl (lv_at hl 0 rfl) ?_
        refine g_33_21 B Z kf_RX12_35 dX12_takesSome_158 ?_
        refine lv_iconst (v := (2 : Int32)) hx hb dX12_takesSome_161 (by decide) ?_
        refine lv_aload_n hx hb dX12_takesSome_162 rfl (lv_at hl 0 rfl) ?_
        refine lv_iconst (v := (0 : Int32)) hx hb dX12_takesSome_163 (by decide) ?_
        refine lv_iconst (v := (1 : Int32)) hx hb dX12_takesSome_164 (by decide) ?_
        refine lv_iconst (v := (3 : Int32)) hx hb dX12_takesSome_165 (by decide) ?_
        obtain ⟨r13, hc11, h10⟩ := db1_s h9
        clear h9
        refine cV_L [.int (0 : Int32), .int (1 : Int32), .int (3 : Int32)] [.int (2 : Int32), .ref (X.2.1 42)] B mx_yX12_minor (c_fMM_minor l X _ (0 : Int32) (1 : Int32) (3 : Int32) σ11 r13 hc11) kl_RX12_257 mi_yX12_minor (rv_33 _ _) hcl_12 Z hl rfl rfl ⟨Nat.le_of_ble_eq_true rfl, Nat.le_of_ble_eq_true rfl⟩ rfl rfl (Nat.le_of_ble_eq_true rfl) dX12_takesSome_166 (fun H locs Z => ?_)
        clear hc11
        obtain ⟨z14, h11⟩ := dck_s h10
        clear h10
        refine st_42 B Z z14 dX12_takesSome_169 (fun H locs Z => ?_)
        obtain ⟨σ15, eσ15, h12⟩ := dlt_s h11
        clear h11
        replace Z := Wd.eq eσ15 Z
        clear eσ15
        refine lv_aload_n hx hb dX12_takesSome_170 rfl (lv_at hl 0 rfl) ?_
        refine g_33_21 B Z kf_RX12_35 dX12_takesSome_171 ?_
        refine lv_iconst (v := (3 : Int32)) hx hb dX12_takesSome_174 (by decide) ?_
        refine lv_aload_n hx hb dX12_takesSome_175 rfl (lv_at hl 0 rfl) ?_
        refine lv_iconst (v := (0 : Int32)) hx hb dX12_takesSome_176 (by decide) ?_
        refine lv_iconst (v := (1 : Int32)) hx hb dX12_takesSome_177 (by decide) ?_
        refine lv_iconst (v := (2 : Int32)) hx hb dX12_takesSome_178 (by decide) ?_
        obtain ⟨r17, hc15, h13⟩ := db1_s h12
        clear h12
        refine cV_L [.int (0 : Int32), .int (1 : Int32), .int (2 : Int32)] [.int (3 : Int32), .ref (X.2.1 42)] B mx_yX12_minor (c_fMM_minor l X _ (0 : Int32) (1 : Int32) (2 : Int32) σ15 r17 hc15) kl_RX12_257 mi_yX12_minor (rv_33 _ _) hcl_12 Z hl rfl rfl ⟨Nat.le_of_ble_eq_true rfl, Nat.le_of_ble_eq_true rfl⟩ rfl rfl (Nat.le_of_ble_eq_true rfl) dX12_takesSome_179 (fun H locs Z => ?_)
        clear hc15
        refine lv_lneg hx hb dX12_takesSome_182 ?_
        obtain ⟨z18, h14⟩ := dck_s h13
        clear h13
        refine st_42 B Z z18 dX12_takesSome_183 (fun H locs Z => ?_)
        obtain ⟨σ19, eσ19, h15⟩ := dlt_s h14
        clear h14
        replace Z := Wd.eq eσ19 Z
        clear eσ19
        exact reV B Z hz h15 dX12_takesSome_184
      · have h16 := dit h2 c3
        clear h2
        refine lv_aload_n hx hb dX12_takesSome_94 rfl (lv_at hl 0 rfl) ?_
        refine lv_iconst (v := (0 : Int32)) hx hb dX12_takesSome_95 (by decide) ?_
        refine lv_iconst (v := (1 : Int32)) hx hb dX12_takesSome_96 (by decide) ?_
        obtain ⟨r21, σ22, hc19, h17⟩ := db2_s h16
        clear h16
        refine cV_I [.int (0 : Int32), .int (1 : Int32)] [] B mx_yX12_takesThree (c_fMM_takesThree l X _ (0 : Int32) (1 : Int32) σ r21 σ22 hc19) kl_RX12_254 mi_yX12_takesThree (rv_33 _ _) hcl_12 Z hl rfl rfl ⟨Nat.le_of_ble_eq_true rfl, Nat.le_of_ble_eq_true rfl⟩ rfl rfl (Nat.le_of_ble_eq_true rfl) dX12_takesSome_97 (fun H locs Z => ?_)
        clear hc19
        refine lv_if_ne (tgt := 121) hx hb dX12_takesSome_100 (by decide) (fun c23 => ?_) (fun c23 => ?_)
        · have h18 := dif h17 c23
          clear h17
          refine lv_iconst (v := (1 : Int32)) hx hb dX12_takesSome_121 (by decide) ?_
          refine lv_goto (tgt := 126) hx hb dX12_takesSome_122 (by decide) ?_
          refine lv_istore_n (lv' := [(1, .int (1 : Int32)), (0, .ref (X.2.1 33))]) hx hb dX12_takesSome_126 rfl hl (by decide) rfl (fun ls hl => ?_)
          refine lv_goto (tgt := 184) hx hb dX12_takesSome_127 (by decide) ?_
          exact reV B Z hz h18 dX12_takesSome_184
        · have h19 := dit h17 c23
          clear h17
          refine lv_aload_n hx hb dX12_takesSome_103 rfl (lv_at hl 0 rfl) ?_
          refine lv_iconst (v := (1 : Int32)) hx hb dX12_takesSome_104 (by decide) ?_
          refine lv_iconst (v := (2 : Int32)) hx hb dX12_takesSome_105 (by decide) ?_
          obtain ⟨r25, σ26, hc23, h20⟩ := db2_s h19
          clear h19
          refine cV_I [.int (1 : Int32), .int (2 : Int32)] [] B mx_yX12_takesThree (c_fMM_takesThree l X _ (1 : Int32) (2 : Int32) σ22 r25 σ26 hc23) kl_RX12_254 mi_yX12_takesThree (rv_33 _ _) hcl_12 Z hl rfl rfl ⟨Nat.le_of_ble_eq_true rfl, Nat.le_of_ble_eq_true rfl⟩ rfl rfl (Nat.le_of_ble_eq_true rfl) dX12_takesSome_106 (fun H locs Z => ?_)
          clear hc23
          refine lv_if_ne (tgt := 121) hx hb dX12_takesSome_109 (by decide) (fun c27 => ?_) (fun c27 => ?_)
          · have h21 := dif h20 c27
            clear h20
            refine lv_iconst (v := (1 : Int32)) hx hb dX12_takesSome_121 (by decide) ?_
            refine lv_goto (tgt := 126) hx hb dX12_takesSome_122 (by decide) ?_
            refine lv_istore_n (lv' := [(1, .int (1 : Int32)), (0, .ref (X.2.1 33))]) hx hb dX12_takesSome_126 rfl hl (by decide) rfl (fun ls hl => ?_)
            refine lv_goto (tgt := 184) hx hb dX12_takesSome_127 (by decide) ?_
            exact reV B Z hz h21 dX12_takesSome_184
          · have h22 := dit h20 c27
            clear h20
            refine lv_aload_n hx hb dX12_takesSome_112 rfl (lv_at hl 0 rfl) ?_
            refine lv_iconst (v := (0 : Int32)) hx hb dX12_takesSome_113 (by decide) ?_
            refine lv_iconst (v := (2 : Int32)) hx hb dX12_takesSome_114 (by decide) ?_
            obtain ⟨r29, σ30, hc27, h23⟩ := db2_s h22
            clear h22
            refine cV_I [.int (0 : Int32), .int (2 : Int32)] [] B mx_yX12_takesThree (c_fMM_takesThree l X _ (0 : Int32) (2 : Int32) σ26 r29 σ30 hc27) kl_RX12_254 mi_yX12_takesThree (rv_33 _ _) hcl_12 Z hl rfl rfl ⟨Nat.le_of_ble_eq_true rfl, Nat.le_of_ble_eq_true rfl⟩ rfl rfl (Nat.le_of_ble_eq_true rfl) dX12_takesSome_115 (fun H locs Z => ?_)
            clear hc27
            refine lv_if_eq (tgt := 125) hx hb dX12_takesSome_118 (by decide) (fun c31 => ?_) (fun c31 => ?_)
            · have h24 := dit h23 c31
              clear h23
              refine lv_iconst (v := (0 : Int32)) hx hb dX12_takesSome_125 (by decide) ?_
              refine lv_istore_n (lv' := [(1, .int (0 : Int32)), (0, .ref (X.2.1 33))]) hx hb dX12_takesSome_126 rfl hl (by decide) rfl (fun ls hl => ?_)
              refine lv_goto (tgt := 184) hx hb dX12_takesSome_127 (by decide) ?_
              exact reV B Z hz h24 dX12_takesSome_184
            · have h25 := dif h23 c31
              clear h23
              refine lv_iconst (v := (1 : Int32)) hx hb dX12_takesSome_121 (by decide) ?_
              refine lv_goto (tgt := 126) hx hb dX12_takesSome_122 (by decide) ?_
              refine lv_istore_n (lv' := [(1, .int (1 : Int32)), (0, .ref (X.2.1 33))]) hx hb dX12_takesSome_126 rfl hl (by decide) rfl (fun ls hl => ?_)
              refine lv_goto (tgt := 184) hx hb dX12_takesSome_127 (by decide) ?_
              exact reV B Z hz h25 dX12_takesSome_184
    · have h26 := dit h1 c2
      clear h1
      refine lv_aload_n hx hb dX12_takesSome_26 rfl (lv_at hl 0 rfl) ?_
      refine lv_iconst (v := (0 : Int32)) hx hb dX12_takesSome_27 (by decide) ?_
      refine lv_iconst (v := (0 : Int32)) hx hb dX12_takesSome_28 (by decide) ?_
      obtain ⟨r33, hc31, h27⟩ := db1_s h26
      clear h26
      refine cV_L [.int (0 : Int32), .int (0 : Int32)] [] B mx_yX12_number (c_fMM_number l X _ (0 : Int32) (0 : Int32) σ r33 hc31) kl_RX12_248 mi_yX12_number (rv_33 _ _) hcl_12 Z hl rfl rfl ⟨Nat.le_of_ble_eq_true rfl, Nat.le_of_ble_eq_true rfl⟩ rfl rfl (Nat.le_of_ble_eq_true rfl) dX12_takesSome_29 (fun H locs Z => ?_)
      clear hc31
      refine lv_lconst (v := (0 : Int64)) hx hb dX12_takesSome_32 (by decide) ?_
      refine W.lcmp hx hb dX12_takesSome_33 ?_
      obtain ⟨J35, eJ35, h35⟩ := dlt_s h27
      clear h27
      have kJ35 : ∀ (x34 : Int32) (H : Heap) (locs : List Loc) (ls : Array Slot), Wd (wM X) (tM X) (aM X) X s σ H locs → lv_has ls 2 [(0, .ref (X.2.1 33))] → J35 x34 = some σz → W p l e rm_fMM_takesSome s m args below meth c H locs 0 0 (MQ below (va_Qv (fun u => u = σz) (poW (wM X) (tM X) (aM X) X sz) (aA (aM X) sz)) args s 0 0 (aA (aM X) sz)) (F0 m 57 ls [.int x34]) := by
        intro x34 H locs ls Z hl h28
        rw [eJ35] at h28
        refine lv_istore_n (lv' := [(1, .int x34), (0, .ref (X.2.1 33))]) hx hb dX12_takesSome_57 rfl hl (by decide) rfl (fun ls hl => ?_)
        refine lv_aload_n hx hb dX12_takesSome_58 rfl (lv_at hl 1 rfl) ?_
        refine g_33_21 B Z kf_RX12_35 dX12_takesSome_59 ?_
        refine lv_iconst (v := (0 : Int32)) hx hb dX12_takesSome_62 (by decide) ?_
        refine lv_aload_n hx hb dX12_takesSome_63 rfl (lv_at hl 1 rfl) ?_
        refine lv_iconst (v := (1 : Int32)) hx hb dX12_takesSome_64 (by decide) ?_
        refine lv_iload_n hx hb dX12_takesSome_65 rfl (lv_at hl 0 rfl) ?_
        obtain ⟨r37, hc35, h29⟩ := db1_s h28
        clear h28
        refine cV_L [.int (1 : Int32), .int x34] [.int (0 : Int32), .ref (X.2.1 42)] B mx_yX12_number (c_fMM_number l X _ (1 : Int32) x34 σ r37 hc35) kl_RX12_248 mi_yX12_number (rv_33 _ _) hcl_12 Z hl rfl rfl ⟨Nat.le_of_ble_eq_true rfl, Nat.le_of_ble_eq_true rfl⟩ rfl rfl (Nat.le_of_ble_eq_true rfl) dX12_takesSome_66 (fun H locs Z => ?_)
        clear hc35
        obtain ⟨z38, h30⟩ := dck_s h29
        clear h29
        refine st_42 B Z z38 dX12_takesSome_69 (fun H locs Z => ?_)
        obtain ⟨σ39, eσ39, h31⟩ := dlt_s h30
        clear h30
        replace Z := Wd.eq eσ39 Z
        clear eσ39
        refine lv_aload_n hx hb dX12_takesSome_70 rfl (lv_at hl 1 rfl) ?_
        refine g_33_21 B Z kf_RX12_35 dX12_takesSome_71 ?_
        refine lv_iconst (v := (1 : Int32)) hx hb dX12_takesSome_74 (by decide) ?_
        refine lv_aload_n hx hb dX12_takesSome_75 rfl (lv_at hl 1 rfl) ?_
        refine lv_iconst (v := (0 : Int32)) hx hb dX12_takesSome_76 (by decide) ?_
        refine lv_iload_n hx hb dX12_takesSome_77 rfl (lv_at hl 0 rfl) ?_
        obtain ⟨r41, hc39, h32⟩ := db1_s h31
        clear h31
        refine cV_L [.int (0 : Int32), .int x34] [.int (1 : Int32), .ref (X.2.1 42)] B mx_yX12_number (c_fMM_number l X _ (0 : Int32) x34 σ39 r41 hc39) kl_RX12_248 mi_yX12_number (rv_33 _ _) hcl_12 Z hl rfl rfl ⟨Nat.le_of_ble_eq_true rfl, Nat.le_of_ble_eq_true rfl⟩ rfl rfl (Nat.le_of_ble_eq_true rfl) dX12_takesSome_78 (fun H locs Z => ?_)
        clear hc39
        refine lv_lneg hx hb dX12_takesSome_81 ?_
        obtain ⟨z42, h33⟩ := dck_s h32
        clear h32
        refine st_42 B Z z42 dX12_takesSome_82 (fun H locs Z => ?_)
        obtain ⟨σ43, eσ43, h34⟩ := dlt_s h33
        clear h33
        replace Z := Wd.eq eσ43 Z
        clear eσ43
        refine lv_goto (tgt := 184) hx hb dX12_takesSome_83 (by decide) ?_
        exact reV B Z hz h34 dX12_takesSome_184
      clear eJ35
      refine lv_if_eq (tgt := 41) hx hb dX12_takesSome_34 (by decide) (fun c44 => ?_) (fun c44 => ?_)
      · have h36 := dit h35 c44
        clear h35
        refine lv_aload_n hx hb dX12_takesSome_41 rfl (lv_at hl 0 rfl) ?_
        refine lv_iconst (v := (0 : Int32)) hx hb dX12_takesSome_42 (by decide) ?_
        refine lv_iconst (v := (1 : Int32)) hx hb dX12_takesSome_43 (by decide) ?_
        obtain ⟨r46, hc44, h37⟩ := db1_s h36
        clear h36
        refine cV_L [.int (0 : Int32), .int (1 : Int32)] [] B mx_yX12_number (c_fMM_number l X _ (0 : Int32) (1 : Int32) σ r46 hc44) kl_RX12_248 mi_yX12_number (rv_33 _ _) hcl_12 Z hl rfl rfl ⟨Nat.le_of_ble_eq_true rfl, Nat.le_of_ble_eq_true rfl⟩ rfl rfl (Nat.le_of_ble_eq_true rfl) dX12_takesSome_44 (fun H locs Z => ?_)
        clear hc44
        refine lv_lconst (v := (0 : Int64)) hx hb dX12_takesSome_47 (by decide) ?_
        refine W.lcmp hx hb dX12_takesSome_48 ?_
        refine lv_if_eq (tgt := 56) hx hb dX12_takesSome_49 (by decide) (fun c47 => ?_) (fun c47 => ?_)
        · have h38 := dit h37 c47
          clear h37
          refine lv_iconst (v := (2 : Int32)) hx hb dX12_takesSome_56 (by decide) ?_
          exact kJ35 (2 : Int32) _ _ _ Z (lv_sub hl [0] rfl) h38
        · have h39 := dif h37 c47
          clear h37
          refine lv_iconst (v := (1 : Int32)) hx hb dX12_takesSome_52 (by decide) ?_
          refine lv_goto (tgt := 57) hx hb dX12_takesSome_53 (by decide) ?_
          exact kJ35 (1 : Int32) _ _ _ Z (lv_sub hl [0] rfl) h39
      · have h40 := dif h35 c44
        clear h35
        refine lv_iconst (v := (0 : Int32)) hx hb dX12_takesSome_37 (by decide) ?_
        refine lv_goto (tgt := 57) hx hb dX12_takesSome_38 (by decide) ?_
        exact kJ35 (0 : Int32) _ _ _ Z (lv_sub hl [0] rfl) h40
  · have h41 := dit h0 c1
    clear h0
    refine lv_aload_n hx hb dX12_takesSome_8 rfl (lv_at hl 0 rfl) ?_
    refine g_33_21 B Z kf_RX12_35 dX12_takesSome_9 ?_
    refine lv_iconst (v := (0 : Int32)) hx hb dX12_takesSome_12 (by decide) ?_
    refine lv_lconst (v := (1 : Int64)) hx hb dX12_takesSome_13 (by decide) ?_
    obtain ⟨z48, h42⟩ := dck_s h41
    clear h41
    refine st_42 B Z z48 dX12_takesSome_14 (fun H locs Z => ?_)
    obtain ⟨σ49, eσ49, h43⟩ := dlt_s h42
    clear h42
    replace Z := Wd.eq eσ49 Z
    clear eσ49
    refine lv_goto (tgt := 184) hx hb dX12_takesSome_15 (by decide) ?_
    exact reV B Z hz h43 dX12_takesSome_184
theorem dX12_findsTimes_0 : decode cX12_findsTimes 0 = .ok (.aload_n 0, 1) := by decide +kernel
theorem dX12_findsTimes_1 : decode cX12_findsTimes 1 = .ok (.iconst 0, 1) := by decide +kernel
theorem dX12_findsTimes_2 : decode cX12_findsTimes 2 = .ok (.putfield 251, 3) := by decide +kernel
theorem dX12_findsTimes_5 : decode cX12_findsTimes 5 = .ok (.iconst 0, 1) := by decide +kernel
theorem dX12_findsTimes_6 : decode cX12_findsTimes 6 = .ok (.istore_n 2, 1) := by decide +kernel
theorem dX12_findsTimes_7 : decode cX12_findsTimes 7 = .ok (.iload_n 2, 1) := by decide +kernel
theorem dX12_findsTimes_8 : decode cX12_findsTimes 8 = .ok (.aload_n 0, 1) := by decide +kernel
theorem dX12_findsTimes_9 : decode cX12_findsTimes 9 = .ok (.getfield 7, 3) := by decide +kernel
theorem dX12_findsTimes_12 : decode cX12_findsTimes 12 = .ok (.iconst 0, 1) := by decide +kernel
theorem dX12_findsTimes_13 : decode cX12_findsTimes 13 = .ok (.iaload, 1) := by decide +kernel
theorem dX12_findsTimes_14 : decode cX12_findsTimes 14 = .ok (.if_icmp .ge 37, 3) := by decide +kernel
theorem dX12_findsTimes_17 : decode cX12_findsTimes 17 = .ok (.iload_n 1, 1) := by decide +kernel
theorem dX12_findsTimes_18 : decode cX12_findsTimes 18 = .ok (.iload_n 2, 1) := by decide +kernel
theorem dX12_findsTimes_19 : decode cX12_findsTimes 19 = .ok (.invokestatic 95, 3) := by decide +kernel
theorem dX12_findsTimes_22 : decode cX12_findsTimes 22 = .ok (.ifCond .eq 23, 3) := by decide +kernel
theorem dX12_findsTimes_25 : decode cX12_findsTimes 25 = .ok (.aload_n 0, 1) := by decide +kernel
theorem dX12_findsTimes_26 : decode cX12_findsTimes 26 = .ok (.getfield 32, 3) := by decide +kernel
theorem dX12_findsTimes_29 : decode cX12_findsTimes 29 = .ok (.aload_n 0, 1) := by decide +kernel
theorem dX12_findsTimes_30 : decode cX12_findsTimes 30 = .ok (.getfield 251, 3) := by decide +kernel
theorem dX12_findsTimes_33 : decode cX12_findsTimes 33 = .ok (.iload_n 2, 1) := by decide +kernel
theorem dX12_findsTimes_34 : decode cX12_findsTimes 34 = .ok (.iastore, 1) := by decide +kernel
theorem dX12_findsTimes_35 : decode cX12_findsTimes 35 = .ok (.aload_n 0, 1) := by decide +kernel
theorem dX12_findsTimes_36 : decode cX12_findsTimes 36 = .ok (.dup, 1) := by decide +kernel
theorem dX12_findsTimes_37 : decode cX12_findsTimes 37 = .ok (.getfield 251, 3) := by decide +kernel
theorem dX12_findsTimes_40 : decode cX12_findsTimes 40 = .ok (.iconst 1, 1) := by decide +kernel
theorem dX12_findsTimes_41 : decode cX12_findsTimes 41 = .ok (.iadd, 1) := by decide +kernel
theorem dX12_findsTimes_42 : decode cX12_findsTimes 42 = .ok (.putfield 251, 3) := by decide +kernel
theorem dX12_findsTimes_45 : decode cX12_findsTimes 45 = .ok (.iinc 2 1, 3) := by decide +kernel
theorem dX12_findsTimes_48 : decode cX12_findsTimes 48 = .ok (.goto (-41), 3) := by decide +kernel
theorem dX12_findsTimes_51 : decode cX12_findsTimes 51 = .ok (.aload_n 0, 1) := by decide +kernel
theorem dX12_findsTimes_52 : decode cX12_findsTimes 52 = .ok (.invokevirtual 261, 3) := by decide +kernel
theorem dX12_findsTimes_55 : decode cX12_findsTimes 55 = .ok (.lconst 0, 1) := by decide +kernel
theorem dX12_findsTimes_56 : decode cX12_findsTimes 56 = .ok (.lstore_n 2, 1) := by decide +kernel
theorem dX12_findsTimes_57 : decode cX12_findsTimes 57 = .ok (.lconst 0, 1) := by decide +kernel
theorem dX12_findsTimes_58 : decode cX12_findsTimes 58 = .ok (.lstore 4, 2) := by decide +kernel
theorem dX12_findsTimes_60 : decode cX12_findsTimes 60 = .ok (.lconst 0, 1) := by decide +kernel
theorem dX12_findsTimes_61 : decode cX12_findsTimes 61 = .ok (.lstore 6, 2) := by decide +kernel
theorem dX12_findsTimes_63 : decode cX12_findsTimes 63 = .ok (.iconst 0, 1) := by decide +kernel
theorem dX12_findsTimes_64 : decode cX12_findsTimes 64 = .ok (.istore 8, 2) := by decide +kernel
theorem dX12_findsTimes_66 : decode cX12_findsTimes 66 = .ok (.iload 8, 2) := by decide +kernel
theorem dX12_findsTimes_68 : decode cX12_findsTimes 68 = .ok (.aload_n 0, 1) := by decide +kernel
theorem dX12_findsTimes_69 : decode cX12_findsTimes 69 = .ok (.getfield 251, 3) := by decide +kernel
theorem dX12_findsTimes_72 : decode cX12_findsTimes 72 = .ok (.if_icmp .ge 71, 3) := by decide +kernel
theorem dX12_findsTimes_75 : decode cX12_findsTimes 75 = .ok (.lload_n 2, 1) := by decide +kernel
theorem dX12_findsTimes_76 : decode cX12_findsTimes 76 = .ok (.aload_n 0, 1) := by decide +kernel
theorem dX12_findsTimes_77 : decode cX12_findsTimes 77 = .ok (.getfield 35, 3) := by decide +kernel
theorem dX12_findsTimes_80 : decode cX12_findsTimes 80 = .ok (.iload 8, 2) := by decide +kernel
theorem dX12_findsTimes_82 : decode cX12_findsTimes 82 = .ok (.laload, 1) := by decide +kernel
theorem dX12_findsTimes_83 : decode cX12_findsTimes 83 = .ok (.invokestatic 204, 3) := by decide +kernel
theorem dX12_findsTimes_86 : decode cX12_findsTimes 86 = .ok (.lstore_n 2, 1) := by decide +kernel
theorem dX12_findsTimes_87 : decode cX12_findsTimes 87 = .ok (.lload 4, 2) := by decide +kernel
theorem dX12_findsTimes_89 : decode cX12_findsTimes 89 = .ok (.aload_n 0, 1) := by decide +kernel
theorem dX12_findsTimes_90 : decode cX12_findsTimes 90 = .ok (.getfield 35, 3) := by decide +kernel
theorem dX12_findsTimes_93 : decode cX12_findsTimes 93 = .ok (.iload 8, 2) := by decide +kernel
theorem dX12_findsTimes_95 : decode cX12_findsTimes 95 = .ok (.laload, 1) := by decide +kernel
theorem dX12_findsTimes_96 : decode cX12_findsTimes 96 = .ok (.aload_n 0, 1) := by decide +kernel
theorem dX12_findsTimes_97 : decode cX12_findsTimes 97 = .ok (.iload 8, 2) := by decide +kernel
theorem dX12_findsTimes_99 : decode cX12_findsTimes 99 = .ok (.iconst 4, 1) := by decide +kernel
theorem dX12_findsTimes_100 : decode cX12_findsTimes 100 = .ok (.invokevirtual 248, 3) := by decide +kernel
theorem dX12_findsTimes_103 : decode cX12_findsTimes 103 = .ok (.lmul, 1) := by decide +kernel
theorem dX12_findsTimes_104 : decode cX12_findsTimes 104 = .ok (.ladd, 1) := by decide +kernel
theorem dX12_findsTimes_105 : decode cX12_findsTimes 105 = .ok (.lstore 4, 2) := by decide +kernel
theorem dX12_findsTimes_107 : decode cX12_findsTimes 107 = .ok (.aload_n 0, 1) := by decide +kernel
theorem dX12_findsTimes_108 : decode cX12_findsTimes 108 = .ok (.aload_n 0, 1) := by decide +kernel
theorem dX12_findsTimes_109 : decode cX12_findsTimes 109 = .ok (.getfield 32, 3) := by decide +kernel
theorem dX12_findsTimes_112 : decode cX12_findsTimes 112 = .ok (.iload 8, 2) := by decide +kernel
theorem dX12_findsTimes_114 : decode cX12_findsTimes 114 = .ok (.iaload, 1) := by decide +kernel
theorem dX12_findsTimes_115 : decode cX12_findsTimes 115 = .ok (.iconst 3, 1) := by decide +kernel
theorem dX12_findsTimes_116 : decode cX12_findsTimes 116 = .ok (.invokevirtual 87, 3) := by decide +kernel
theorem dX12_findsTimes_119 : decode cX12_findsTimes 119 = .ok (.iconst 2, 1) := by decide +kernel
theorem dX12_findsTimes_120 : decode cX12_findsTimes 120 = .ok (.if_icmp .eq 13, 3) := by decide +kernel
theorem dX12_findsTimes_123 : decode cX12_findsTimes 123 = .ok (.aload_n 0, 1) := by decide +kernel
theorem dX12_findsTimes_124 : decode cX12_findsTimes 124 = .ok (.getfield 35, 3) := by decide +kernel
theorem dX12_findsTimes_127 : decode cX12_findsTimes 127 = .ok (.iload 8, 2) := by decide +kernel
theorem dX12_findsTimes_129 : decode cX12_findsTimes 129 = .ok (.laload, 1) := by decide +kernel
theorem dX12_findsTimes_130 : decode cX12_findsTimes 130 = .ok (.goto 5, 3) := by decide +kernel
theorem dX12_findsTimes_133 : decode cX12_findsTimes 133 = .ok (.lload 6, 2) := by decide +kernel
theorem dX12_findsTimes_135 : decode cX12_findsTimes 135 = .ok (.lstore 6, 2) := by decide +kernel
theorem dX12_findsTimes_137 : decode cX12_findsTimes 137 = .ok (.iinc 8 1, 3) := by decide +kernel
theorem dX12_findsTimes_140 : decode cX12_findsTimes 140 = .ok (.goto (-74), 3) := by decide +kernel
theorem dX12_findsTimes_143 : decode cX12_findsTimes 143 = .ok (.lload 6, 2) := by decide +kernel
theorem dX12_findsTimes_145 : decode cX12_findsTimes 145 = .ok (.lconst 0, 1) := by decide +kernel
theorem dX12_findsTimes_146 : decode cX12_findsTimes 146 = .ok (.lcmp, 1) := by decide +kernel
theorem dX12_findsTimes_147 : decode cX12_findsTimes 147 = .ok (.ifCond .lt 17, 3) := by decide +kernel
theorem dX12_findsTimes_150 : decode cX12_findsTimes 150 = .ok (.lload 6, 2) := by decide +kernel
theorem dX12_findsTimes_152 : decode cX12_findsTimes 152 = .ok (.lconst 0, 1) := by decide +kernel
theorem dX12_findsTimes_153 : decode cX12_findsTimes 153 = .ok (.lcmp, 1) := by decide +kernel
theorem dX12_findsTimes_154 : decode cX12_findsTimes 154 = .ok (.ifCond .ne 14, 3) := by decide +kernel
theorem dX12_findsTimes_157 : decode cX12_findsTimes 157 = .ok (.lload 4, 2) := by decide +kernel
theorem dX12_findsTimes_159 : decode cX12_findsTimes 159 = .ok (.lconst 0, 1) := by decide +kernel
theorem dX12_findsTimes_160 : decode cX12_findsTimes 160 = .ok (.lcmp, 1) := by decide +kernel
theorem dX12_findsTimes_161 : decode cX12_findsTimes 161 = .ok (.ifCond .le 7, 3) := by decide +kernel
theorem dX12_findsTimes_164 : decode cX12_findsTimes 164 = .ok (.iconst 1, 1) := by decide +kernel
theorem dX12_findsTimes_165 : decode cX12_findsTimes 165 = .ok (.goto 4, 3) := by decide +kernel
theorem dX12_findsTimes_168 : decode cX12_findsTimes 168 = .ok (.iconst 0, 1) := by decide +kernel
theorem dX12_findsTimes_169 : decode cX12_findsTimes 169 = .ok (.istore 8, 2) := by decide +kernel
theorem dX12_findsTimes_171 : decode cX12_findsTimes 171 = .ok (.iconst 0, 1) := by decide +kernel
theorem dX12_findsTimes_172 : decode cX12_findsTimes 172 = .ok (.istore 9, 2) := by decide +kernel
theorem dX12_findsTimes_174 : decode cX12_findsTimes 174 = .ok (.iload 9, 2) := by decide +kernel
theorem dX12_findsTimes_176 : decode cX12_findsTimes 176 = .ok (.aload_n 0, 1) := by decide +kernel
theorem dX12_findsTimes_177 : decode cX12_findsTimes 177 = .ok (.getfield 251, 3) := by decide +kernel
theorem dX12_findsTimes_180 : decode cX12_findsTimes 180 = .ok (.if_icmp .ge 41, 3) := by decide +kernel
theorem dX12_findsTimes_183 : decode cX12_findsTimes 183 = .ok (.aload_n 0, 1) := by decide +kernel
theorem dX12_findsTimes_184 : decode cX12_findsTimes 184 = .ok (.getfield 35, 3) := by decide +kernel
theorem dX12_findsTimes_187 : decode cX12_findsTimes 187 = .ok (.iload 9, 2) := by decide +kernel
theorem dX12_findsTimes_189 : decode cX12_findsTimes 189 = .ok (.iload 8, 2) := by decide +kernel
theorem dX12_findsTimes_191 : decode cX12_findsTimes 191 = .ok (.ifCond .eq 14, 3) := by decide +kernel
theorem dX12_findsTimes_194 : decode cX12_findsTimes 194 = .ok (.aload_n 0, 1) := by decide +kernel
theorem dX12_findsTimes_195 : decode cX12_findsTimes 195 = .ok (.getfield 35, 3) := by decide +kernel
theorem dX12_findsTimes_198 : decode cX12_findsTimes 198 = .ok (.iload 9, 2) := by decide +kernel
theorem dX12_findsTimes_200 : decode cX12_findsTimes 200 = .ok (.laload, 1) := by decide +kernel
theorem dX12_findsTimes_201 : decode cX12_findsTimes 201 = .ok (.lneg, 1) := by decide +kernel
theorem dX12_findsTimes_202 : decode cX12_findsTimes 202 = .ok (.goto 10, 3) := by decide +kernel
theorem dX12_findsTimes_205 : decode cX12_findsTimes 205 = .ok (.aload_n 0, 1) := by decide +kernel
theorem dX12_findsTimes_206 : decode cX12_findsTimes 206 = .ok (.getfield 35, 3) := by decide +kernel
theorem dX12_findsTimes_209 : decode cX12_findsTimes 209 = .ok (.iload 9, 2) := by decide +kernel
theorem dX12_findsTimes_211 : decode cX12_findsTimes 211 = .ok (.laload, 1) := by decide +kernel
theorem dX12_findsTimes_212 : decode cX12_findsTimes 212 = .ok (.lload_n 2, 1) := by decide +kernel
theorem dX12_findsTimes_213 : decode cX12_findsTimes 213 = .ok (.ldiv, 1) := by decide +kernel
theorem dX12_findsTimes_214 : decode cX12_findsTimes 214 = .ok (.lastore, 1) := by decide +kernel
theorem dX12_findsTimes_215 : decode cX12_findsTimes 215 = .ok (.iinc 9 1, 3) := by decide +kernel
theorem dX12_findsTimes_218 : decode cX12_findsTimes 218 = .ok (.goto (-44), 3) := by decide +kernel
theorem dX12_findsTimes_221 : decode cX12_findsTimes 221 = .ok (.return_, 1) := by decide +kernel
def rm_fMM_findsTimes : Room := { frames := 5, cells := 0, slots := 0, locals := 154 }
set_option maxHeartbeats 4000000 in
set_option maxRecDepth 100000 in
theorem c_fMM_findsTimes (l : Launch) (X : eX) (sz : Nat) (a1 : Int32) (σ : sT) (σz : sT) (h0 : fMM_findsTimes a1 σ = some σz) : ctV l yX12_findsTimes cX12_findsTimes 10 none rm_fMM_findsTimes [.ref (X.2.1 33), .int a1] (wM X) (tM X) (aM X) X sz σ σz := by
  refine ct_of (by decide +kernel) (Nat.le_of_ble_eq_true rfl) ?_
  intro p e s m args below meth c ls hz B hl Z
  have B : Bd p s m args meth c RX12 cX12_findsTimes 10 none := B
  have hl : lv_has ls 10 [(0, .ref (X.2.1 33)), (1, .int a1)] := hl
  have hx := B.1
  have hb := B.2.1
  unfold fMM_findsTimes at h0
  refine lv_aload_n hx hb dX12_findsTimes_0 rfl (lv_at hl 0 rfl) ?_
  refine lv_iconst (v := (0 : Int32)) hx hb dX12_findsTimes_1 (by decide) ?_
  refine s_33_20 B Z kf_RX12_251 dX12_findsTimes_2 (fun H locs Z => ?_)
  obtain ⟨σ1, eσ1, h1⟩ := dlt_s h0
  clear h0
  replace Z := Wd.eq eσ1 Z
  clear eσ1
  refine lv_iconst (v := (0 : Int32)) hx hb dX12_findsTimes_5 (by decide) ?_
  refine lv_istore_n (lv' := [(2, .int (0 : Int32)), (0, .ref (X.2.1 33)), (1, .int a1)]) hx hb dX12_findsTimes_6 rfl hl (by decide) rfl (fun ls hl => ?_)
  obtain ⟨K5, eK5, h44⟩ := dlt_s h1
  clear h1
  have kK5 : ∀ (σ4 : sT) (H : Heap) (locs : List Loc) (ls : Array Slot), Wd (wM X) (tM X) (aM X) X s σ4 H locs → lv_has ls 10 [(0, .ref (X.2.1 33))] → K5 σ4 = some σz → W p l e rm_fMM_findsTimes s m args below meth c H locs 0 0 (MQ below (va_Qv (fun u => u = σz) (poW (wM X) (tM X) (aM X) X sz) (aA (aM X) sz)) args s 0 0 (aA (aM X) sz)) (F0 m 51 ls []) := by
    intro σ4 H locs ls Z hl h2
    rw [eK5] at h2
    refine lv_aload_n hx hb dX12_findsTimes_51 rfl (lv_at hl 0 rfl) ?_
    obtain ⟨σ7, hc5, h3⟩ := db1_s h2
    clear h2
    refine cV_V [] [] B mx_yX12_takesSome (c_fMM_takesSome l X _ σ4 σ7 hc5) kl_RX12_261 mi_yX12_takesSome (rv_33 _ _) hcl_12 Z hl rfl rfl ⟨Nat.le_of_ble_eq_true rfl, Nat.le_of_ble_eq_true rfl⟩ rfl rfl (Nat.le_of_ble_eq_true rfl) dX12_findsTimes_52 (fun H locs Z => ?_)
    clear hc5
    refine lv_lconst (v := (0 : Int64)) hx hb dX12_findsTimes_55 (by decide) ?_
    refine lv_lstore_n (lv' := [(2, .long (0 : Int64)), (0, .ref (X.2.1 33))]) hx hb dX12_findsTimes_56 rfl hl (by decide) rfl (fun ls hl => ?_)
    refine lv_lconst (v := (0 : Int64)) hx hb dX12_findsTimes_57 (by decide) ?_
    refine lv_lstore (lv' := [(4, .long (0 : Int64)), (2, .long (0 : Int64)), (0, .ref (X.2.1 33))]) hx hb dX12_findsTimes_58 hl (by decide) rfl (fun ls hl => ?_)
    refine lv_lconst (v := (0 : Int64)) hx hb dX12_findsTimes_60 (by decide) ?_
    refine lv_lstore (lv' := [(6, .long (0 : Int64)), (4, .long (0 : Int64)), (2, .long (0 : Int64)), (0, .ref (X.2.1 33))]) hx hb dX12_findsTimes_61 hl (by decide) rfl (fun ls hl => ?_)
    refine lv_iconst (v := (0 : Int32)) hx hb dX12_findsTimes_63 (by decide) ?_
    refine lv_istore (lv' := [(8, .int (0 : Int32)), (6, .long (0 : Int64)), (4, .long (0 : Int64)), (2, .long (0 : Int64)), (0, .ref (X.2.1 33))]) hx hb dX12_findsTimes_64 hl (by decide) rfl (fun ls hl => ?_)
    obtain ⟨K15, eK15, h29⟩ := dlt_s h3
    clear h3
    have kK15 : ∀ (x12 : Int64) (x13 : Int64) (x14 : Int64) (H : Heap) (locs : List Loc) (ls : Array Slot), Wd (wM X) (tM X) (aM X) X s σ7 H locs → lv_has ls 10 [(0, .ref (X.2.1 33)), (2, .long x12), (4, .long x13), (6, .long x14)] → K15 x12 x13 x14 = some σz → W p l e rm_fMM_findsTimes s m args below meth c H locs 0 0 (MQ below (va_Qv (fun u => u = σz) (poW (wM X) (tM X) (aM X) X sz) (aA (aM X) sz)) args s 0 0 (aA (aM X) sz)) (F0 m 143 ls []) := by
      intro x12 x13 x14 H locs ls Z hl h4
      rw [eK15] at h4
      refine lv_lload hx hb dX12_findsTimes_143 (lv_at hl 3 rfl) ?_
      refine lv_lconst (v := (0 : Int64)) hx hb dX12_findsTimes_145 (by decide) ?_
      refine W.lcmp hx hb dX12_findsTimes_146 ?_
      obtain ⟨J17, eJ17, h18⟩ := dlt_s h4
      clear h4
      have kJ17 : ∀ (x16 : Int32) (H : Heap) (locs : List Loc) (ls : Array Slot), Wd (wM X) (tM X) (aM X) X s σ7 H locs → lv_has ls 10 [(0, .ref (X.2.1 33)), (2, .long x12)] → J17 x16 = some σz → W p l e rm_fMM_findsTimes s m args below meth c H locs 0 0 (MQ below (va_Qv (fun u => u = σz) (poW (wM X) (tM X) (aM X) X sz) (aA (aM X) sz)) args s 0 0 (aA (aM X) sz)) (F0 m 169 ls [.int x16]) := by
        intro x16 H locs ls Z hl h5
        rw [eJ17] at h5
        refine lv_istore (lv' := [(8, .int x16), (0, .ref (X.2.1 33)), (2, .long x12)]) hx hb dX12_findsTimes_169 hl (by decide) rfl (fun ls hl => ?_)
        refine lv_iconst (v := (0 : Int32)) hx hb dX12_findsTimes_171 (by decide) ?_
        refine lv_istore (lv' := [(9, .int (0 : Int32)), (8, .int x16), (0, .ref (X.2.1 33)), (2, .long x12)]) hx hb dX12_findsTimes_172 hl (by decide) rfl (fun ls hl => ?_)
        have lL174 : ∀ (n : Nat), ∀ (x18 : Int32) (σ19 : sT) (H : Heap) (locs : List Loc) (ls : Array Slot), Wd (wM X) (tM X) (aM X) X s σ19 H locs → lv_has ls 10 [(0, .ref (X.2.1 33)), (2, .long x12), (8, .int x16), (9, .int x18)] → fMM_findsTimes_L174 x12 x16 n x18 σ19 = some σz → W p l e rm_fMM_findsTimes s m args below meth c H locs 0 0 (MQ below (va_Qv (fun u => u = σz) (poW (wM X) (tM X) (aM X) X sz) (aA (aM X) sz)) args s 0 0 (aA (aM X) sz)) (F0 m 174 ls []) := by
          intro n
          induction n with
          | zero =>
            intro x18 σ19 H locs ls Z hl h
            exact nomatch (show (none : Option (sT)) = some _ from h)
          | succ n20 ih98 =>
            intro x18 σ19 H locs ls Z hl h6
            unfold fMM_findsTimes_L174 at h6
            refine lv_iload hx hb dX12_findsTimes_174 (lv_at hl 3 rfl) ?_
            refine lv_aload_n hx hb dX12_findsTimes_176 rfl (lv_at hl 0 rfl) ?_
            refine g_33_20 B Z kf_RX12_251 dX12_findsTimes_177 ?_
            refine lv_icmp_ge (tgt := 221) hx hb dX12_findsTimes_180 (by decide) (fun c21 => ?_) (fun c21 => ?_)
            · have h7 := dit h6 c21
              clear h6
              exact reV B Z hz h7 dX12_findsTimes_221
            · have h8 := dif h6 c21
              clear h6
              refine lv_aload_n hx hb dX12_findsTimes_183 rfl (lv_at hl 0 rfl) ?_
              refine g_33_21 B Z kf_RX12_35 dX12_findsTimes_184 ?_
              refine lv_iload hx hb dX12_findsTimes_187 (lv_at hl 3 rfl) ?_
              refine lv_iload hx hb dX12_findsTimes_189 (lv_at hl 2 rfl) ?_
              obtain ⟨J24, eJ24, h13⟩ := dlt_s h8
              clear h8
              have kJ24 : ∀ (x22 : Int32) (x23 : Int64) (H : Heap) (locs : List Loc) (ls : Array Slot), Wd (wM X) (tM X) (aM X) X s σ19 H locs → lv_has ls 10 [(0, .ref (X.2.1 33)), (2, .long x12), (8, .int x16), (9, .int x18)] → J24 x22 x23 = some σz → W p l e rm_fMM_findsTimes s m args below meth c H locs 0 0 (MQ below (va_Qv (fun u => u = σz) (poW (wM X) (tM X) (aM X) X sz) (aA (aM X) sz)) args s 0 0 (aA (aM X) sz)) (F0 m 212 ls [.long x23, .int x22, .ref (X.2.1 42)]) := by
                intro x22 x23 H locs ls Z hl h9
                rw [eJ24] at h9
                refine lv_lload_n hx hb dX12_findsTimes_212 rfl (lv_at hl 1 rfl) ?_
                obtain ⟨z25, h10⟩ := dck_s h9
                clear h9
                refine lv_ldiv hx hb dX12_findsTimes_213 (okE_s z25) ?_
                obtain ⟨z26, h11⟩ := dck_s h10
                clear h10
                refine st_42 B Z z26 dX12_findsTimes_214 (fun H locs Z => ?_)
                obtain ⟨σ27, eσ27, h12⟩ := dlt_s h11
                clear h11
                replace Z := Wd.eq eσ27 Z
                clear eσ27
                refine lv_iinc (v := x18 + (1 : Int32)) (lv' := [(9, .int (x18 + (1 : Int32))), (0, .ref (X.2.1 33)), (2, .long x12), (8, .int x16)]) hx hb dX12_findsTimes_215 hl (k := 3) rfl (by rfl) (by decide) rfl (fun ls hl => ?_)
                refine lv_goto (tgt := 174) hx hb dX12_findsTimes_218 (by decide) ?_
                exact ih98 (x18 + (1 : Int32)) σ27 _ _ _ Z (lv_sub hl [1, 2, 3, 0] rfl) h12
              clear eJ24
              refine lv_if_eq (tgt := 205) hx hb dX12_findsTimes_191 (by decide) (fun c28 => ?_) (fun c28 => ?_)
              · have h14 := dit h13 c28
                clear h13
                refine lv_aload_n hx hb dX12_findsTimes_205 rfl (lv_at hl 0 rfl) ?_
                refine g_33_21 B Z kf_RX12_35 dX12_findsTimes_206 ?_
                refine lv_iload hx hb dX12_findsTimes_209 (lv_at hl 3 rfl) ?_
                obtain ⟨z29, h15⟩ := dck_s h14
                clear h14
                refine ld_42 B Z z29 dX12_findsTimes_211 ?_
                exact kJ24 x18 (σ19.2 42 x18.toNatClampNeg) _ _ _ Z (lv_sub hl [0, 1, 2, 3] rfl) h15
              · have h16 := dif h13 c28
                clear h13
                refine lv_aload_n hx hb dX12_findsTimes_194 rfl (lv_at hl 0 rfl) ?_
                refine g_33_21 B Z kf_RX12_35 dX12_findsTimes_195 ?_
                refine lv_iload hx hb dX12_findsTimes_198 (lv_at hl 3 rfl) ?_
                obtain ⟨z30, h17⟩ := dck_s h16
                clear h16
                refine ld_42 B Z z30 dX12_findsTimes_200 ?_
                refine lv_lneg hx hb dX12_findsTimes_201 ?_
                refine lv_goto (tgt := 212) hx hb dX12_findsTimes_202 (by decide) ?_
                exact kJ24 x18 (-(σ19.2 42 x18.toNatClampNeg)) _ _ _ Z (lv_sub hl [0, 1, 2, 3] rfl) h17
        exact lL174 FU (0 : Int32) σ7 _ _ _ Z (lv_sub hl [2, 3, 1, 0] rfl) h5
      clear eJ17
      obtain ⟨J31, eJ31, h20⟩ := dlt_s h18
      clear h18
      have kJ31 : ∀ (H : Heap) (locs : List Loc) (ls : Array Slot), Wd (wM X) (tM X) (aM X) X s σ7 H locs → lv_has ls 10 [(0, .ref (X.2.1 33)), (2, .long x12)] → J31 () = some σz → W p l e rm_fMM_findsTimes s m args below meth c H locs 0 0 (MQ below (va_Qv (fun u => u = σz) (poW (wM X) (tM X) (aM X) X sz) (aA (aM X) sz)) args s 0 0 (aA (aM X) sz)) (F0 m 164 ls []) := by
        intro  H locs ls Z hl h19
        rw [eJ31] at h19
        refine lv_iconst (v := (1 : Int32)) hx hb dX12_findsTimes_164 (by decide) ?_
        refine lv_goto (tgt := 169) hx hb dX12_findsTimes_165 (by decide) ?_
        exact kJ17 (1 : Int32) _ _ _ Z (lv_sub hl [0, 1] rfl) h19
      clear eJ31
      refine lv_if_lt (tgt := 164) hx hb dX12_findsTimes_147 (by decide) (fun c32 => ?_) (fun c32 => ?_)
      · have h21 := dit h20 c32
        clear h20
        exact kJ31  _ _ _ Z (lv_sub hl [0, 1] rfl) h21
      · have h22 := dif h20 c32
        clear h20
        refine lv_lload hx hb dX12_findsTimes_150 (lv_at hl 3 rfl) ?_
        refine lv_lconst (v := (0 : Int64)) hx hb dX12_findsTimes_152 (by decide) ?_
        refine W.lcmp hx hb dX12_findsTimes_153 ?_
        obtain ⟨J33, eJ33, h24⟩ := dlt_s h22
        clear h22
        have kJ33 : ∀ (H : Heap) (locs : List Loc) (ls : Array Slot), Wd (wM X) (tM X) (aM X) X s σ7 H locs → lv_has ls 10 [(0, .ref (X.2.1 33)), (2, .long x12)] → J33 () = some σz → W p l e rm_fMM_findsTimes s m args below meth c H locs 0 0 (MQ below (va_Qv (fun u => u = σz) (poW (wM X) (tM X) (aM X) X sz) (aA (aM X) sz)) args s 0 0 (aA (aM X) sz)) (F0 m 168 ls []) := by
          intro  H locs ls Z hl h23
          rw [eJ33] at h23
          refine lv_iconst (v := (0 : Int32)) hx hb dX12_findsTimes_168 (by decide) ?_
          exact kJ17 (0 : Int32) _ _ _ Z (lv_sub hl [0, 1] rfl) h23
        clear eJ33
        refine lv_if_ne (tgt := 168) hx hb dX12_findsTimes_154 (by decide) (fun c34 => ?_) (fun c34 => ?_)
        · have h25 := dif h24 c34
          clear h24
          exact kJ33  _ _ _ Z (lv_sub hl [0, 1] rfl) h25
        · have h26 := dit h24 c34
          clear h24
          refine lv_lload hx hb dX12_findsTimes_157 (lv_at hl 2 rfl) ?_
          refine lv_lconst (v := (0 : Int64)) hx hb dX12_findsTimes_159 (by decide) ?_
          refine W.lcmp hx hb dX12_findsTimes_160 ?_
          refine lv_if_le (tgt := 168) hx hb dX12_findsTimes_161 (by decide) (fun c35 => ?_) (fun c35 => ?_)
          · have h27 := dit h26 c35
            clear h26
            exact kJ33  _ _ _ Z (lv_sub hl [0, 1] rfl) h27
          · have h28 := dif h26 c35
            clear h26
            exact kJ31  _ _ _ Z (lv_sub hl [0, 1] rfl) h28
    clear eK15
    have lL66 : ∀ (n : Nat), ∀ (x8 : Int64) (x9 : Int64) (x10 : Int64) (x11 : Int32) (H : Heap) (locs : List Loc) (ls : Array Slot), Wd (wM X) (tM X) (aM X) X s σ7 H locs → lv_has ls 10 [(0, .ref (X.2.1 33)), (2, .long x8), (4, .long x9), (6, .long x10), (8, .int x11)] → fMM_findsTimes_L66 σ7 K15 n x8 x9 x10 x11 = some σz → W p l e rm_fMM_findsTimes s m args below meth c H locs 0 0 (MQ below (va_Qv (fun u => u = σz) (poW (wM X) (tM X) (aM X) X sz) (aA (aM X) sz)) args s 0 0 (aA (aM X) sz)) (F0 m 66 ls []) := by
      intro n
      induction n with
      | zero =>
        intro x8 x9 x10 x11 H locs ls Z hl h
        exact nomatch (show (none : Option (sT)) = some _ from h)
      | succ n36 ih39 =>
        intro x8 x9 x10 x11 H locs ls Z hl h30
        unfold fMM_findsTimes_L66 at h30
        refine lv_iload hx hb dX12_findsTimes_66 (lv_at hl 4 rfl) ?_
        refine lv_aload_n hx hb dX12_findsTimes_68 rfl (lv_at hl 0 rfl) ?_
        refine g_33_20 B Z kf_RX12_251 dX12_findsTimes_69 ?_
        refine lv_icmp_ge (tgt := 143) hx hb dX12_findsTimes_72 (by decide) (fun c37 => ?_) (fun c37 => ?_)
        · have h31 := dit h30 c37
          clear h30
          exact kK15 x8 x9 x10 _ _ _ Z (lv_sub hl [0, 1, 2, 3] rfl) h31
        · have h32 := dif h30 c37
          clear h30
          refine lv_lload_n hx hb dX12_findsTimes_75 rfl (lv_at hl 1 rfl) ?_
          refine lv_aload_n hx hb dX12_findsTimes_76 rfl (lv_at hl 0 rfl) ?_
          refine g_33_21 B Z kf_RX12_35 dX12_findsTimes_77 ?_
          refine lv_iload hx hb dX12_findsTimes_80 (lv_at hl 4 rfl) ?_
          obtain ⟨z38, h33⟩ := dck_s h32
          clear h32
          refine ld_42 B Z z38 dX12_findsTimes_82 ?_
          obtain ⟨r40, hc38, h34⟩ := db1_s h33
          clear h33
          refine cS_L [.long x8, .long (σ7.2 42 x11.toNatClampNeg)] [] B mx_yX12_divisor (c_fMM_divisor l X _ x8 (σ7.2 42 x11.toNatClampNeg) σ7 r40 hc38) kl_RX12_204 ks_yX12_divisor Z hl rfl rfl ⟨Nat.le_of_ble_eq_true rfl, Nat.le_of_ble_eq_true rfl⟩ rfl rfl (Nat.le_of_ble_eq_true rfl) dX12_findsTimes_83 (fun H locs Z => ?_)
          clear hc38
          refine lv_lstore_n (lv' := [(2, .long r40), (0, .ref (X.2.1 33)), (4, .long x9), (6, .long x10), (8, .int x11)]) hx hb dX12_findsTimes_86 rfl hl (by decide) rfl (fun ls hl => ?_)
          refine lv_lload hx hb dX12_findsTimes_87 (lv_at hl 2 rfl) ?_
          refine lv_aload_n hx hb dX12_findsTimes_89 rfl (lv_at hl 1 rfl) ?_
          refine g_33_21 B Z kf_RX12_35 dX12_findsTimes_90 ?_
          refine lv_iload hx hb dX12_findsTimes_93 (lv_at hl 4 rfl) ?_
          obtain ⟨z41, h35⟩ := dck_s h34
          clear h34
          refine ld_42 B Z z41 dX12_findsTimes_95 ?_
          refine lv_aload_n hx hb dX12_findsTimes_96 rfl (lv_at hl 1 rfl) ?_
          refine lv_iload hx hb dX12_findsTimes_97 (lv_at hl 4 rfl) ?_
          refine lv_iconst (v := (4 : Int32)) hx hb dX12_findsTimes_99 (by decide) ?_
          obtain ⟨r43, hc41, h36⟩ := db1_s h35
          clear h35
          refine cV_L [.int x11, .int (4 : Int32)] [.long (σ7.2 42 x11.toNatClampNeg), .long x9] B mx_yX12_number (c_fMM_number l X _ x11 (4 : Int32) σ7 r43 hc41) kl_RX12_248 mi_yX12_number (rv_33 _ _) hcl_12 Z hl rfl rfl ⟨Nat.le_of_ble_eq_true rfl, Nat.le_of_ble_eq_true rfl⟩ rfl rfl (Nat.le_of_ble_eq_true rfl) dX12_findsTimes_100 (fun H locs Z => ?_)
          clear hc41
          refine lv_lmul hx hb dX12_findsTimes_103 ?_
          refine lv_ladd hx hb dX12_findsTimes_104 ?_
          refine lv_topl (fun x44 ex44 => ?_)
          have h37 := dlt_e ex44 h36
          clear ex44 h36
          refine lv_lstore (lv' := [(4, .long x44), (2, .long r40), (0, .ref (X.2.1 33)), (6, .long x10), (8, .int x11)]) hx hb dX12_findsTimes_105 hl (by decide) rfl (fun ls hl => ?_)
          refine lv_aload_n hx hb dX12_findsTimes_107 rfl (lv_at hl 2 rfl) ?_
          refine lv_aload_n hx hb dX12_findsTimes_108 rfl (lv_at hl 2 rfl) ?_
          refine g_33_19 B Z kf_RX12_32 dX12_findsTimes_109 ?_
          refine lv_iload hx hb dX12_findsTimes_112 (lv_at hl 4 rfl) ?_
          obtain ⟨z45, h38⟩ := dck_s h37
          clear h37
          refine ld_41 B Z z45 dX12_findsTimes_114 ?_
          refine lv_iconst (v := (3 : Int32)) hx hb dX12_findsTimes_115 (by decide) ?_
          obtain ⟨r47, hc45, h39⟩ := db1_s h38
          clear h38
          refine cV_I [.int (σ7.1 41 x11.toNatClampNeg), .int (3 : Int32)] [] B mx_yX12_at (c_fMM_at l X _ (σ7.1 41 x11.toNatClampNeg) (3 : Int32) σ7 r47 hc45) kl_RX12_87 mi_yX12_at (rv_33 _ _) hcl_12 Z hl rfl rfl ⟨Nat.le_of_ble_eq_true rfl, Nat.le_of_ble_eq_true rfl⟩ rfl rfl (Nat.le_of_ble_eq_true rfl) dX12_findsTimes_116 (fun H locs Z => ?_)
          clear hc45
          refine lv_iconst (v := (2 : Int32)) hx hb dX12_findsTimes_119 (by decide) ?_
          refine lv_icmp_eq (tgt := 133) hx hb dX12_findsTimes_120 (by decide) (fun c48 => ?_) (fun c48 => ?_)
          · have h40 := dit h39 c48
            clear h39
            refine lv_lload hx hb dX12_findsTimes_133 (lv_at hl 3 rfl) ?_
            refine lv_lstore (lv' := [(6, .long x10), (4, .long x44), (2, .long r40), (0, .ref (X.2.1 33)), (8, .int x11)]) hx hb dX12_findsTimes_135 hl (by decide) rfl (fun ls hl => ?_)
            refine lv_iinc (v := x11 + (1 : Int32)) (lv' := [(8, .int (x11 + (1 : Int32))), (6, .long x10), (4, .long x44), (2, .long r40), (0, .ref (X.2.1 33))]) hx hb dX12_findsTimes_137 hl (k := 4) rfl (by rfl) (by decide) rfl (fun ls hl => ?_)
            refine lv_goto (tgt := 66) hx hb dX12_findsTimes_140 (by decide) ?_
            exact ih39 r40 x44 x10 (x11 + (1 : Int32)) _ _ _ Z (lv_sub hl [4, 3, 2, 1, 0] rfl) h40
          · have h41 := dif h39 c48
            clear h39
            refine lv_aload_n hx hb dX12_findsTimes_123 rfl (lv_at hl 2 rfl) ?_
            refine g_33_21 B Z kf_RX12_35 dX12_findsTimes_124 ?_
            refine lv_iload hx hb dX12_findsTimes_127 (lv_at hl 4 rfl) ?_
            obtain ⟨z49, h42⟩ := dck_s h41
            clear h41
            refine ld_42 B Z z49 dX12_findsTimes_129 ?_
            refine lv_goto (tgt := 135) hx hb dX12_findsTimes_130 (by decide) ?_
            refine lv_topl (fun x50 ex50 => ?_)
            have h43 := dlt_e ex50 h42
            clear ex50 h42
            refine lv_lstore (lv' := [(6, .long x50), (4, .long x44), (2, .long r40), (0, .ref (X.2.1 33)), (8, .int x11)]) hx hb dX12_findsTimes_135 hl (by decide) rfl (fun ls hl => ?_)
            refine lv_iinc (v := x11 + (1 : Int32)) (lv' := [(8, .int (x11 + (1 : Int32))), (6, .long x50), (4, .long x44), (2, .long r40), (0, .ref (X.2.1 33))]) hx hb dX12_findsTimes_137 hl (k := 4) rfl (by rfl) (by decide) rfl (fun ls hl => ?_)
            refine lv_goto (tgt := 66) hx hb dX12_findsTimes_140 (by decide) ?_
            exact ih39 r40 x44 x50 (x11 + (1 : Int32)) _ _ _ Z (lv_sub hl [4, 3, 2, 1, 0] rfl) h43
    exact lL66 FU (0 : Int64) (0 : Int64) (0 : Int64) (0 : Int32) _ _ _ Z (lv_sub hl [4, 3, 2, 1, 0] rfl) h29
  clear eK5
  have lL7 : ∀ (n : Nat), ∀ (x2 : Int32) (σ3 : sT) (H : Heap) (locs : List Loc) (ls : Array Slot), Wd (wM X) (tM X) (aM X) X s σ3 H locs → lv_has ls 10 [(0, .ref (X.2.1 33)), (1, .int a1), (2, .int x2)] → fMM_findsTimes_L7 a1 K5 n x2 σ3 = some σz → W p l e rm_fMM_findsTimes s m args below meth c H locs 0 0 (MQ below (va_Qv (fun u => u = σz) (poW (wM X) (tM X) (aM X) X sz) (aA (aM X) sz)) args s 0 0 (aA (aM X) sz)) (F0 m 7 ls []) := by
    intro n
    induction n with
    | zero =>
      intro x2 σ3 H locs ls Z hl h
      exact nomatch (show (none : Option (sT)) = some _ from h)
    | succ n51 ih5 =>
      intro x2 σ3 H locs ls Z hl h45
      unfold fMM_findsTimes_L7 at h45
      refine lv_iload_n hx hb dX12_findsTimes_7 rfl (lv_at hl 2 rfl) ?_
      refine lv_aload_n hx hb dX12_findsTimes_8 rfl (lv_at hl 0 rfl) ?_
      refine g_33_0 B Z kf_RX12_7 dX12_findsTimes_9 ?_
      refine lv_iconst (v := (0 : Int32)) hx hb dX12_findsTimes_12 (by decide) ?_
      obtain ⟨z52, h46⟩ := dck_s h45
      clear h45
      refine ld_34 B Z z52 dX12_findsTimes_13 ?_
      refine lv_icmp_ge (tgt := 51) hx hb dX12_findsTimes_14 (by decide) (fun c53 => ?_) (fun c53 => ?_)
      · have h47 := dit h46 c53
        clear h46
        exact kK5 σ3 _ _ _ Z (lv_sub hl [0] rfl) h47
      · have h48 := dif h46 c53
        clear h46
        refine lv_iload_n hx hb dX12_findsTimes_17 rfl (lv_at hl 1 rfl) ?_
        refine lv_iload_n hx hb dX12_findsTimes_18 rfl (lv_at hl 2 rfl) ?_
        obtain ⟨r55, hc53, h49⟩ := db1_s h48
        clear h48
        refine cS_I [.int a1, .int x2] [] B mx_yX12_has (c_fMM_has l X _ a1 x2 σ3 r55 hc53) kl_RX12_95 ks_yX12_has Z hl rfl rfl ⟨Nat.le_of_ble_eq_true rfl, Nat.le_of_ble_eq_true rfl⟩ rfl rfl (Nat.le_of_ble_eq_true rfl) dX12_findsTimes_19 (fun H locs Z => ?_)
        clear hc53
        refine lv_if_eq (tgt := 45) hx hb dX12_findsTimes_22 (by decide) (fun c56 => ?_) (fun c56 => ?_)
        · have h50 := dit h49 c56
          clear h49
          refine lv_iinc (v := x2 + (1 : Int32)) (lv' := [(2, .int (x2 + (1 : Int32))), (0, .ref (X.2.1 33)), (1, .int a1)]) hx hb dX12_findsTimes_45 hl (k := 2) rfl (by rfl) (by decide) rfl (fun ls hl => ?_)
          refine lv_goto (tgt := 7) hx hb dX12_findsTimes_48 (by decide) ?_
          exact ih5 (x2 + (1 : Int32)) σ3 _ _ _ Z (lv_sub hl [1, 2, 0] rfl) h50
        · have h51 := dif h49 c56
          clear h49
          refine lv_aload_n hx hb dX12_findsTimes_25 rfl (lv_at hl 0 rfl) ?_
          refine g_33_19 B Z kf_RX12_32 dX12_findsTimes_26 ?_
          refine lv_aload_n hx hb dX12_findsTimes_29 rfl (lv_at hl 0 rfl) ?_
          refine g_33_20 B Z kf_RX12_251 dX12_findsTimes_30 ?_
          refine lv_iload_n hx hb dX12_findsTimes_33 rfl (lv_at hl 2 rfl) ?_
          obtain ⟨z57, h52⟩ := dck_s h51
          clear h51
          refine st_41 B Z z57 dX12_findsTimes_34 (fun H locs Z => ?_)
          obtain ⟨σ58, eσ58, h53⟩ := dlt_s h52
          clear h52
          replace Z := Wd.eq eσ58 Z
          clear eσ58
          refine lv_aload_n hx hb dX12_findsTimes_35 rfl (lv_at hl 0 rfl) ?_
          refine lv_dup hx hb dX12_findsTimes_36 rfl ?_
          refine g_33_20 B Z kf_RX12_251 dX12_findsTimes_37 ?_
          refine lv_iconst (v := (1 : Int32)) hx hb dX12_findsTimes_40 (by decide) ?_
          refine lv_iadd hx hb dX12_findsTimes_41 ?_
          refine s_33_20 B Z kf_RX12_251 dX12_findsTimes_42 (fun H locs Z => ?_)
          obtain ⟨σ59, eσ59, h54⟩ := dlt_s h53
          clear h53
          replace Z := Wd.eq eσ59 Z
          clear eσ59
          refine lv_iinc (v := x2 + (1 : Int32)) (lv' := [(2, .int (x2 + (1 : Int32))), (0, .ref (X.2.1 33)), (1, .int a1)]) hx hb dX12_findsTimes_45 hl (k := 2) rfl (by rfl) (by decide) rfl (fun ls hl => ?_)
          refine lv_goto (tgt := 7) hx hb dX12_findsTimes_48 (by decide) ?_
          exact ih5 (x2 + (1 : Int32)) σ59 _ _ _ Z (lv_sub hl [1, 2, 0] rfl) h54
  exact lL7 FU (0 : Int32) σ1 _ _ _ Z (lv_sub hl [1, 2, 0] rfl) h44
theorem dX12_timesOf_0 : decode cX12_timesOf 0 = .ok (.aload_n 0, 1) := by decide +kernel
theorem dX12_timesOf_1 : decode cX12_timesOf 1 = .ok (.iload_n 1, 1) := by decide +kernel
theorem dX12_timesOf_2 : decode cX12_timesOf 2 = .ok (.invokevirtual 264, 3) := by decide +kernel
theorem dX12_timesOf_5 : decode cX12_timesOf 5 = .ok (.iconst 0, 1) := by decide +kernel
theorem dX12_timesOf_6 : decode cX12_timesOf 6 = .ok (.istore_n 3, 1) := by decide +kernel
theorem dX12_timesOf_7 : decode cX12_timesOf 7 = .ok (.iconst 0, 1) := by decide +kernel
theorem dX12_timesOf_8 : decode cX12_timesOf 8 = .ok (.istore 4, 2) := by decide +kernel
theorem dX12_timesOf_10 : decode cX12_timesOf 10 = .ok (.iload 4, 2) := by decide +kernel
theorem dX12_timesOf_12 : decode cX12_timesOf 12 = .ok (.aload_n 0, 1) := by decide +kernel
theorem dX12_timesOf_13 : decode cX12_timesOf 13 = .ok (.getfield 251, 3) := by decide +kernel
theorem dX12_timesOf_16 : decode cX12_timesOf 16 = .ok (.if_icmp .ge 33, 3) := by decide +kernel
theorem dX12_timesOf_19 : decode cX12_timesOf 19 = .ok (.aload_n 0, 1) := by decide +kernel
theorem dX12_timesOf_20 : decode cX12_timesOf 20 = .ok (.getfield 32, 3) := by decide +kernel
theorem dX12_timesOf_23 : decode cX12_timesOf 23 = .ok (.iload 4, 2) := by decide +kernel
theorem dX12_timesOf_25 : decode cX12_timesOf 25 = .ok (.iaload, 1) := by decide +kernel
theorem dX12_timesOf_26 : decode cX12_timesOf 26 = .ok (.iload_n 2, 1) := by decide +kernel
theorem dX12_timesOf_27 : decode cX12_timesOf 27 = .ok (.if_icmp .ne 14, 3) := by decide +kernel
theorem dX12_timesOf_30 : decode cX12_timesOf 30 = .ok (.aload_n 0, 1) := by decide +kernel
theorem dX12_timesOf_31 : decode cX12_timesOf 31 = .ok (.getfield 35, 3) := by decide +kernel
theorem dX12_timesOf_34 : decode cX12_timesOf 34 = .ok (.iload 4, 2) := by decide +kernel
theorem dX12_timesOf_36 : decode cX12_timesOf 36 = .ok (.laload, 1) := by decide +kernel
theorem dX12_timesOf_37 : decode cX12_timesOf 37 = .ok (.l2i, 1) := by decide +kernel
theorem dX12_timesOf_38 : decode cX12_timesOf 38 = .ok (.goto 4, 3) := by decide +kernel
theorem dX12_timesOf_41 : decode cX12_timesOf 41 = .ok (.iload_n 3, 1) := by decide +kernel
theorem dX12_timesOf_42 : decode cX12_timesOf 42 = .ok (.istore_n 3, 1) := by decide +kernel
theorem dX12_timesOf_43 : decode cX12_timesOf 43 = .ok (.iinc 4 1, 3) := by decide +kernel
theorem dX12_timesOf_46 : decode cX12_timesOf 46 = .ok (.goto (-36), 3) := by decide +kernel
theorem dX12_timesOf_49 : decode cX12_timesOf 49 = .ok (.iload_n 3, 1) := by decide +kernel
theorem dX12_timesOf_50 : decode cX12_timesOf 50 = .ok (.ireturn, 1) := by decide +kernel
def rm_fMM_timesOf : Room := { frames := 6, cells := 0, slots := 0, locals := 183 }
set_option maxHeartbeats 4000000 in
set_option maxRecDepth 100000 in
theorem c_fMM_timesOf (l : Launch) (X : eX) (sz : Nat) (a1 : Int32) (a2 : Int32) (σ : sT) (rz : Int32) (σz : sT) (h0 : fMM_timesOf a1 a2 σ = some (rz, σz)) : ctI l yX12_timesOf cX12_timesOf 5 (some .int) rm_fMM_timesOf [.ref (X.2.1 33), .int a1, .int a2] (wM X) (tM X) (aM X) X sz σ rz σz := by
  refine ct_of (by decide +kernel) (Nat.le_of_ble_eq_true rfl) ?_
  intro p e s m args below meth c ls hz B hl Z
  have B : Bd p s m args meth c RX12 cX12_timesOf 5 (some .int) := B
  have hl : lv_has ls 5 [(0, .ref (X.2.1 33)), (1, .int a1), (2, .int a2)] := hl
  have hx := B.1
  have hb := B.2.1
  unfold fMM_timesOf at h0
  refine lv_aload_n hx hb dX12_timesOf_0 rfl (lv_at hl 0 rfl) ?_
  refine lv_iload_n hx hb dX12_timesOf_1 rfl (lv_at hl 1 rfl) ?_
  obtain ⟨σ2, hc0, h1⟩ := db1_s h0
  clear h0
  refine cV_V [.int a1] [] B mx_yX12_findsTimes (c_fMM_findsTimes l X _ a1 σ σ2 hc0) kl_RX12_264 mi_yX12_findsTimes (rv_33 _ _) hcl_12 Z hl rfl rfl ⟨Nat.le_of_ble_eq_true rfl, Nat.le_of_ble_eq_true rfl⟩ rfl rfl (Nat.le_of_ble_eq_true rfl) dX12_timesOf_2 (fun H locs Z => ?_)
  clear hc0
  refine lv_iconst (v := (0 : Int32)) hx hb dX12_timesOf_5 (by decide) ?_
  refine lv_istore_n (lv' := [(3, .int (0 : Int32)), (0, .ref (X.2.1 33)), (1, .int a1), (2, .int a2)]) hx hb dX12_timesOf_6 rfl hl (by decide) rfl (fun ls hl => ?_)
  refine lv_iconst (v := (0 : Int32)) hx hb dX12_timesOf_7 (by decide) ?_
  refine lv_istore (lv' := [(4, .int (0 : Int32)), (3, .int (0 : Int32)), (0, .ref (X.2.1 33)), (1, .int a1), (2, .int a2)]) hx hb dX12_timesOf_8 hl (by decide) rfl (fun ls hl => ?_)
  have lL10 : ∀ (n : Nat), ∀ (x3 : Int32) (x4 : Int32) (H : Heap) (locs : List Loc) (ls : Array Slot), Wd (wM X) (tM X) (aM X) X s σ2 H locs → lv_has ls 5 [(0, .ref (X.2.1 33)), (2, .int a2), (3, .int x3), (4, .int x4)] → fMM_timesOf_L10 a2 σ2 n x3 x4 = some (rz, σz) → W p l e rm_fMM_timesOf s m args below meth c H locs 0 0 (MQ below (va_Qi (fun a u => a = rz ∧ u = σz) (poW (wM X) (tM X) (aM X) X sz) (aA (aM X) sz)) args s 0 0 (aA (aM X) sz)) (F0 m 10 ls []) := by
    intro n
    induction n with
    | zero =>
      intro x3 x4 H locs ls Z hl h
      exact nomatch (show (none : Option (Int32 × sT)) = some _ from h)
    | succ n5 ih7 =>
      intro x3 x4 H locs ls Z hl h2
      unfold fMM_timesOf_L10 at h2
      refine lv_iload hx hb dX12_timesOf_10 (lv_at hl 3 rfl) ?_
      refine lv_aload_n hx hb dX12_timesOf_12 rfl (lv_at hl 0 rfl) ?_
      refine g_33_20 B Z kf_RX12_251 dX12_timesOf_13 ?_
      refine lv_icmp_ge (tgt := 49) hx hb dX12_timesOf_16 (by decide) (fun c6 => ?_) (fun c6 => ?_)
      · have h3 := dit h2 c6
        clear h2
        refine lv_iload_n hx hb dX12_timesOf_49 rfl (lv_at hl 2 rfl) ?_
        exact reI B Z rfl hz h3 dX12_timesOf_50
      · have h4 := dif h2 c6
        clear h2
        refine lv_aload_n hx hb dX12_timesOf_19 rfl (lv_at hl 0 rfl) ?_
        refine g_33_19 B Z kf_RX12_32 dX12_timesOf_20 ?_
        refine lv_iload hx hb dX12_timesOf_23 (lv_at hl 3 rfl) ?_
        obtain ⟨z7, h5⟩ := dck_s h4
        clear h4
        refine ld_41 B Z z7 dX12_timesOf_25 ?_
        refine lv_iload_n hx hb dX12_timesOf_26 rfl (lv_at hl 1 rfl) ?_
        refine lv_icmp_ne (tgt := 41) hx hb dX12_timesOf_27 (by decide) (fun c8 => ?_) (fun c8 => ?_)
        · have h6 := dif h5 c8
          clear h5
          refine lv_iload_n hx hb dX12_timesOf_41 rfl (lv_at hl 2 rfl) ?_
          refine lv_istore_n (lv' := [(3, .int x3), (0, .ref (X.2.1 33)), (2, .int a2), (4, .int x4)]) hx hb dX12_timesOf_42 rfl hl (by decide) rfl (fun ls hl => ?_)
          refine lv_iinc (v := x4 + (1 : Int32)) (lv' := [(4, .int (x4 + (1 : Int32))), (3, .int x3), (0, .ref (X.2.1 33)), (2, .int a2)]) hx hb dX12_timesOf_43 hl (k := 3) rfl (by rfl) (by decide) rfl (fun ls hl => ?_)
          refine lv_goto (tgt := 10) hx hb dX12_timesOf_46 (by decide) ?_
          exact ih7 x3 (x4 + (1 : Int32)) _ _ _ Z (lv_sub hl [2, 3, 1, 0] rfl) h6
        · have h7 := dit h5 c8
          clear h5
          refine lv_aload_n hx hb dX12_timesOf_30 rfl (lv_at hl 0 rfl) ?_
          refine g_33_21 B Z kf_RX12_35 dX12_timesOf_31 ?_
          refine lv_iload hx hb dX12_timesOf_34 (lv_at hl 3 rfl) ?_
          obtain ⟨z9, h8⟩ := dck_s h7
          clear h7
          refine ld_42 B Z z9 dX12_timesOf_36 ?_
          refine lv_l2i hx hb dX12_timesOf_37 rfl ?_
          refine lv_goto (tgt := 42) hx hb dX12_timesOf_38 (by decide) ?_
          refine lv_topi (fun x10 ex10 => ?_)
          have h9 := dlt_e ex10 h8
          clear ex10 h8
          refine lv_istore_n (lv' := [(3, .int x10), (0, .ref (X.2.1 33)), (2, .int a2), (4, .int x4)]) hx hb dX12_timesOf_42 rfl hl (by decide) rfl (fun ls hl => ?_)
          refine lv_iinc (v := x4 + (1 : Int32)) (lv' := [(4, .int (x4 + (1 : Int32))), (3, .int x10), (0, .ref (X.2.1 33)), (2, .int a2)]) hx hb dX12_timesOf_43 hl (k := 3) rfl (by rfl) (by decide) rfl (fun ls hl => ?_)
          refine lv_goto (tgt := 10) hx hb dX12_timesOf_46 (by decide) ?_
          exact ih7 x10 (x4 + (1 : Int32)) _ _ _ Z (lv_sub hl [2, 3, 1, 0] rfl) h9
  exact lL10 FU (0 : Int32) (0 : Int32) _ _ _ Z (lv_sub hl [2, 4, 1, 0] rfl) h1
theorem dX12_times_0 : decode cX12_times 0 = .ok (.aload_n 0, 1) := by decide +kernel
theorem dX12_times_1 : decode cX12_times 1 = .ok (.iload_n 1, 1) := by decide +kernel
theorem dX12_times_2 : decode cX12_times 2 = .ok (.invokevirtual 183, 3) := by decide +kernel
theorem dX12_times_5 : decode cX12_times 5 = .ok (.ifCond .eq 11, 3) := by decide +kernel
theorem dX12_times_8 : decode cX12_times 8 = .ok (.aload_n 0, 1) := by decide +kernel
theorem dX12_times_9 : decode cX12_times 9 = .ok (.iload_n 2, 1) := by decide +kernel
theorem dX12_times_10 : decode cX12_times 10 = .ok (.invokevirtual 180, 3) := by decide +kernel
theorem dX12_times_13 : decode cX12_times 13 = .ok (.ifCond .ne 10, 3) := by decide +kernel
theorem dX12_times_16 : decode cX12_times 16 = .ok (.aload_n 0, 1) := by decide +kernel
theorem dX12_times_17 : decode cX12_times 17 = .ok (.ldc 63, 2) := by decide +kernel
theorem dX12_times_19 : decode cX12_times 19 = .ok (.invokevirtual 168, 3) := by decide +kernel
theorem dX12_times_22 : decode cX12_times 22 = .ok (.ireturn, 1) := by decide +kernel
theorem dX12_times_23 : decode cX12_times 23 = .ok (.aload_n 0, 1) := by decide +kernel
theorem dX12_times_24 : decode cX12_times 24 = .ok (.iload_n 1, 1) := by decide +kernel
theorem dX12_times_25 : decode cX12_times 25 = .ok (.invokevirtual 186, 3) := by decide +kernel
theorem dX12_times_28 : decode cX12_times 28 = .ok (.ifCond .eq 12, 3) := by decide +kernel
theorem dX12_times_31 : decode cX12_times 31 = .ok (.aload_n 0, 1) := by decide +kernel
theorem dX12_times_32 : decode cX12_times 32 = .ok (.ldc 201, 2) := by decide +kernel
theorem dX12_times_34 : decode cX12_times 34 = .ok (.invokevirtual 168, 3) := by decide +kernel
theorem dX12_times_37 : decode cX12_times 37 = .ok (.goto 13, 3) := by decide +kernel
theorem dX12_times_40 : decode cX12_times 40 = .ok (.aload_n 0, 1) := by decide +kernel
theorem dX12_times_41 : decode cX12_times 41 = .ok (.aload_n 0, 1) := by decide +kernel
theorem dX12_times_42 : decode cX12_times 42 = .ok (.iload_n 1, 1) := by decide +kernel
theorem dX12_times_43 : decode cX12_times 43 = .ok (.invokevirtual 245, 3) := by decide +kernel
theorem dX12_times_46 : decode cX12_times 46 = .ok (.iload_n 2, 1) := by decide +kernel
theorem dX12_times_47 : decode cX12_times 47 = .ok (.invokevirtual 267, 3) := by decide +kernel
theorem dX12_times_50 : decode cX12_times 50 = .ok (.ireturn, 1) := by decide +kernel
def rm_fMM_times : Room := { frames := 7, cells := 0, slots := 0, locals := 212 }
set_option maxHeartbeats 4000000 in
set_option maxRecDepth 100000 in
theorem c_fMM_times (l : Launch) (X : eX) (sz : Nat) (a1 : Int32) (a2 : Int32) (σ : sT) (rz : Int32) (σz : sT) (h0 : fMM_times a1 a2 σ = some (rz, σz)) : ctI l yX12_times cX12_times 3 (some .int) rm_fMM_times [.ref (X.2.1 33), .int a1, .int a2] (wM X) (tM X) (aM X) X sz σ rz σz := by
  refine ct_of (by decide +kernel) (Nat.le_of_ble_eq_true rfl) ?_
  intro p e s m args below meth c ls hz B hl Z
  have B : Bd p s m args meth c RX12 cX12_times 3 (some .int) := B
  have hl : lv_has ls 3 [(0, .ref (X.2.1 33)), (1, .int a1), (2, .int a2)] := hl
  have hx := B.1
  have hb := B.2.1
  unfold fMM_times at h0
  refine lv_aload_n hx hb dX12_times_0 rfl (lv_at hl 0 rfl) ?_
  refine lv_iload_n hx hb dX12_times_1 rfl (lv_at hl 1 rfl) ?_
  obtain ⟨r2, hc0, h1⟩ := db1_s h0
  clear h0
  refine cV_I [.int a1] [] B mx_yX12_isSet (c_fMM_isSet l X _ a1 σ r2 hc0) kl_RX12_183 mi_yX12_isSet (rv_33 _ _) hcl_12 Z hl rfl rfl ⟨Nat.le_of_ble_eq_true rfl, Nat.le_of_ble_eq_true rfl⟩ rfl rfl (Nat.le_of_ble_eq_true rfl) dX12_times_2 (fun H locs Z => ?_)
  clear hc0
  obtain ⟨J3, eJ3, h4⟩ := dlt_s h1
  clear h1
  have kJ3 : ∀ (H : Heap) (locs : List Loc) (ls : Array Slot), Wd (wM X) (tM X) (aM X) X s σ H locs → lv_has ls 3 [(0, .ref (X.2.1 33))] → J3 () = some (rz, σz) → W p l e rm_fMM_times s m args below meth c H locs 0 0 (MQ below (va_Qi (fun a u => a = rz ∧ u = σz) (poW (wM X) (tM X) (aM X) X sz) (aA (aM X) sz)) args s 0 0 (aA (aM X) sz)) (F0 m 16 ls []) := by
    intro  H locs ls Z hl h2
    rw [eJ3] at h2
    refine lv_aload_n hx hb dX12_times_16 rfl (lv_at hl 0 rfl) ?_
    refine lv_ldc hx hb B.2.2.2.1 (B.2.2.2.2.1 _ kc_RX12_63) dX12_times_17 ?_
    obtain ⟨r5, σ6, hc3, h3⟩ := db2_s h2
    clear h2
    refine cV_I [.int (-1000002 : Int32)] [] B mx_yX12_refuses (c_fMM_refuses l X _ (-1000002 : Int32) σ r5 σ6 hc3) kl_RX12_168 mi_yX12_refuses (rv_33 _ _) hcl_12 Z hl rfl rfl ⟨Nat.le_of_ble_eq_true rfl, Nat.le_of_ble_eq_true rfl⟩ rfl rfl (Nat.le_of_ble_eq_true rfl) dX12_times_19 (fun H locs Z => ?_)
    clear hc3
    exact reI B Z rfl hz h3 dX12_times_22
  clear eJ3
  refine lv_if_eq (tgt := 16) hx hb dX12_times_5 (by decide) (fun c7 => ?_) (fun c7 => ?_)
  · have h5 := dit h4 c7
    clear h4
    exact kJ3  _ _ _ Z (lv_sub hl [0] rfl) h5
  · have h6 := dif h4 c7
    clear h4
    refine lv_aload_n hx hb dX12_times_8 rfl (lv_at hl 0 rfl) ?_
    refine lv_iload_n hx hb dX12_times_9 rfl (lv_at hl 2 rfl) ?_
    obtain ⟨r9, hc7, h7⟩ := db1_s h6
    clear h6
    refine cV_I [.int a2] [] B mx_yX12_isRow (c_fMM_isRow l X _ a2 σ r9 hc7) kl_RX12_180 mi_yX12_isRow (rv_33 _ _) hcl_12 Z hl rfl rfl ⟨Nat.le_of_ble_eq_true rfl, Nat.le_of_ble_eq_true rfl⟩ rfl rfl (Nat.le_of_ble_eq_true rfl) dX12_times_10 (fun H locs Z => ?_)
    clear hc7
    refine lv_if_ne (tgt := 23) hx hb dX12_times_13 (by decide) (fun c10 => ?_) (fun c10 => ?_)
    · have h8 := dif h7 c10
      clear h7
      refine lv_aload_n hx hb dX12_times_23 rfl (lv_at hl 0 rfl) ?_
      refine lv_iload_n hx hb dX12_times_24 rfl (lv_at hl 1 rfl) ?_
      obtain ⟨r12, σ13, hc10, h9⟩ := db2_s h8
      clear h8
      refine cV_I [.int a1] [] B mx_yX12_canSet (c_fMM_canSet l X _ a1 σ r12 σ13 hc10) kl_RX12_186 mi_yX12_canSet (rv_33 _ _) hcl_12 Z hl rfl rfl ⟨Nat.le_of_ble_eq_true rfl, Nat.le_of_ble_eq_true rfl⟩ rfl rfl (Nat.le_of_ble_eq_true rfl) dX12_times_25 (fun H locs Z => ?_)
      clear hc10
      refine lv_if_eq (tgt := 40) hx hb dX12_times_28 (by decide) (fun c14 => ?_) (fun c14 => ?_)
      · have h10 := dit h9 c14
        clear h9
        refine lv_aload_n hx hb dX12_times_40 rfl (lv_at hl 0 rfl) ?_
        refine lv_aload_n hx hb dX12_times_41 rfl (lv_at hl 0 rfl) ?_
        refine lv_iload_n hx hb dX12_times_42 rfl (lv_at hl 1 rfl) ?_
        obtain ⟨r16, σ17, hc14, h11⟩ := db2_s h10
        clear h10
        refine cV_I [.int a1] [.ref (X.2.1 33)] B mx_yX12_coreOf (c_fMM_coreOf l X _ a1 σ13 r16 σ17 hc14) kl_RX12_245 mi_yX12_coreOf (rv_33 _ _) hcl_12 Z hl rfl rfl ⟨Nat.le_of_ble_eq_true rfl, Nat.le_of_ble_eq_true rfl⟩ rfl rfl (Nat.le_of_ble_eq_true rfl) dX12_times_43 (fun H locs Z => ?_)
        clear hc14
        refine lv_iload_n hx hb dX12_times_46 rfl (lv_at hl 2 rfl) ?_
        obtain ⟨r19, σ20, hc17, h12⟩ := db2_s h11
        clear h11
        refine cV_I [.int r16, .int a2] [] B mx_yX12_timesOf (c_fMM_timesOf l X _ r16 a2 σ17 r19 σ20 hc17) kl_RX12_267 mi_yX12_timesOf (rv_33 _ _) hcl_12 Z hl rfl rfl ⟨Nat.le_of_ble_eq_true rfl, Nat.le_of_ble_eq_true rfl⟩ rfl rfl (Nat.le_of_ble_eq_true rfl) dX12_times_47 (fun H locs Z => ?_)
        clear hc17
        exact reI B Z rfl hz h12 dX12_times_50
      · have h13 := dif h9 c14
        clear h9
        refine lv_aload_n hx hb dX12_times_31 rfl (lv_at hl 0 rfl) ?_
        refine lv_ldc hx hb B.2.2.2.1 (B.2.2.2.2.1 _ kc_RX12_201) dX12_times_32 ?_
        obtain ⟨r22, σ23, hc20, h14⟩ := db2_s h13
        clear h13
        refine cV_I [.int (-1000003 : Int32)] [] B mx_yX12_refuses (c_fMM_refuses l X _ (-1000003 : Int32) σ13 r22 σ23 hc20) kl_RX12_168 mi_yX12_refuses (rv_33 _ _) hcl_12 Z hl rfl rfl ⟨Nat.le_of_ble_eq_true rfl, Nat.le_of_ble_eq_true rfl⟩ rfl rfl (Nat.le_of_ble_eq_true rfl) dX12_times_34 (fun H locs Z => ?_)
        clear hc20
        refine lv_goto (tgt := 50) hx hb dX12_times_37 (by decide) ?_
        exact reI B Z rfl hz h14 dX12_times_50
    · have h15 := dit h7 c10
      clear h7
      exact kJ3  _ _ _ Z (lv_sub hl [0] rfl) h15
theorem dX12_ones_0 : decode cX12_ones 0 = .ok (.iconst 0, 1) := by decide +kernel
theorem dX12_ones_1 : decode cX12_ones 1 = .ok (.istore_n 1, 1) := by decide +kernel
theorem dX12_ones_2 : decode cX12_ones 2 = .ok (.iload_n 0, 1) := by decide +kernel
theorem dX12_ones_3 : decode cX12_ones 3 = .ok (.istore_n 2, 1) := by decide +kernel
theorem dX12_ones_4 : decode cX12_ones 4 = .ok (.iload_n 2, 1) := by decide +kernel
theorem dX12_ones_5 : decode cX12_ones 5 = .ok (.ifCond .eq 15, 3) := by decide +kernel
theorem dX12_ones_8 : decode cX12_ones 8 = .ok (.iinc 1 1, 3) := by decide +kernel
theorem dX12_ones_11 : decode cX12_ones 11 = .ok (.iload_n 2, 1) := by decide +kernel
theorem dX12_ones_12 : decode cX12_ones 12 = .ok (.iload_n 2, 1) := by decide +kernel
theorem dX12_ones_13 : decode cX12_ones 13 = .ok (.iconst 1, 1) := by decide +kernel
theorem dX12_ones_14 : decode cX12_ones 14 = .ok (.isub, 1) := by decide +kernel
theorem dX12_ones_15 : decode cX12_ones 15 = .ok (.iand, 1) := by decide +kernel
theorem dX12_ones_16 : decode cX12_ones 16 = .ok (.istore_n 2, 1) := by decide +kernel
theorem dX12_ones_17 : decode cX12_ones 17 = .ok (.goto (-13), 3) := by decide +kernel
theorem dX12_ones_20 : decode cX12_ones 20 = .ok (.iload_n 1, 1) := by decide +kernel
theorem dX12_ones_21 : decode cX12_ones 21 = .ok (.ireturn, 1) := by decide +kernel
def rm_fMM_ones : Room := { frames := 1, cells := 0, slots := 0, locals := 60 }
set_option maxHeartbeats 4000000 in
set_option maxRecDepth 100000 in
theorem c_fMM_ones (l : Launch) (X : eX) (sz : Nat) (a1 : Int32) (σ : sT) (rz : Int32) (h0 : fMM_ones a1 = some rz) : ctI l yX12_ones cX12_ones 3 (some .int) rm_fMM_ones [.int a1] (wM X) (tM X) (aM X) X sz σ rz σ := by
  refine ct_of (by decide +kernel) (Nat.le_of_ble_eq_true rfl) ?_
  intro p e s m args below meth c ls hz B hl Z
  have B : Bd p s m args meth c RX12 cX12_ones 3 (some .int) := B
  have hl : lv_has ls 3 [(0, .int a1)] := hl
  have hx := B.1
  have hb := B.2.1
  unfold fMM_ones at h0
  refine lv_iconst (v := (0 : Int32)) hx hb dX12_ones_0 (by decide) ?_
  refine lv_istore_n (lv' := [(1, .int (0 : Int32)), (0, .int a1)]) hx hb dX12_ones_1 rfl hl (by decide) rfl (fun ls hl => ?_)
  refine lv_iload_n hx hb dX12_ones_2 rfl (lv_at hl 1 rfl) ?_
  refine lv_istore_n (lv' := [(2, .int a1), (1, .int (0 : Int32)), (0, .int a1)]) hx hb dX12_ones_3 rfl hl (by decide) rfl (fun ls hl => ?_)
  have lL4 : ∀ (n : Nat), ∀ (x1 : Int32) (x2 : Int32) (H : Heap) (locs : List Loc) (ls : Array Slot), Wd (wM X) (tM X) (aM X) X s σ H locs → lv_has ls 3 [(1, .int x1), (2, .int x2)] → fMM_ones_L4 n x1 x2 = some rz → W p l e rm_fMM_ones s m args below meth c H locs 0 0 (MQ below (va_Qi (fun a u => a = rz ∧ u = σ) (poW (wM X) (tM X) (aM X) X sz) (aA (aM X) sz)) args s 0 0 (aA (aM X) sz)) (F0 m 4 ls []) := by
    intro n
    induction n with
    | zero =>
      intro x1 x2 H locs ls Z hl h
      exact nomatch (show (none : Option (Int32)) = some _ from h)
    | succ n3 ih4 =>
      intro x1 x2 H locs ls Z hl h1
      unfold fMM_ones_L4 at h1
      refine lv_iload_n hx hb dX12_ones_4 rfl (lv_at hl 1 rfl) ?_
      refine lv_if_eq (tgt := 20) hx hb dX12_ones_5 (by decide) (fun c4 => ?_) (fun c4 => ?_)
      · have h2 := dit h1 c4
        clear h1
        refine lv_iload_n hx hb dX12_ones_20 rfl (lv_at hl 0 rfl) ?_
        exact reI B Z rfl hz (congrArg (Option.map (fun q => (q, σ))) h2) dX12_ones_21
      · have h3 := dif h1 c4
        clear h1
        refine lv_iinc (v := x1 + (1 : Int32)) (lv' := [(1, .int (x1 + (1 : Int32))), (2, .int x2)]) hx hb dX12_ones_8 hl (k := 0) rfl (by rfl) (by decide) rfl (fun ls hl => ?_)
        refine lv_iload_n hx hb dX12_ones_11 rfl (lv_at hl 1 rfl) ?_
        refine lv_iload_n hx hb dX12_ones_12 rfl (lv_at hl 1 rfl) ?_
        refine lv_iconst (v := (1 : Int32)) hx hb dX12_ones_13 (by decide) ?_
        refine lv_isub hx hb dX12_ones_14 ?_
        refine lv_iand hx hb dX12_ones_15 ?_
        refine lv_topi (fun x5 ex5 => ?_)
        have h4 := dlt_e ex5 h3
        clear ex5 h3
        refine lv_istore_n (lv' := [(2, .int x5), (1, .int (x1 + (1 : Int32)))]) hx hb dX12_ones_16 rfl hl (by decide) rfl (fun ls hl => ?_)
        refine lv_goto (tgt := 4) hx hb dX12_ones_17 (by decide) ?_
        exact ih4 (x1 + (1 : Int32)) x5 _ _ _ Z (lv_sub hl [1, 0] rfl) h4
  exact lL4 FU (0 : Int32) a1 _ _ _ Z (lv_sub hl [1, 0] rfl) h0
theorem dX12_laysSides_0 : decode cX12_laysSides 0 = .ok (.aload_n 0, 1) := by decide +kernel
theorem dX12_laysSides_1 : decode cX12_laysSides 1 = .ok (.iconst 0, 1) := by decide +kernel
theorem dX12_laysSides_2 : decode cX12_laysSides 2 = .ok (.putfield 275, 3) := by decide +kernel
theorem dX12_laysSides_5 : decode cX12_laysSides 5 = .ok (.iconst 0, 1) := by decide +kernel
theorem dX12_laysSides_6 : decode cX12_laysSides 6 = .ok (.istore_n 2, 1) := by decide +kernel
theorem dX12_laysSides_7 : decode cX12_laysSides 7 = .ok (.iload_n 2, 1) := by decide +kernel
theorem dX12_laysSides_8 : decode cX12_laysSides 8 = .ok (.aload_n 0, 1) := by decide +kernel
theorem dX12_laysSides_9 : decode cX12_laysSides 9 = .ok (.getfield 7, 3) := by decide +kernel
theorem dX12_laysSides_12 : decode cX12_laysSides 12 = .ok (.iconst 0, 1) := by decide +kernel
theorem dX12_laysSides_13 : decode cX12_laysSides 13 = .ok (.iaload, 1) := by decide +kernel
theorem dX12_laysSides_14 : decode cX12_laysSides 14 = .ok (.if_icmp .ge 37, 3) := by decide +kernel
theorem dX12_laysSides_17 : decode cX12_laysSides 17 = .ok (.iload_n 1, 1) := by decide +kernel
theorem dX12_laysSides_18 : decode cX12_laysSides 18 = .ok (.iload_n 2, 1) := by decide +kernel
theorem dX12_laysSides_19 : decode cX12_laysSides 19 = .ok (.invokestatic 95, 3) := by decide +kernel
theorem dX12_laysSides_22 : decode cX12_laysSides 22 = .ok (.ifCond .eq 23, 3) := by decide +kernel
theorem dX12_laysSides_25 : decode cX12_laysSides 25 = .ok (.aload_n 0, 1) := by decide +kernel
theorem dX12_laysSides_26 : decode cX12_laysSides 26 = .ok (.getfield 38, 3) := by decide +kernel
theorem dX12_laysSides_29 : decode cX12_laysSides 29 = .ok (.aload_n 0, 1) := by decide +kernel
theorem dX12_laysSides_30 : decode cX12_laysSides 30 = .ok (.getfield 275, 3) := by decide +kernel
theorem dX12_laysSides_33 : decode cX12_laysSides 33 = .ok (.iload_n 2, 1) := by decide +kernel
theorem dX12_laysSides_34 : decode cX12_laysSides 34 = .ok (.iastore, 1) := by decide +kernel
theorem dX12_laysSides_35 : decode cX12_laysSides 35 = .ok (.aload_n 0, 1) := by decide +kernel
theorem dX12_laysSides_36 : decode cX12_laysSides 36 = .ok (.dup, 1) := by decide +kernel
theorem dX12_laysSides_37 : decode cX12_laysSides 37 = .ok (.getfield 275, 3) := by decide +kernel
theorem dX12_laysSides_40 : decode cX12_laysSides 40 = .ok (.iconst 1, 1) := by decide +kernel
theorem dX12_laysSides_41 : decode cX12_laysSides 41 = .ok (.iadd, 1) := by decide +kernel
theorem dX12_laysSides_42 : decode cX12_laysSides 42 = .ok (.putfield 275, 3) := by decide +kernel
theorem dX12_laysSides_45 : decode cX12_laysSides 45 = .ok (.iinc 2 1, 3) := by decide +kernel
theorem dX12_laysSides_48 : decode cX12_laysSides 48 = .ok (.goto (-41), 3) := by decide +kernel
theorem dX12_laysSides_51 : decode cX12_laysSides 51 = .ok (.return_, 1) := by decide +kernel
def rm_fMM_laysSides : Room := { frames := 2, cells := 0, slots := 0, locals := 81 }
set_option maxHeartbeats 4000000 in
set_option maxRecDepth 100000 in
theorem c_fMM_laysSides (l : Launch) (X : eX) (sz : Nat) (a1 : Int32) (σ : sT) (σz : sT) (h0 : fMM_laysSides a1 σ = some σz) : ctV l yX12_laysSides cX12_laysSides 3 none rm_fMM_laysSides [.ref (X.2.1 33), .int a1] (wM X) (tM X) (aM X) X sz σ σz := by
  refine ct_of (by decide +kernel) (Nat.le_of_ble_eq_true rfl) ?_
  intro p e s m args below meth c ls hz B hl Z
  have B : Bd p s m args meth c RX12 cX12_laysSides 3 none := B
  have hl : lv_has ls 3 [(0, .ref (X.2.1 33)), (1, .int a1)] := hl
  have hx := B.1
  have hb := B.2.1
  unfold fMM_laysSides at h0
  refine lv_aload_n hx hb dX12_laysSides_0 rfl (lv_at hl 0 rfl) ?_
  refine lv_iconst (v := (0 : Int32)) hx hb dX12_laysSides_1 (by decide) ?_
  refine s_33_23 B Z kf_RX12_275 dX12_laysSides_2 (fun H locs Z => ?_)
  obtain ⟨σ1, eσ1, h1⟩ := dlt_s h0
  clear h0
  replace Z := Wd.eq eσ1 Z
  clear eσ1
  refine lv_iconst (v := (0 : Int32)) hx hb dX12_laysSides_5 (by decide) ?_
  refine lv_istore_n (lv' := [(2, .int (0 : Int32)), (0, .ref (X.2.1 33)), (1, .int a1)]) hx hb dX12_laysSides_6 rfl hl (by decide) rfl (fun ls hl => ?_)
  have lL7 : ∀ (n : Nat), ∀ (x2 : Int32) (σ3 : sT) (H : Heap) (locs : List Loc) (ls : Array Slot), Wd (wM X) (tM X) (aM X) X s σ3 H locs → lv_has ls 3 [(0, .ref (X.2.1 33)), (1, .int a1), (2, .int x2)] → fMM_laysSides_L7 a1 n x2 σ3 = some σz → W p l e rm_fMM_laysSides s m args below meth c H locs 0 0 (MQ below (va_Qv (fun u => u = σz) (poW (wM X) (tM X) (aM X) X sz) (aA (aM X) sz)) args s 0 0 (aA (aM X) sz)) (F0 m 7 ls []) := by
    intro n
    induction n with
    | zero =>
      intro x2 σ3 H locs ls Z hl h
      exact nomatch (show (none : Option (sT)) = some _ from h)
    | succ n4 ih5 =>
      intro x2 σ3 H locs ls Z hl h2
      unfold fMM_laysSides_L7 at h2
      refine lv_iload_n hx hb dX12_laysSides_7 rfl (lv_at hl 2 rfl) ?_
      refine lv_aload_n hx hb dX12_laysSides_8 rfl (lv_at hl 0 rfl) ?_
      refine g_33_0 B Z kf_RX12_7 dX12_laysSides_9 ?_
      refine lv_iconst (v := (0 : Int32)) hx hb dX12_laysSides_12 (by decide) ?_
      obtain ⟨z5, h3⟩ := dck_s h2
      clear h2
      refine ld_34 B Z z5 dX12_laysSides_13 ?_
      refine lv_icmp_ge (tgt := 51) hx hb dX12_laysSides_14 (by decide) (fun c6 => ?_) (fun c6 => ?_)
      · have h4 := dit h3 c6
        clear h3
        exact reV B Z hz h4 dX12_laysSides_51
      · have h5 := dif h3 c6
        clear h3
        refine lv_iload_n hx hb dX12_laysSides_17 rfl (lv_at hl 1 rfl) ?_
        refine lv_iload_n hx hb dX12_laysSides_18 rfl (lv_at hl 2 rfl) ?_
        obtain ⟨r8, hc6, h6⟩ := db1_s h5
        clear h5
        refine cS_I [.int a1, .int x2] [] B mx_yX12_has (c_fMM_has l X _ a1 x2 σ3 r8 hc6) kl_RX12_95 ks_yX12_has Z hl rfl rfl ⟨Nat.le_of_ble_eq_true rfl, Nat.le_of_ble_eq_true rfl⟩ rfl rfl (Nat.le_of_ble_eq_true rfl) dX12_laysSides_19 (fun H locs Z => ?_)
        clear hc6
        refine lv_if_eq (tgt := 45) hx hb dX12_laysSides_22 (by decide) (fun c9 => ?_) (fun c9 => ?_)
        · have h7 := dit h6 c9
          clear h6
          refine lv_iinc (v := x2 + (1 : Int32)) (lv' := [(2, .int (x2 + (1 : Int32))), (0, .ref (X.2.1 33)), (1, .int a1)]) hx hb dX12_laysSides_45 hl (k := 2) rfl (by rfl) (by decide) rfl (fun ls hl => ?_)
          refine lv_goto (tgt := 7) hx hb dX12_laysSides_48 (by decide) ?_
          exact ih5 (x2 + (1 : Int32)) σ3 _ _ _ Z (lv_sub hl [1, 2, 0] rfl) h7
        · have h8 := dif h6 c9
          clear h6
          refine lv_aload_n hx hb dX12_laysSides_25 rfl (lv_at hl 0 rfl) ?_
          refine g_33_22 B Z kf_RX12_38 dX12_laysSides_26 ?_
          refine lv_aload_n hx hb dX12_laysSides_29 rfl (lv_at hl 0 rfl) ?_
          refine g_33_23 B Z kf_RX12_275 dX12_laysSides_30 ?_
          refine lv_iload_n hx hb dX12_laysSides_33 rfl (lv_at hl 2 rfl) ?_
          obtain ⟨z10, h9⟩ := dck_s h8
          clear h8
          refine st_43 B Z z10 dX12_laysSides_34 (fun H locs Z => ?_)
          obtain ⟨σ11, eσ11, h10⟩ := dlt_s h9
          clear h9
          replace Z := Wd.eq eσ11 Z
          clear eσ11
          refine lv_aload_n hx hb dX12_laysSides_35 rfl (lv_at hl 0 rfl) ?_
          refine lv_dup hx hb dX12_laysSides_36 rfl ?_
          refine g_33_23 B Z kf_RX12_275 dX12_laysSides_37 ?_
          refine lv_iconst (v := (1 : Int32)) hx hb dX12_laysSides_40 (by decide) ?_
          refine lv_iadd hx hb dX12_laysSides_41 ?_
          refine s_33_23 B Z kf_RX12_275 dX12_laysSides_42 (fun H locs Z => ?_)
          obtain ⟨σ12, eσ12, h11⟩ := dlt_s h10
          clear h10
          replace Z := Wd.eq eσ12 Z
          clear eσ12
          refine lv_iinc (v := x2 + (1 : Int32)) (lv' := [(2, .int (x2 + (1 : Int32))), (0, .ref (X.2.1 33)), (1, .int a1)]) hx hb dX12_laysSides_45 hl (k := 2) rfl (by rfl) (by decide) rfl (fun ls hl => ?_)
          refine lv_goto (tgt := 7) hx hb dX12_laysSides_48 (by decide) ?_
          exact ih5 (x2 + (1 : Int32)) σ12 _ _ _ Z (lv_sub hl [1, 2, 0] rfl) h11
  exact lL7 FU (0 : Int32) σ1 _ _ _ Z (lv_sub hl [1, 2, 0] rfl) h1
theorem dX12_many_0 : decode cX12_many 0 = .ok (.iconst 1, 1) := by decide +kernel
theorem dX12_many_1 : decode cX12_many 1 = .ok (.istore_n 1, 1) := by decide +kernel
theorem dX12_many_2 : decode cX12_many 2 = .ok (.iconst 0, 1) := by decide +kernel
theorem dX12_many_3 : decode cX12_many 3 = .ok (.istore_n 2, 1) := by decide +kernel
theorem dX12_many_4 : decode cX12_many 4 = .ok (.iload_n 2, 1) := by decide +kernel
theorem dX12_many_5 : decode cX12_many 5 = .ok (.aload_n 0, 1) := by decide +kernel
theorem dX12_many_6 : decode cX12_many 6 = .ok (.getfield 275, 3) := by decide +kernel
theorem dX12_many_9 : decode cX12_many 9 = .ok (.if_icmp .ge 13, 3) := by decide +kernel
theorem dX12_many_12 : decode cX12_many 12 = .ok (.iload_n 1, 1) := by decide +kernel
theorem dX12_many_13 : decode cX12_many 13 = .ok (.iconst 3, 1) := by decide +kernel
theorem dX12_many_14 : decode cX12_many 14 = .ok (.imul, 1) := by decide +kernel
theorem dX12_many_15 : decode cX12_many 15 = .ok (.istore_n 1, 1) := by decide +kernel
theorem dX12_many_16 : decode cX12_many 16 = .ok (.iinc 2 1, 3) := by decide +kernel
theorem dX12_many_19 : decode cX12_many 19 = .ok (.goto (-15), 3) := by decide +kernel
theorem dX12_many_22 : decode cX12_many 22 = .ok (.iload_n 1, 1) := by decide +kernel
theorem dX12_many_23 : decode cX12_many 23 = .ok (.ireturn, 1) := by decide +kernel
def rm_fMM_many : Room := { frames := 1, cells := 0, slots := 0, locals := 60 }
set_option maxHeartbeats 4000000 in
set_option maxRecDepth 100000 in
theorem c_fMM_many (l : Launch) (X : eX) (sz : Nat)  (σ : sT) (rz : Int32) (h0 : fMM_many σ = some rz) : ctI l yX12_many cX12_many 3 (some .int) rm_fMM_many [.ref (X.2.1 33)] (wM X) (tM X) (aM X) X sz σ rz σ := by
  refine ct_of (by decide +kernel) (Nat.le_of_ble_eq_true rfl) ?_
  intro p e s m args below meth c ls hz B hl Z
  have B : Bd p s m args meth c RX12 cX12_many 3 (some .int) := B
  have hl : lv_has ls 3 [(0, .ref (X.2.1 33))] := hl
  have hx := B.1
  have hb := B.2.1
  unfold fMM_many at h0
  refine lv_iconst (v := (1 : Int32)) hx hb dX12_many_0 (by decide) ?_
  refine lv_istore_n (lv' := [(1, .int (1 : Int32)), (0, .ref (X.2.1 33))]) hx hb dX12_many_1 rfl hl (by decide) rfl (fun ls hl => ?_)
  refine lv_iconst (v := (0 : Int32)) hx hb dX12_many_2 (by decide) ?_
  refine lv_istore_n (lv' := [(2, .int (0 : Int32)), (1, .int (1 : Int32)), (0, .ref (X.2.1 33))]) hx hb dX12_many_3 rfl hl (by decide) rfl (fun ls hl => ?_)
  have lL4 : ∀ (n : Nat), ∀ (x1 : Int32) (x2 : Int32) (H : Heap) (locs : List Loc) (ls : Array Slot), Wd (wM X) (tM X) (aM X) X s σ H locs → lv_has ls 3 [(0, .ref (X.2.1 33)), (1, .int x1), (2, .int x2)] → fMM_many_L4 σ n x1 x2 = some rz → W p l e rm_fMM_many s m args below meth c H locs 0 0 (MQ below (va_Qi (fun a u => a = rz ∧ u = σ) (poW (wM X) (tM X) (aM X) X sz) (aA (aM X) sz)) args s 0 0 (aA (aM X) sz)) (F0 m 4 ls []) := by
    intro n
    induction n with
    | zero =>
      intro x1 x2 H locs ls Z hl h
      exact nomatch (show (none : Option (Int32)) = some _ from h)
    | succ n3 ih4 =>
      intro x1 x2 H locs ls Z hl h1
      unfold fMM_many_L4 at h1
      refine lv_iload_n hx hb dX12_many_4 rfl (lv_at hl 2 rfl) ?_
      refine lv_aload_n hx hb dX12_many_5 rfl (lv_at hl 0 rfl) ?_
      refine g_33_23 B Z kf_RX12_275 dX12_many_6 ?_
      refine lv_icmp_ge (tgt := 22) hx hb dX12_many_9 (by decide) (fun c4 => ?_) (fun c4 => ?_)
      · have h2 := dit h1 c4
        clear h1
        refine lv_iload_n hx hb dX12_many_22 rfl (lv_at hl 1 rfl) ?_
        exact reI B Z rfl hz (congrArg (Option.map (fun q => (q, σ))) h2) dX12_many_23
      · have h3 := dif h1 c4
        clear h1
        refine lv_iload_n hx hb dX12_many_12 rfl (lv_at hl 1 rfl) ?_
        refine lv_iconst (v := (3 : Int32)) hx hb dX12_many_13 (by decide) ?_
        refine lv_imul hx hb dX12_many_14 ?_
        refine lv_topi (fun x5 ex5 => ?_)
        have h4 := dlt_e ex5 h3
        clear ex5 h3
        refine lv_istore_n (lv' := [(1, .int x5), (0, .ref (X.2.1 33)), (2, .int x2)]) hx hb dX12_many_15 rfl hl (by decide) rfl (fun ls hl => ?_)
        refine lv_iinc (v := x2 + (1 : Int32)) (lv' := [(2, .int (x2 + (1 : Int32))), (1, .int x5), (0, .ref (X.2.1 33))]) hx hb dX12_many_16 hl (k := 2) rfl (by rfl) (by decide) rfl (fun ls hl => ?_)
        refine lv_goto (tgt := 4) hx hb dX12_many_19 (by decide) ?_
        exact ih4 x5 (x2 + (1 : Int32)) _ _ _ Z (lv_sub hl [2, 1, 0] rfl) h4
  exact lL4 FU (1 : Int32) (0 : Int32) _ _ _ Z (lv_sub hl [2, 1, 0] rfl) h0
