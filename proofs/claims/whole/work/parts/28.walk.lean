theorem dX12_writesRow_0 : decode cX12_writesRow 0 = .ok (.aload_n 0, 1) := by decide +kernel
theorem dX12_writesRow_1 : decode cX12_writesRow 1 = .ok (.iconst 0, 1) := by decide +kernel
theorem dX12_writesRow_2 : decode cX12_writesRow 2 = .ok (.putfield 384, 3) := by decide +kernel
theorem dX12_writesRow_5 : decode cX12_writesRow 5 = .ok (.iconst 0, 1) := by decide +kernel
theorem dX12_writesRow_6 : decode cX12_writesRow 6 = .ok (.istore_n 2, 1) := by decide +kernel
theorem dX12_writesRow_7 : decode cX12_writesRow 7 = .ok (.iload_n 2, 1) := by decide +kernel
theorem dX12_writesRow_8 : decode cX12_writesRow 8 = .ok (.iconst 3, 1) := by decide +kernel
theorem dX12_writesRow_9 : decode cX12_writesRow 9 = .ok (.if_icmp .ge 78, 3) := by decide +kernel
theorem dX12_writesRow_12 : decode cX12_writesRow 12 = .ok (.aload_n 0, 1) := by decide +kernel
theorem dX12_writesRow_13 : decode cX12_writesRow 13 = .ok (.iload_n 1, 1) := by decide +kernel
theorem dX12_writesRow_14 : decode cX12_writesRow 14 = .ok (.iload_n 2, 1) := by decide +kernel
theorem dX12_writesRow_15 : decode cX12_writesRow 15 = .ok (.invokevirtual 87, 3) := by decide +kernel
theorem dX12_writesRow_18 : decode cX12_writesRow 18 = .ok (.istore_n 3, 1) := by decide +kernel
theorem dX12_writesRow_19 : decode cX12_writesRow 19 = .ok (.iload_n 3, 1) := by decide +kernel
theorem dX12_writesRow_20 : decode cX12_writesRow 20 = .ok (.ifCond .eq 61, 3) := by decide +kernel
theorem dX12_writesRow_23 : decode cX12_writesRow 23 = .ok (.iload_n 3, 1) := by decide +kernel
theorem dX12_writesRow_24 : decode cX12_writesRow 24 = .ok (.ifCond .ge 12, 3) := by decide +kernel
theorem dX12_writesRow_27 : decode cX12_writesRow 27 = .ok (.aload_n 0, 1) := by decide +kernel
theorem dX12_writesRow_28 : decode cX12_writesRow 28 = .ok (.bipush 45, 2) := by decide +kernel
theorem dX12_writesRow_30 : decode cX12_writesRow 30 = .ok (.invokevirtual 387, 3) := by decide +kernel
theorem dX12_writesRow_33 : decode cX12_writesRow 33 = .ok (.goto 16, 3) := by decide +kernel
theorem dX12_writesRow_36 : decode cX12_writesRow 36 = .ok (.aload_n 0, 1) := by decide +kernel
theorem dX12_writesRow_37 : decode cX12_writesRow 37 = .ok (.getfield 384, 3) := by decide +kernel
theorem dX12_writesRow_40 : decode cX12_writesRow 40 = .ok (.ifCond .le 9, 3) := by decide +kernel
theorem dX12_writesRow_43 : decode cX12_writesRow 43 = .ok (.aload_n 0, 1) := by decide +kernel
theorem dX12_writesRow_44 : decode cX12_writesRow 44 = .ok (.bipush 43, 2) := by decide +kernel
theorem dX12_writesRow_46 : decode cX12_writesRow 46 = .ok (.invokevirtual 387, 3) := by decide +kernel
theorem dX12_writesRow_49 : decode cX12_writesRow 49 = .ok (.iload_n 3, 1) := by decide +kernel
theorem dX12_writesRow_50 : decode cX12_writesRow 50 = .ok (.iconst 1, 1) := by decide +kernel
theorem dX12_writesRow_51 : decode cX12_writesRow 51 = .ok (.if_icmp .gt 8, 3) := by decide +kernel
theorem dX12_writesRow_54 : decode cX12_writesRow 54 = .ok (.iload_n 3, 1) := by decide +kernel
theorem dX12_writesRow_55 : decode cX12_writesRow 55 = .ok (.iconst (-1), 1) := by decide +kernel
theorem dX12_writesRow_56 : decode cX12_writesRow 56 = .ok (.if_icmp .ge 17, 3) := by decide +kernel
theorem dX12_writesRow_59 : decode cX12_writesRow 59 = .ok (.aload_n 0, 1) := by decide +kernel
theorem dX12_writesRow_60 : decode cX12_writesRow 60 = .ok (.iload_n 3, 1) := by decide +kernel
theorem dX12_writesRow_61 : decode cX12_writesRow 61 = .ok (.ifCond .ge 8, 3) := by decide +kernel
theorem dX12_writesRow_64 : decode cX12_writesRow 64 = .ok (.iload_n 3, 1) := by decide +kernel
theorem dX12_writesRow_65 : decode cX12_writesRow 65 = .ok (.ineg, 1) := by decide +kernel
theorem dX12_writesRow_66 : decode cX12_writesRow 66 = .ok (.goto 4, 3) := by decide +kernel
theorem dX12_writesRow_69 : decode cX12_writesRow 69 = .ok (.iload_n 3, 1) := by decide +kernel
theorem dX12_writesRow_70 : decode cX12_writesRow 70 = .ok (.invokevirtual 390, 3) := by decide +kernel
theorem dX12_writesRow_73 : decode cX12_writesRow 73 = .ok (.aload_n 0, 1) := by decide +kernel
theorem dX12_writesRow_74 : decode cX12_writesRow 74 = .ok (.bipush 120, 2) := by decide +kernel
theorem dX12_writesRow_76 : decode cX12_writesRow 76 = .ok (.iload_n 2, 1) := by decide +kernel
theorem dX12_writesRow_77 : decode cX12_writesRow 77 = .ok (.iadd, 1) := by decide +kernel
theorem dX12_writesRow_78 : decode cX12_writesRow 78 = .ok (.invokevirtual 387, 3) := by decide +kernel
theorem dX12_writesRow_81 : decode cX12_writesRow 81 = .ok (.iinc 2 1, 3) := by decide +kernel
theorem dX12_writesRow_84 : decode cX12_writesRow 84 = .ok (.goto (-77), 3) := by decide +kernel
theorem dX12_writesRow_87 : decode cX12_writesRow 87 = .ok (.aload_n 0, 1) := by decide +kernel
theorem dX12_writesRow_88 : decode cX12_writesRow 88 = .ok (.getfield 384, 3) := by decide +kernel
theorem dX12_writesRow_91 : decode cX12_writesRow 91 = .ok (.ifCond .ne 9, 3) := by decide +kernel
theorem dX12_writesRow_94 : decode cX12_writesRow 94 = .ok (.aload_n 0, 1) := by decide +kernel
theorem dX12_writesRow_95 : decode cX12_writesRow 95 = .ok (.bipush 48, 2) := by decide +kernel
theorem dX12_writesRow_97 : decode cX12_writesRow 97 = .ok (.invokevirtual 387, 3) := by decide +kernel
theorem dX12_writesRow_100 : decode cX12_writesRow 100 = .ok (.aload_n 0, 1) := by decide +kernel
theorem dX12_writesRow_101 : decode cX12_writesRow 101 = .ok (.aload_n 0, 1) := by decide +kernel
theorem dX12_writesRow_102 : decode cX12_writesRow 102 = .ok (.iload_n 1, 1) := by decide +kernel
theorem dX12_writesRow_103 : decode cX12_writesRow 103 = .ok (.iconst 3, 1) := by decide +kernel
theorem dX12_writesRow_104 : decode cX12_writesRow 104 = .ok (.invokevirtual 87, 3) := by decide +kernel
theorem dX12_writesRow_107 : decode cX12_writesRow 107 = .ok (.iconst 2, 1) := by decide +kernel
theorem dX12_writesRow_108 : decode cX12_writesRow 108 = .ok (.if_icmp .ne 8, 3) := by decide +kernel
theorem dX12_writesRow_111 : decode cX12_writesRow 111 = .ok (.bipush 61, 2) := by decide +kernel
theorem dX12_writesRow_113 : decode cX12_writesRow 113 = .ok (.goto 5, 3) := by decide +kernel
theorem dX12_writesRow_116 : decode cX12_writesRow 116 = .ok (.bipush 60, 2) := by decide +kernel
theorem dX12_writesRow_118 : decode cX12_writesRow 118 = .ok (.invokevirtual 387, 3) := by decide +kernel
theorem dX12_writesRow_121 : decode cX12_writesRow 121 = .ok (.aload_n 0, 1) := by decide +kernel
theorem dX12_writesRow_122 : decode cX12_writesRow 122 = .ok (.iload_n 1, 1) := by decide +kernel
theorem dX12_writesRow_123 : decode cX12_writesRow 123 = .ok (.iconst 3, 1) := by decide +kernel
theorem dX12_writesRow_124 : decode cX12_writesRow 124 = .ok (.invokevirtual 87, 3) := by decide +kernel
theorem dX12_writesRow_127 : decode cX12_writesRow 127 = .ok (.iconst 1, 1) := by decide +kernel
theorem dX12_writesRow_128 : decode cX12_writesRow 128 = .ok (.if_icmp .ne 9, 3) := by decide +kernel
theorem dX12_writesRow_131 : decode cX12_writesRow 131 = .ok (.aload_n 0, 1) := by decide +kernel
theorem dX12_writesRow_132 : decode cX12_writesRow 132 = .ok (.bipush 61, 2) := by decide +kernel
theorem dX12_writesRow_134 : decode cX12_writesRow 134 = .ok (.invokevirtual 387, 3) := by decide +kernel
theorem dX12_writesRow_137 : decode cX12_writesRow 137 = .ok (.aload_n 0, 1) := by decide +kernel
theorem dX12_writesRow_138 : decode cX12_writesRow 138 = .ok (.iload_n 1, 1) := by decide +kernel
theorem dX12_writesRow_139 : decode cX12_writesRow 139 = .ok (.iconst 4, 1) := by decide +kernel
theorem dX12_writesRow_140 : decode cX12_writesRow 140 = .ok (.invokevirtual 87, 3) := by decide +kernel
theorem dX12_writesRow_143 : decode cX12_writesRow 143 = .ok (.ifCond .ge 9, 3) := by decide +kernel
theorem dX12_writesRow_146 : decode cX12_writesRow 146 = .ok (.aload_n 0, 1) := by decide +kernel
theorem dX12_writesRow_147 : decode cX12_writesRow 147 = .ok (.bipush 45, 2) := by decide +kernel
theorem dX12_writesRow_149 : decode cX12_writesRow 149 = .ok (.invokevirtual 387, 3) := by decide +kernel
theorem dX12_writesRow_152 : decode cX12_writesRow 152 = .ok (.aload_n 0, 1) := by decide +kernel
theorem dX12_writesRow_153 : decode cX12_writesRow 153 = .ok (.aload_n 0, 1) := by decide +kernel
theorem dX12_writesRow_154 : decode cX12_writesRow 154 = .ok (.iload_n 1, 1) := by decide +kernel
theorem dX12_writesRow_155 : decode cX12_writesRow 155 = .ok (.iconst 4, 1) := by decide +kernel
theorem dX12_writesRow_156 : decode cX12_writesRow 156 = .ok (.invokevirtual 87, 3) := by decide +kernel
theorem dX12_writesRow_159 : decode cX12_writesRow 159 = .ok (.ifCond .ge 13, 3) := by decide +kernel
theorem dX12_writesRow_162 : decode cX12_writesRow 162 = .ok (.aload_n 0, 1) := by decide +kernel
theorem dX12_writesRow_163 : decode cX12_writesRow 163 = .ok (.iload_n 1, 1) := by decide +kernel
theorem dX12_writesRow_164 : decode cX12_writesRow 164 = .ok (.iconst 4, 1) := by decide +kernel
theorem dX12_writesRow_165 : decode cX12_writesRow 165 = .ok (.invokevirtual 87, 3) := by decide +kernel
theorem dX12_writesRow_168 : decode cX12_writesRow 168 = .ok (.ineg, 1) := by decide +kernel
theorem dX12_writesRow_169 : decode cX12_writesRow 169 = .ok (.goto 9, 3) := by decide +kernel
theorem dX12_writesRow_172 : decode cX12_writesRow 172 = .ok (.aload_n 0, 1) := by decide +kernel
theorem dX12_writesRow_173 : decode cX12_writesRow 173 = .ok (.iload_n 1, 1) := by decide +kernel
theorem dX12_writesRow_174 : decode cX12_writesRow 174 = .ok (.iconst 4, 1) := by decide +kernel
theorem dX12_writesRow_175 : decode cX12_writesRow 175 = .ok (.invokevirtual 87, 3) := by decide +kernel
theorem dX12_writesRow_178 : decode cX12_writesRow 178 = .ok (.invokevirtual 390, 3) := by decide +kernel
theorem dX12_writesRow_181 : decode cX12_writesRow 181 = .ok (.return_, 1) := by decide +kernel
def rm_fMM_writesRow : Room := { frames := 3, cells := 0, slots := 0, locals := 102 }
set_option maxHeartbeats 4000000 in
set_option maxRecDepth 100000 in
theorem c_fMM_writesRow (l : Launch) (X : eX) (sz : Nat) (a1 : Int32) (σ : sT) (σz : sT) (h0 : fMM_writesRow a1 σ = some σz) : ctV l yX12_writesRow cX12_writesRow 4 none rm_fMM_writesRow [.ref (X.2.1 33), .int a1] (wM X) (tM X) (aM X) X sz σ σz := by
  refine ct_of (by decide +kernel) (Nat.le_of_ble_eq_true rfl) ?_
  intro p e s m args below meth c ls hz B hl Z
  have B : Bd p s m args meth c RX12 cX12_writesRow 4 none := B
  have hl : lv_has ls 4 [(0, .ref (X.2.1 33)), (1, .int a1)] := hl
  have hx := B.1
  have hb := B.2.1
  unfold fMM_writesRow at h0
  refine lv_aload_n hx hb dX12_writesRow_0 rfl (lv_at hl 0 rfl) ?_
  refine lv_iconst (v := (0 : Int32)) hx hb dX12_writesRow_1 (by decide) ?_
  refine s_33_38 B Z kf_RX12_384 dX12_writesRow_2 (fun H locs Z => ?_)
  obtain ⟨σ1, eσ1, h1⟩ := dlt_s h0
  clear h0
  replace Z := Wd.eq eσ1 Z
  clear eσ1
  refine lv_iconst (v := (0 : Int32)) hx hb dX12_writesRow_5 (by decide) ?_
  refine lv_istore_n (lv' := [(2, .int (0 : Int32)), (0, .ref (X.2.1 33)), (1, .int a1)]) hx hb dX12_writesRow_6 rfl hl (by decide) rfl (fun ls hl => ?_)
  obtain ⟨K5, eK5, h34⟩ := dlt_s h1
  clear h1
  have kK5 : ∀ (σ4 : sT) (H : Heap) (locs : List Loc) (ls : Array Slot), Wd (wM X) (tM X) (aM X) X s σ4 H locs → lv_has ls 4 [(0, .ref (X.2.1 33)), (1, .int a1)] → K5 σ4 = some σz → W p l e rm_fMM_writesRow s m args below meth c H locs 0 0 (MQ below (va_Qv (fun u => u = σz) (poW (wM X) (tM X) (aM X) X sz) (aA (aM X) sz)) args s 0 0 (aA (aM X) sz)) (F0 m 87 ls []) := by
    intro σ4 H locs ls Z hl h2
    rw [eK5] at h2
    refine lv_aload_n hx hb dX12_writesRow_87 rfl (lv_at hl 0 rfl) ?_
    refine g_33_38 B Z kf_RX12_384 dX12_writesRow_88 ?_
    obtain ⟨J7, eJ7, h30⟩ := dlt_s h2
    clear h2
    have kJ7 : ∀ (σ6 : sT) (H : Heap) (locs : List Loc) (ls : Array Slot), Wd (wM X) (tM X) (aM X) X s σ6 H locs → lv_has ls 4 [(0, .ref (X.2.1 33)), (1, .int a1)] → J7 σ6 = some σz → W p l e rm_fMM_writesRow s m args below meth c H locs 0 0 (MQ below (va_Qv (fun u => u = σz) (poW (wM X) (tM X) (aM X) X sz) (aA (aM X) sz)) args s 0 0 (aA (aM X) sz)) (F0 m 100 ls []) := by
      intro σ6 H locs ls Z hl h3
      rw [eJ7] at h3
      refine lv_aload_n hx hb dX12_writesRow_100 rfl (lv_at hl 0 rfl) ?_
      refine lv_aload_n hx hb dX12_writesRow_101 rfl (lv_at hl 0 rfl) ?_
      refine lv_iload_n hx hb dX12_writesRow_102 rfl (lv_at hl 1 rfl) ?_
      refine lv_iconst (v := (3 : Int32)) hx hb dX12_writesRow_103 (by decide) ?_
      obtain ⟨r9, hc7, h4⟩ := db1_s h3
      clear h3
      refine cV_I [.int a1, .int (3 : Int32)] [.ref (X.2.1 33)] B mx_yX12_at (c_fMM_at l X _ a1 (3 : Int32) σ6 r9 hc7) kl_RX12_87 mi_yX12_at (rv_33 _ _) hcl_12 Z hl rfl rfl ⟨Nat.le_of_ble_eq_true rfl, Nat.le_of_ble_eq_true rfl⟩ rfl rfl (Nat.le_of_ble_eq_true rfl) dX12_writesRow_104 (fun H locs Z => ?_)
      clear hc7
      refine lv_iconst (v := (2 : Int32)) hx hb dX12_writesRow_107 (by decide) ?_
      obtain ⟨J11, eJ11, h27⟩ := dlt_s h4
      clear h4
      have kJ11 : ∀ (x10 : Int32) (H : Heap) (locs : List Loc) (ls : Array Slot), Wd (wM X) (tM X) (aM X) X s σ6 H locs → lv_has ls 4 [(0, .ref (X.2.1 33)), (1, .int a1)] → J11 x10 = some σz → W p l e rm_fMM_writesRow s m args below meth c H locs 0 0 (MQ below (va_Qv (fun u => u = σz) (poW (wM X) (tM X) (aM X) X sz) (aA (aM X) sz)) args s 0 0 (aA (aM X) sz)) (F0 m 118 ls [.int x10, .ref (X.2.1 33)]) := by
        intro x10 H locs ls Z hl h5
        rw [eJ11] at h5
        obtain ⟨σ13, hc11, h6⟩ := db1_s h5
        clear h5
        refine cV_V [.int x10] [] B mx_yX12_writes (c_fMM_writes l X _ x10 σ6 σ13 hc11) kl_RX12_387 mi_yX12_writes (rv_33 _ _) hcl_12 Z hl rfl rfl ⟨Nat.le_of_ble_eq_true rfl, Nat.le_of_ble_eq_true rfl⟩ rfl rfl (Nat.le_of_ble_eq_true rfl) dX12_writesRow_118 (fun H locs Z => ?_)
        clear hc11
        refine lv_aload_n hx hb dX12_writesRow_121 rfl (lv_at hl 0 rfl) ?_
        refine lv_iload_n hx hb dX12_writesRow_122 rfl (lv_at hl 1 rfl) ?_
        refine lv_iconst (v := (3 : Int32)) hx hb dX12_writesRow_123 (by decide) ?_
        obtain ⟨r15, hc13, h7⟩ := db1_s h6
        clear h6
        refine cV_I [.int a1, .int (3 : Int32)] [] B mx_yX12_at (c_fMM_at l X _ a1 (3 : Int32) σ13 r15 hc13) kl_RX12_87 mi_yX12_at (rv_33 _ _) hcl_12 Z hl rfl rfl ⟨Nat.le_of_ble_eq_true rfl, Nat.le_of_ble_eq_true rfl⟩ rfl rfl (Nat.le_of_ble_eq_true rfl) dX12_writesRow_124 (fun H locs Z => ?_)
        clear hc13
        refine lv_iconst (v := (1 : Int32)) hx hb dX12_writesRow_127 (by decide) ?_
        obtain ⟨J17, eJ17, h23⟩ := dlt_s h7
        clear h7
        have kJ17 : ∀ (σ16 : sT) (H : Heap) (locs : List Loc) (ls : Array Slot), Wd (wM X) (tM X) (aM X) X s σ16 H locs → lv_has ls 4 [(0, .ref (X.2.1 33)), (1, .int a1)] → J17 σ16 = some σz → W p l e rm_fMM_writesRow s m args below meth c H locs 0 0 (MQ below (va_Qv (fun u => u = σz) (poW (wM X) (tM X) (aM X) X sz) (aA (aM X) sz)) args s 0 0 (aA (aM X) sz)) (F0 m 137 ls []) := by
          intro σ16 H locs ls Z hl h8
          rw [eJ17] at h8
          refine lv_aload_n hx hb dX12_writesRow_137 rfl (lv_at hl 0 rfl) ?_
          refine lv_iload_n hx hb dX12_writesRow_138 rfl (lv_at hl 1 rfl) ?_
          refine lv_iconst (v := (4 : Int32)) hx hb dX12_writesRow_139 (by decide) ?_
          obtain ⟨r19, hc17, h9⟩ := db1_s h8
          clear h8
          refine cV_I [.int a1, .int (4 : Int32)] [] B mx_yX12_at (c_fMM_at l X _ a1 (4 : Int32) σ16 r19 hc17) kl_RX12_87 mi_yX12_at (rv_33 _ _) hcl_12 Z hl rfl rfl ⟨Nat.le_of_ble_eq_true rfl, Nat.le_of_ble_eq_true rfl⟩ rfl rfl (Nat.le_of_ble_eq_true rfl) dX12_writesRow_140 (fun H locs Z => ?_)
          clear hc17
          obtain ⟨J21, eJ21, h19⟩ := dlt_s h9
          clear h9
          have kJ21 : ∀ (σ20 : sT) (H : Heap) (locs : List Loc) (ls : Array Slot), Wd (wM X) (tM X) (aM X) X s σ20 H locs → lv_has ls 4 [(0, .ref (X.2.1 33)), (1, .int a1)] → J21 σ20 = some σz → W p l e rm_fMM_writesRow s m args below meth c H locs 0 0 (MQ below (va_Qv (fun u => u = σz) (poW (wM X) (tM X) (aM X) X sz) (aA (aM X) sz)) args s 0 0 (aA (aM X) sz)) (F0 m 152 ls []) := by
            intro σ20 H locs ls Z hl h10
            rw [eJ21] at h10
            refine lv_aload_n hx hb dX12_writesRow_152 rfl (lv_at hl 0 rfl) ?_
            refine lv_aload_n hx hb dX12_writesRow_153 rfl (lv_at hl 0 rfl) ?_
            refine lv_iload_n hx hb dX12_writesRow_154 rfl (lv_at hl 1 rfl) ?_
            refine lv_iconst (v := (4 : Int32)) hx hb dX12_writesRow_155 (by decide) ?_
            obtain ⟨r23, hc21, h11⟩ := db1_s h10
            clear h10
            refine cV_I [.int a1, .int (4 : Int32)] [.ref (X.2.1 33)] B mx_yX12_at (c_fMM_at l X _ a1 (4 : Int32) σ20 r23 hc21) kl_RX12_87 mi_yX12_at (rv_33 _ _) hcl_12 Z hl rfl rfl ⟨Nat.le_of_ble_eq_true rfl, Nat.le_of_ble_eq_true rfl⟩ rfl rfl (Nat.le_of_ble_eq_true rfl) dX12_writesRow_156 (fun H locs Z => ?_)
            clear hc21
            obtain ⟨J25, eJ25, h14⟩ := dlt_s h11
            clear h11
            have kJ25 : ∀ (x24 : Int32) (H : Heap) (locs : List Loc) (ls : Array Slot), Wd (wM X) (tM X) (aM X) X s σ20 H locs → lv_has ls 4 [] → J25 x24 = some σz → W p l e rm_fMM_writesRow s m args below meth c H locs 0 0 (MQ below (va_Qv (fun u => u = σz) (poW (wM X) (tM X) (aM X) X sz) (aA (aM X) sz)) args s 0 0 (aA (aM X) sz)) (F0 m 178 ls [.int x24, .ref (X.2.1 33)]) := by
              intro x24 H locs ls Z hl h12
              rw [eJ25] at h12
              obtain ⟨σ27, hc25, h13⟩ := db1_s h12
              clear h12
              refine cV_V [.int x24] [] B mx_yX12_writesNumber (c_fMM_writesNumber l X _ x24 σ20 σ27 hc25) kl_RX12_390 mi_yX12_writesNumber (rv_33 _ _) hcl_12 Z hl rfl rfl ⟨Nat.le_of_ble_eq_true rfl, Nat.le_of_ble_eq_true rfl⟩ rfl rfl (Nat.le_of_ble_eq_true rfl) dX12_writesRow_178 (fun H locs Z => ?_)
              clear hc25
              exact reV B Z hz h13 dX12_writesRow_181
            clear eJ25
            refine lv_if_ge (tgt := 172) hx hb dX12_writesRow_159 (by decide) (fun c28 => ?_) (fun c28 => ?_)
            · have h15 := dit h14 c28
              clear h14
              refine lv_aload_n hx hb dX12_writesRow_172 rfl (lv_at hl 0 rfl) ?_
              refine lv_iload_n hx hb dX12_writesRow_173 rfl (lv_at hl 1 rfl) ?_
              refine lv_iconst (v := (4 : Int32)) hx hb dX12_writesRow_174 (by decide) ?_
              obtain ⟨r30, hc28, h16⟩ := db1_s h15
              clear h15
              refine cV_I [.int a1, .int (4 : Int32)] [.ref (X.2.1 33)] B mx_yX12_at (c_fMM_at l X _ a1 (4 : Int32) σ20 r30 hc28) kl_RX12_87 mi_yX12_at (rv_33 _ _) hcl_12 Z hl rfl rfl ⟨Nat.le_of_ble_eq_true rfl, Nat.le_of_ble_eq_true rfl⟩ rfl rfl (Nat.le_of_ble_eq_true rfl) dX12_writesRow_175 (fun H locs Z => ?_)
              clear hc28
              exact kJ25 r30 _ _ _ Z (lv_sub hl [] rfl) h16
            · have h17 := dif h14 c28
              clear h14
              refine lv_aload_n hx hb dX12_writesRow_162 rfl (lv_at hl 0 rfl) ?_
              refine lv_iload_n hx hb dX12_writesRow_163 rfl (lv_at hl 1 rfl) ?_
              refine lv_iconst (v := (4 : Int32)) hx hb dX12_writesRow_164 (by decide) ?_
              obtain ⟨r32, hc30, h18⟩ := db1_s h17
              clear h17
              refine cV_I [.int a1, .int (4 : Int32)] [.ref (X.2.1 33)] B mx_yX12_at (c_fMM_at l X _ a1 (4 : Int32) σ20 r32 hc30) kl_RX12_87 mi_yX12_at (rv_33 _ _) hcl_12 Z hl rfl rfl ⟨Nat.le_of_ble_eq_true rfl, Nat.le_of_ble_eq_true rfl⟩ rfl rfl (Nat.le_of_ble_eq_true rfl) dX12_writesRow_165 (fun H locs Z => ?_)
              clear hc30
              refine lv_ineg hx hb dX12_writesRow_168 ?_
              refine lv_goto (tgt := 178) hx hb dX12_writesRow_169 (by decide) ?_
              exact kJ25 (-r32) _ _ _ Z (lv_sub hl [] rfl) h18
          clear eJ21
          refine lv_if_ge (tgt := 152) hx hb dX12_writesRow_143 (by decide) (fun c33 => ?_) (fun c33 => ?_)
          · have h20 := dit h19 c33
            clear h19
            exact kJ21 σ16 _ _ _ Z (lv_sub hl [0, 1] rfl) h20
          · have h21 := dif h19 c33
            clear h19
            refine lv_aload_n hx hb dX12_writesRow_146 rfl (lv_at hl 0 rfl) ?_
            refine lv_bipush (v := (45 : Int32)) hx hb dX12_writesRow_147 (by decide) ?_
            obtain ⟨σ35, hc33, h22⟩ := db1_s h21
            clear h21
            refine cV_V [.int (45 : Int32)] [] B mx_yX12_writes (c_fMM_writes l X _ (45 : Int32) σ16 σ35 hc33) kl_RX12_387 mi_yX12_writes (rv_33 _ _) hcl_12 Z hl rfl rfl ⟨Nat.le_of_ble_eq_true rfl, Nat.le_of_ble_eq_true rfl⟩ rfl rfl (Nat.le_of_ble_eq_true rfl) dX12_writesRow_149 (fun H locs Z => ?_)
            clear hc33
            exact kJ21 σ35 _ _ _ Z (lv_sub hl [0, 1] rfl) h22
        clear eJ17
        refine lv_icmp_ne (tgt := 137) hx hb dX12_writesRow_128 (by decide) (fun c36 => ?_) (fun c36 => ?_)
        · have h24 := dif h23 c36
          clear h23
          exact kJ17 σ13 _ _ _ Z (lv_sub hl [0, 1] rfl) h24
        · have h25 := dit h23 c36
          clear h23
          refine lv_aload_n hx hb dX12_writesRow_131 rfl (lv_at hl 0 rfl) ?_
          refine lv_bipush (v := (61 : Int32)) hx hb dX12_writesRow_132 (by decide) ?_
          obtain ⟨σ38, hc36, h26⟩ := db1_s h25
          clear h25
          refine cV_V [.int (61 : Int32)] [] B mx_yX12_writes (c_fMM_writes l X _ (61 : Int32) σ13 σ38 hc36) kl_RX12_387 mi_yX12_writes (rv_33 _ _) hcl_12 Z hl rfl rfl ⟨Nat.le_of_ble_eq_true rfl, Nat.le_of_ble_eq_true rfl⟩ rfl rfl (Nat.le_of_ble_eq_true rfl) dX12_writesRow_134 (fun H locs Z => ?_)
          clear hc36
          exact kJ17 σ38 _ _ _ Z (lv_sub hl [0, 1] rfl) h26
      clear eJ11
      refine lv_icmp_ne (tgt := 116) hx hb dX12_writesRow_108 (by decide) (fun c39 => ?_) (fun c39 => ?_)
      · have h28 := dif h27 c39
        clear h27
        refine lv_bipush (v := (60 : Int32)) hx hb dX12_writesRow_116 (by decide) ?_
        exact kJ11 (60 : Int32) _ _ _ Z (lv_sub hl [0, 1] rfl) h28
      · have h29 := dit h27 c39
        clear h27
        refine lv_bipush (v := (61 : Int32)) hx hb dX12_writesRow_111 (by decide) ?_
        refine lv_goto (tgt := 118) hx hb dX12_writesRow_113 (by decide) ?_
        exact kJ11 (61 : Int32) _ _ _ Z (lv_sub hl [0, 1] rfl) h29
    clear eJ7
    refine lv_if_ne (tgt := 100) hx hb dX12_writesRow_91 (by decide) (fun c40 => ?_) (fun c40 => ?_)
    · have h31 := dif h30 c40
      clear h30
      exact kJ7 σ4 _ _ _ Z (lv_sub hl [0, 1] rfl) h31
    · have h32 := dit h30 c40
      clear h30
      refine lv_aload_n hx hb dX12_writesRow_94 rfl (lv_at hl 0 rfl) ?_
      refine lv_bipush (v := (48 : Int32)) hx hb dX12_writesRow_95 (by decide) ?_
      obtain ⟨σ42, hc40, h33⟩ := db1_s h32
      clear h32
      refine cV_V [.int (48 : Int32)] [] B mx_yX12_writes (c_fMM_writes l X _ (48 : Int32) σ4 σ42 hc40) kl_RX12_387 mi_yX12_writes (rv_33 _ _) hcl_12 Z hl rfl rfl ⟨Nat.le_of_ble_eq_true rfl, Nat.le_of_ble_eq_true rfl⟩ rfl rfl (Nat.le_of_ble_eq_true rfl) dX12_writesRow_97 (fun H locs Z => ?_)
      clear hc40
      exact kJ7 σ42 _ _ _ Z (lv_sub hl [0, 1] rfl) h33
  clear eK5
  have lL7 : ∀ (n : Nat), ∀ (x2 : Int32) (σ3 : sT) (H : Heap) (locs : List Loc) (ls : Array Slot), Wd (wM X) (tM X) (aM X) X s σ3 H locs → lv_has ls 4 [(0, .ref (X.2.1 33)), (1, .int a1), (2, .int x2)] → fMM_writesRow_L7 a1 K5 n x2 σ3 = some σz → W p l e rm_fMM_writesRow s m args below meth c H locs 0 0 (MQ below (va_Qv (fun u => u = σz) (poW (wM X) (tM X) (aM X) X sz) (aA (aM X) sz)) args s 0 0 (aA (aM X) sz)) (F0 m 7 ls []) := by
    intro n
    induction n with
    | zero =>
      intro x2 σ3 H locs ls Z hl h
      exact nomatch (show (none : Option (sT)) = some _ from h)
    | succ n43 ih5 =>
      intro x2 σ3 H locs ls Z hl h35
      unfold fMM_writesRow_L7 at h35
      refine lv_iload_n hx hb dX12_writesRow_7 rfl (lv_at hl 2 rfl) ?_
      refine lv_iconst (v := (3 : Int32)) hx hb dX12_writesRow_8 (by decide) ?_
      refine lv_icmp_ge (tgt := 87) hx hb dX12_writesRow_9 (by decide) (fun c44 => ?_) (fun c44 => ?_)
      · have h36 := dit h35 c44
        clear h35
        exact kK5 σ3 _ _ _ Z (lv_sub hl [0, 1] rfl) h36
      · have h37 := dif h35 c44
        clear h35
        refine lv_aload_n hx hb dX12_writesRow_12 rfl (lv_at hl 0 rfl) ?_
        refine lv_iload_n hx hb dX12_writesRow_13 rfl (lv_at hl 1 rfl) ?_
        refine lv_iload_n hx hb dX12_writesRow_14 rfl (lv_at hl 2 rfl) ?_
        obtain ⟨r46, hc44, h38⟩ := db1_s h37
        clear h37
        refine cV_I [.int a1, .int x2] [] B mx_yX12_at (c_fMM_at l X _ a1 x2 σ3 r46 hc44) kl_RX12_87 mi_yX12_at (rv_33 _ _) hcl_12 Z hl rfl rfl ⟨Nat.le_of_ble_eq_true rfl, Nat.le_of_ble_eq_true rfl⟩ rfl rfl (Nat.le_of_ble_eq_true rfl) dX12_writesRow_15 (fun H locs Z => ?_)
        clear hc44
        refine lv_istore_n (lv' := [(3, .int r46), (0, .ref (X.2.1 33)), (1, .int a1), (2, .int x2)]) hx hb dX12_writesRow_18 rfl hl (by decide) rfl (fun ls hl => ?_)
        refine lv_iload_n hx hb dX12_writesRow_19 rfl (lv_at hl 0 rfl) ?_
        refine lv_if_eq (tgt := 81) hx hb dX12_writesRow_20 (by decide) (fun c47 => ?_) (fun c47 => ?_)
        · have h39 := dit h38 c47
          clear h38
          refine lv_iinc (v := x2 + (1 : Int32)) (lv' := [(2, .int (x2 + (1 : Int32))), (3, .int r46), (0, .ref (X.2.1 33)), (1, .int a1)]) hx hb dX12_writesRow_81 hl (k := 3) rfl (by rfl) (by decide) rfl (fun ls hl => ?_)
          refine lv_goto (tgt := 7) hx hb dX12_writesRow_84 (by decide) ?_
          exact ih5 (x2 + (1 : Int32)) σ3 _ _ _ Z (lv_sub hl [2, 3, 0] rfl) h39
        · have h40 := dif h38 c47
          clear h38
          refine lv_iload_n hx hb dX12_writesRow_23 rfl (lv_at hl 0 rfl) ?_
          obtain ⟨J49, eJ49, h56⟩ := dlt_s h40
          clear h40
          have kJ49 : ∀ (σ48 : sT) (H : Heap) (locs : List Loc) (ls : Array Slot), Wd (wM X) (tM X) (aM X) X s σ48 H locs → lv_has ls 4 [(0, .ref (X.2.1 33)), (1, .int a1), (2, .int x2), (3, .int r46)] → J49 σ48 = some σz → W p l e rm_fMM_writesRow s m args below meth c H locs 0 0 (MQ below (va_Qv (fun u => u = σz) (poW (wM X) (tM X) (aM X) X sz) (aA (aM X) sz)) args s 0 0 (aA (aM X) sz)) (F0 m 49 ls []) := by
            intro σ48 H locs ls Z hl h41
            rw [eJ49] at h41
            refine lv_iload_n hx hb dX12_writesRow_49 rfl (lv_at hl 3 rfl) ?_
            refine lv_iconst (v := (1 : Int32)) hx hb dX12_writesRow_50 (by decide) ?_
            obtain ⟨J51, eJ51, h44⟩ := dlt_s h41
            clear h41
            have kJ51 : ∀ (σ50 : sT) (H : Heap) (locs : List Loc) (ls : Array Slot), Wd (wM X) (tM X) (aM X) X s σ50 H locs → lv_has ls 4 [(0, .ref (X.2.1 33)), (1, .int a1), (2, .int x2)] → J51 σ50 = some σz → W p l e rm_fMM_writesRow s m args below meth c H locs 0 0 (MQ below (va_Qv (fun u => u = σz) (poW (wM X) (tM X) (aM X) X sz) (aA (aM X) sz)) args s 0 0 (aA (aM X) sz)) (F0 m 73 ls []) := by
              intro σ50 H locs ls Z hl h42
              rw [eJ51] at h42
              refine lv_aload_n hx hb dX12_writesRow_73 rfl (lv_at hl 0 rfl) ?_
              refine lv_bipush (v := (120 : Int32)) hx hb dX12_writesRow_74 (by decide) ?_
              refine lv_iload_n hx hb dX12_writesRow_76 rfl (lv_at hl 2 rfl) ?_
              refine lv_iadd hx hb dX12_writesRow_77 ?_
              obtain ⟨σ53, hc51, h43⟩ := db1_s h42
              clear h42
              refine cV_V [.int ((120 : Int32) + x2)] [] B mx_yX12_writes (c_fMM_writes l X _ ((120 : Int32) + x2) σ50 σ53 hc51) kl_RX12_387 mi_yX12_writes (rv_33 _ _) hcl_12 Z hl rfl rfl ⟨Nat.le_of_ble_eq_true rfl, Nat.le_of_ble_eq_true rfl⟩ rfl rfl (Nat.le_of_ble_eq_true rfl) dX12_writesRow_78 (fun H locs Z => ?_)
              clear hc51
              refine lv_iinc (v := x2 + (1 : Int32)) (lv' := [(2, .int (x2 + (1 : Int32))), (0, .ref (X.2.1 33)), (1, .int a1)]) hx hb dX12_writesRow_81 hl (k := 2) rfl (by rfl) (by decide) rfl (fun ls hl => ?_)
              refine lv_goto (tgt := 7) hx hb dX12_writesRow_84 (by decide) ?_
              exact ih5 (x2 + (1 : Int32)) σ53 _ _ _ Z (lv_sub hl [1, 2, 0] rfl) h43
            clear eJ51
            obtain ⟨J54, eJ54, h51⟩ := dlt_s h44
            clear h44
            have kJ54 : ∀ (H : Heap) (locs : List Loc) (ls : Array Slot), Wd (wM X) (tM X) (aM X) X s σ48 H locs → lv_has ls 4 [(0, .ref (X.2.1 33)), (1, .int a1), (2, .int x2), (3, .int r46)] → J54 () = some σz → W p l e rm_fMM_writesRow s m args below meth c H locs 0 0 (MQ below (va_Qv (fun u => u = σz) (poW (wM X) (tM X) (aM X) X sz) (aA (aM X) sz)) args s 0 0 (aA (aM X) sz)) (F0 m 59 ls []) := by
              intro  H locs ls Z hl h45
              rw [eJ54] at h45
              refine lv_aload_n hx hb dX12_writesRow_59 rfl (lv_at hl 0 rfl) ?_
              refine lv_iload_n hx hb dX12_writesRow_60 rfl (lv_at hl 3 rfl) ?_
              obtain ⟨J56, eJ56, h48⟩ := dlt_s h45
              clear h45
              have kJ56 : ∀ (x55 : Int32) (H : Heap) (locs : List Loc) (ls : Array Slot), Wd (wM X) (tM X) (aM X) X s σ48 H locs → lv_has ls 4 [(0, .ref (X.2.1 33)), (1, .int a1), (2, .int x2)] → J56 x55 = some σz → W p l e rm_fMM_writesRow s m args below meth c H locs 0 0 (MQ below (va_Qv (fun u => u = σz) (poW (wM X) (tM X) (aM X) X sz) (aA (aM X) sz)) args s 0 0 (aA (aM X) sz)) (F0 m 70 ls [.int x55, .ref (X.2.1 33)]) := by
                intro x55 H locs ls Z hl h46
                rw [eJ56] at h46
                obtain ⟨σ58, hc56, h47⟩ := db1_s h46
                clear h46
                refine cV_V [.int x55] [] B mx_yX12_writesNumber (c_fMM_writesNumber l X _ x55 σ48 σ58 hc56) kl_RX12_390 mi_yX12_writesNumber (rv_33 _ _) hcl_12 Z hl rfl rfl ⟨Nat.le_of_ble_eq_true rfl, Nat.le_of_ble_eq_true rfl⟩ rfl rfl (Nat.le_of_ble_eq_true rfl) dX12_writesRow_70 (fun H locs Z => ?_)
                clear hc56
                exact kJ51 σ58 _ _ _ Z (lv_sub hl [0, 1, 2] rfl) h47
              clear eJ56
              refine lv_if_ge (tgt := 69) hx hb dX12_writesRow_61 (by decide) (fun c59 => ?_) (fun c59 => ?_)
              · have h49 := dit h48 c59
                clear h48
                refine lv_iload_n hx hb dX12_writesRow_69 rfl (lv_at hl 3 rfl) ?_
                exact kJ56 r46 _ _ _ Z (lv_sub hl [0, 1, 2] rfl) h49
              · have h50 := dif h48 c59
                clear h48
                refine lv_iload_n hx hb dX12_writesRow_64 rfl (lv_at hl 3 rfl) ?_
                refine lv_ineg hx hb dX12_writesRow_65 ?_
                refine lv_goto (tgt := 70) hx hb dX12_writesRow_66 (by decide) ?_
                exact kJ56 (-r46) _ _ _ Z (lv_sub hl [0, 1, 2] rfl) h50
            clear eJ54
            refine lv_icmp_gt (tgt := 59) hx hb dX12_writesRow_51 (by decide) (fun c60 => ?_) (fun c60 => ?_)
            · have h52 := dit h51 c60
              clear h51
              exact kJ54  _ _ _ Z (lv_sub hl [0, 1, 2, 3] rfl) h52
            · have h53 := dif h51 c60
              clear h51
              refine lv_iload_n hx hb dX12_writesRow_54 rfl (lv_at hl 3 rfl) ?_
              refine lv_iconst (v := (-1 : Int32)) hx hb dX12_writesRow_55 (by decide) ?_
              refine lv_icmp_ge (tgt := 73) hx hb dX12_writesRow_56 (by decide) (fun c61 => ?_) (fun c61 => ?_)
              · have h54 := dit h53 c61
                clear h53
                exact kJ51 σ48 _ _ _ Z (lv_sub hl [0, 1, 2] rfl) h54
              · have h55 := dif h53 c61
                clear h53
                exact kJ54  _ _ _ Z (lv_sub hl [0, 1, 2, 3] rfl) h55
          clear eJ49
          refine lv_if_ge (tgt := 36) hx hb dX12_writesRow_24 (by decide) (fun c62 => ?_) (fun c62 => ?_)
          · have h57 := dit h56 c62
            clear h56
            refine lv_aload_n hx hb dX12_writesRow_36 rfl (lv_at hl 1 rfl) ?_
            refine g_33_38 B Z kf_RX12_384 dX12_writesRow_37 ?_
            refine lv_if_le (tgt := 49) hx hb dX12_writesRow_40 (by decide) (fun c63 => ?_) (fun c63 => ?_)
            · have h58 := dit h57 c63
              clear h57
              exact kJ49 σ3 _ _ _ Z (lv_sub hl [1, 2, 3, 0] rfl) h58
            · have h59 := dif h57 c63
              clear h57
              refine lv_aload_n hx hb dX12_writesRow_43 rfl (lv_at hl 1 rfl) ?_
              refine lv_bipush (v := (43 : Int32)) hx hb dX12_writesRow_44 (by decide) ?_
              obtain ⟨σ65, hc63, h60⟩ := db1_s h59
              clear h59
              refine cV_V [.int (43 : Int32)] [] B mx_yX12_writes (c_fMM_writes l X _ (43 : Int32) σ3 σ65 hc63) kl_RX12_387 mi_yX12_writes (rv_33 _ _) hcl_12 Z hl rfl rfl ⟨Nat.le_of_ble_eq_true rfl, Nat.le_of_ble_eq_true rfl⟩ rfl rfl (Nat.le_of_ble_eq_true rfl) dX12_writesRow_46 (fun H locs Z => ?_)
              clear hc63
              exact kJ49 σ65 _ _ _ Z (lv_sub hl [1, 2, 3, 0] rfl) h60
          · have h61 := dif h56 c62
            clear h56
            refine lv_aload_n hx hb dX12_writesRow_27 rfl (lv_at hl 1 rfl) ?_
            refine lv_bipush (v := (45 : Int32)) hx hb dX12_writesRow_28 (by decide) ?_
            obtain ⟨σ67, hc65, h62⟩ := db1_s h61
            clear h61
            refine cV_V [.int (45 : Int32)] [] B mx_yX12_writes (c_fMM_writes l X _ (45 : Int32) σ3 σ67 hc65) kl_RX12_387 mi_yX12_writes (rv_33 _ _) hcl_12 Z hl rfl rfl ⟨Nat.le_of_ble_eq_true rfl, Nat.le_of_ble_eq_true rfl⟩ rfl rfl (Nat.le_of_ble_eq_true rfl) dX12_writesRow_30 (fun H locs Z => ?_)
            clear hc65
            refine lv_goto (tgt := 49) hx hb dX12_writesRow_33 (by decide) ?_
            exact kJ49 σ67 _ _ _ Z (lv_sub hl [1, 2, 3, 0] rfl) h62
  exact lL7 FU (0 : Int32) σ1 _ _ _ Z (lv_sub hl [1, 2, 0] rfl) h34
theorem dX12_shownOf_0 : decode cX12_shownOf 0 = .ok (.aload_n 0, 1) := by decide +kernel
theorem dX12_shownOf_1 : decode cX12_shownOf 1 = .ok (.iload_n 1, 1) := by decide +kernel
theorem dX12_shownOf_2 : decode cX12_shownOf 2 = .ok (.invokevirtual 393, 3) := by decide +kernel
theorem dX12_shownOf_5 : decode cX12_shownOf 5 = .ok (.iload_n 2, 1) := by decide +kernel
theorem dX12_shownOf_6 : decode cX12_shownOf 6 = .ok (.aload_n 0, 1) := by decide +kernel
theorem dX12_shownOf_7 : decode cX12_shownOf 7 = .ok (.getfield 384, 3) := by decide +kernel
theorem dX12_shownOf_10 : decode cX12_shownOf 10 = .ok (.if_icmp .ge 12, 3) := by decide +kernel
theorem dX12_shownOf_13 : decode cX12_shownOf 13 = .ok (.aload_n 0, 1) := by decide +kernel
theorem dX12_shownOf_14 : decode cX12_shownOf 14 = .ok (.getfield 60, 3) := by decide +kernel
theorem dX12_shownOf_17 : decode cX12_shownOf 17 = .ok (.iload_n 2, 1) := by decide +kernel
theorem dX12_shownOf_18 : decode cX12_shownOf 18 = .ok (.iaload, 1) := by decide +kernel
theorem dX12_shownOf_19 : decode cX12_shownOf 19 = .ok (.goto 6, 3) := by decide +kernel
theorem dX12_shownOf_22 : decode cX12_shownOf 22 = .ok (.ldc_w 396, 3) := by decide +kernel
theorem dX12_shownOf_25 : decode cX12_shownOf 25 = .ok (.ireturn, 1) := by decide +kernel
def rm_fMM_shownOf : Room := { frames := 4, cells := 0, slots := 0, locals := 125 }
set_option maxHeartbeats 4000000 in
set_option maxRecDepth 100000 in
theorem c_fMM_shownOf (l : Launch) (X : eX) (sz : Nat) (a1 : Int32) (a2 : Int32) (σ : sT) (rz : Int32) (σz : sT) (h0 : fMM_shownOf a1 a2 σ = some (rz, σz)) : ctI l yX12_shownOf cX12_shownOf 3 (some .int) rm_fMM_shownOf [.ref (X.2.1 33), .int a1, .int a2] (wM X) (tM X) (aM X) X sz σ rz σz := by
  refine ct_of (by decide +kernel) (Nat.le_of_ble_eq_true rfl) ?_
  intro p e s m args below meth c ls hz B hl Z
  have B : Bd p s m args meth c RX12 cX12_shownOf 3 (some .int) := B
  have hl : lv_has ls 3 [(0, .ref (X.2.1 33)), (1, .int a1), (2, .int a2)] := hl
  have hx := B.1
  have hb := B.2.1
  unfold fMM_shownOf at h0
  refine lv_aload_n hx hb dX12_shownOf_0 rfl (lv_at hl 0 rfl) ?_
  refine lv_iload_n hx hb dX12_shownOf_1 rfl (lv_at hl 1 rfl) ?_
  obtain ⟨σ2, hc0, h1⟩ := db1_s h0
  clear h0
  refine cV_V [.int a1] [] B mx_yX12_writesRow (c_fMM_writesRow l X _ a1 σ σ2 hc0) kl_RX12_393 mi_yX12_writesRow (rv_33 _ _) hcl_12 Z hl rfl rfl ⟨Nat.le_of_ble_eq_true rfl, Nat.le_of_ble_eq_true rfl⟩ rfl rfl (Nat.le_of_ble_eq_true rfl) dX12_shownOf_2 (fun H locs Z => ?_)
  clear hc0
  refine lv_iload_n hx hb dX12_shownOf_5 rfl (lv_at hl 2 rfl) ?_
  refine lv_aload_n hx hb dX12_shownOf_6 rfl (lv_at hl 0 rfl) ?_
  refine g_33_38 B Z kf_RX12_384 dX12_shownOf_7 ?_
  refine lv_icmp_ge (tgt := 22) hx hb dX12_shownOf_10 (by decide) (fun c3 => ?_) (fun c3 => ?_)
  · have h2 := dit h1 c3
    clear h1
    refine lv_ldcw hx hb B.2.2.2.1 (B.2.2.2.2.1 _ kc_RX12_396) dX12_shownOf_22 ?_
    exact reI B Z rfl hz h2 dX12_shownOf_25
  · have h3 := dif h1 c3
    clear h1
    refine lv_aload_n hx hb dX12_shownOf_13 rfl (lv_at hl 0 rfl) ?_
    refine g_33_37 B Z kf_RX12_60 dX12_shownOf_14 ?_
    refine lv_iload_n hx hb dX12_shownOf_17 rfl (lv_at hl 2 rfl) ?_
    obtain ⟨z4, h4⟩ := dck_s h3
    clear h3
    refine ld_50 B Z z4 dX12_shownOf_18 ?_
    refine lv_goto (tgt := 25) hx hb dX12_shownOf_19 (by decide) ?_
    exact reI B Z rfl hz h4 dX12_shownOf_25
theorem dX12_shown_0 : decode cX12_shown 0 = .ok (.aload_n 0, 1) := by decide +kernel
theorem dX12_shown_1 : decode cX12_shown 1 = .ok (.iload_n 1, 1) := by decide +kernel
theorem dX12_shown_2 : decode cX12_shown 2 = .ok (.invokevirtual 180, 3) := by decide +kernel
theorem dX12_shown_5 : decode cX12_shown 5 = .ok (.ifCond .eq 16, 3) := by decide +kernel
theorem dX12_shown_8 : decode cX12_shown 8 = .ok (.iload_n 2, 1) := by decide +kernel
theorem dX12_shown_9 : decode cX12_shown 9 = .ok (.ifCond .lt 12, 3) := by decide +kernel
theorem dX12_shown_12 : decode cX12_shown 12 = .ok (.aload_n 0, 1) := by decide +kernel
theorem dX12_shown_13 : decode cX12_shown 13 = .ok (.iload_n 1, 1) := by decide +kernel
theorem dX12_shown_14 : decode cX12_shown 14 = .ok (.iload_n 2, 1) := by decide +kernel
theorem dX12_shown_15 : decode cX12_shown 15 = .ok (.invokevirtual 397, 3) := by decide +kernel
theorem dX12_shown_18 : decode cX12_shown 18 = .ok (.goto 9, 3) := by decide +kernel
theorem dX12_shown_21 : decode cX12_shown 21 = .ok (.aload_n 0, 1) := by decide +kernel
theorem dX12_shown_22 : decode cX12_shown 22 = .ok (.ldc 63, 2) := by decide +kernel
theorem dX12_shown_24 : decode cX12_shown 24 = .ok (.invokevirtual 168, 3) := by decide +kernel
theorem dX12_shown_27 : decode cX12_shown 27 = .ok (.ireturn, 1) := by decide +kernel
def rm_fMM_shown : Room := { frames := 5, cells := 0, slots := 0, locals := 147 }
set_option maxHeartbeats 4000000 in
set_option maxRecDepth 100000 in
theorem c_fMM_shown (l : Launch) (X : eX) (sz : Nat) (a1 : Int32) (a2 : Int32) (σ : sT) (rz : Int32) (σz : sT) (h0 : fMM_shown a1 a2 σ = some (rz, σz)) : ctI l yX12_shown cX12_shown 3 (some .int) rm_fMM_shown [.ref (X.2.1 33), .int a1, .int a2] (wM X) (tM X) (aM X) X sz σ rz σz := by
  refine ct_of (by decide +kernel) (Nat.le_of_ble_eq_true rfl) ?_
  intro p e s m args below meth c ls hz B hl Z
  have B : Bd p s m args meth c RX12 cX12_shown 3 (some .int) := B
  have hl : lv_has ls 3 [(0, .ref (X.2.1 33)), (1, .int a1), (2, .int a2)] := hl
  have hx := B.1
  have hb := B.2.1
  unfold fMM_shown at h0
  refine lv_aload_n hx hb dX12_shown_0 rfl (lv_at hl 0 rfl) ?_
  refine lv_iload_n hx hb dX12_shown_1 rfl (lv_at hl 1 rfl) ?_
  obtain ⟨r2, hc0, h1⟩ := db1_s h0
  clear h0
  refine cV_I [.int a1] [] B mx_yX12_isRow (c_fMM_isRow l X _ a1 σ r2 hc0) kl_RX12_180 mi_yX12_isRow (rv_33 _ _) hcl_12 Z hl rfl rfl ⟨Nat.le_of_ble_eq_true rfl, Nat.le_of_ble_eq_true rfl⟩ rfl rfl (Nat.le_of_ble_eq_true rfl) dX12_shown_2 (fun H locs Z => ?_)
  clear hc0
  obtain ⟨J3, eJ3, h4⟩ := dlt_s h1
  clear h1
  have kJ3 : ∀ (H : Heap) (locs : List Loc) (ls : Array Slot), Wd (wM X) (tM X) (aM X) X s σ H locs → lv_has ls 3 [(0, .ref (X.2.1 33))] → J3 () = some (rz, σz) → W p l e rm_fMM_shown s m args below meth c H locs 0 0 (MQ below (va_Qi (fun a u => a = rz ∧ u = σz) (poW (wM X) (tM X) (aM X) X sz) (aA (aM X) sz)) args s 0 0 (aA (aM X) sz)) (F0 m 21 ls []) := by
    intro  H locs ls Z hl h2
    rw [eJ3] at h2
    refine lv_aload_n hx hb dX12_shown_21 rfl (lv_at hl 0 rfl) ?_
    refine lv_ldc hx hb B.2.2.2.1 (B.2.2.2.2.1 _ kc_RX12_63) dX12_shown_22 ?_
    obtain ⟨r5, σ6, hc3, h3⟩ := db2_s h2
    clear h2
    refine cV_I [.int (-1000002 : Int32)] [] B mx_yX12_refuses (c_fMM_refuses l X _ (-1000002 : Int32) σ r5 σ6 hc3) kl_RX12_168 mi_yX12_refuses (rv_33 _ _) hcl_12 Z hl rfl rfl ⟨Nat.le_of_ble_eq_true rfl, Nat.le_of_ble_eq_true rfl⟩ rfl rfl (Nat.le_of_ble_eq_true rfl) dX12_shown_24 (fun H locs Z => ?_)
    clear hc3
    exact reI B Z rfl hz h3 dX12_shown_27
  clear eJ3
  refine lv_if_eq (tgt := 21) hx hb dX12_shown_5 (by decide) (fun c7 => ?_) (fun c7 => ?_)
  · have h5 := dit h4 c7
    clear h4
    exact kJ3  _ _ _ Z (lv_sub hl [0] rfl) h5
  · have h6 := dif h4 c7
    clear h4
    refine lv_iload_n hx hb dX12_shown_8 rfl (lv_at hl 2 rfl) ?_
    refine lv_if_lt (tgt := 21) hx hb dX12_shown_9 (by decide) (fun c8 => ?_) (fun c8 => ?_)
    · have h7 := dit h6 c8
      clear h6
      exact kJ3  _ _ _ Z (lv_sub hl [0] rfl) h7
    · have h8 := dif h6 c8
      clear h6
      refine lv_aload_n hx hb dX12_shown_12 rfl (lv_at hl 0 rfl) ?_
      refine lv_iload_n hx hb dX12_shown_13 rfl (lv_at hl 1 rfl) ?_
      refine lv_iload_n hx hb dX12_shown_14 rfl (lv_at hl 2 rfl) ?_
      obtain ⟨r10, σ11, hc8, h9⟩ := db2_s h8
      clear h8
      refine cV_I [.int a1, .int a2] [] B mx_yX12_shownOf (c_fMM_shownOf l X _ a1 a2 σ r10 σ11 hc8) kl_RX12_397 mi_yX12_shownOf (rv_33 _ _) hcl_12 Z hl rfl rfl ⟨Nat.le_of_ble_eq_true rfl, Nat.le_of_ble_eq_true rfl⟩ rfl rfl (Nat.le_of_ble_eq_true rfl) dX12_shown_15 (fun H locs Z => ?_)
      clear hc8
      refine lv_goto (tgt := 27) hx hb dX12_shown_18 (by decide) ?_
      exact reI B Z rfl hz h9 dX12_shown_27
theorem dX12_back_0 : decode cX12_back 0 = .ok (.aload_n 0, 1) := by decide +kernel
theorem dX12_back_1 : decode cX12_back 1 = .ok (.getfield 64, 3) := by decide +kernel
theorem dX12_back_4 : decode cX12_back 4 = .ok (.ifCond .ne 10, 3) := by decide +kernel
theorem dX12_back_7 : decode cX12_back 7 = .ok (.aload_n 0, 1) := by decide +kernel
theorem dX12_back_8 : decode cX12_back 8 = .ok (.ldc 201, 2) := by decide +kernel
theorem dX12_back_10 : decode cX12_back 10 = .ok (.invokevirtual 168, 3) := by decide +kernel
theorem dX12_back_13 : decode cX12_back 13 = .ok (.ireturn, 1) := by decide +kernel
theorem dX12_back_14 : decode cX12_back 14 = .ok (.aload_n 0, 1) := by decide +kernel
theorem dX12_back_15 : decode cX12_back 15 = .ok (.dup, 1) := by decide +kernel
theorem dX12_back_16 : decode cX12_back 16 = .ok (.getfield 64, 3) := by decide +kernel
theorem dX12_back_19 : decode cX12_back 19 = .ok (.iconst 1, 1) := by decide +kernel
theorem dX12_back_20 : decode cX12_back 20 = .ok (.isub, 1) := by decide +kernel
theorem dX12_back_21 : decode cX12_back 21 = .ok (.putfield 64, 3) := by decide +kernel
theorem dX12_back_24 : decode cX12_back 24 = .ok (.iconst 0, 1) := by decide +kernel
theorem dX12_back_25 : decode cX12_back 25 = .ok (.istore_n 1, 1) := by decide +kernel
theorem dX12_back_26 : decode cX12_back 26 = .ok (.iload_n 1, 1) := by decide +kernel
theorem dX12_back_27 : decode cX12_back 27 = .ok (.bipush 73, 2) := by decide +kernel
theorem dX12_back_29 : decode cX12_back 29 = .ok (.if_icmp .ge 29, 3) := by decide +kernel
theorem dX12_back_32 : decode cX12_back 32 = .ok (.aload_n 0, 1) := by decide +kernel
theorem dX12_back_33 : decode cX12_back 33 = .ok (.getfield 7, 3) := by decide +kernel
theorem dX12_back_36 : decode cX12_back 36 = .ok (.iload_n 1, 1) := by decide +kernel
theorem dX12_back_37 : decode cX12_back 37 = .ok (.aload_n 0, 1) := by decide +kernel
theorem dX12_back_38 : decode cX12_back 38 = .ok (.getfield 13, 3) := by decide +kernel
theorem dX12_back_41 : decode cX12_back 41 = .ok (.bipush 73, 2) := by decide +kernel
theorem dX12_back_43 : decode cX12_back 43 = .ok (.aload_n 0, 1) := by decide +kernel
theorem dX12_back_44 : decode cX12_back 44 = .ok (.getfield 64, 3) := by decide +kernel
theorem dX12_back_47 : decode cX12_back 47 = .ok (.imul, 1) := by decide +kernel
theorem dX12_back_48 : decode cX12_back 48 = .ok (.iload_n 1, 1) := by decide +kernel
theorem dX12_back_49 : decode cX12_back 49 = .ok (.iadd, 1) := by decide +kernel
theorem dX12_back_50 : decode cX12_back 50 = .ok (.iaload, 1) := by decide +kernel
theorem dX12_back_51 : decode cX12_back 51 = .ok (.iastore, 1) := by decide +kernel
theorem dX12_back_52 : decode cX12_back 52 = .ok (.iinc 1 1, 3) := by decide +kernel
theorem dX12_back_55 : decode cX12_back 55 = .ok (.goto (-29), 3) := by decide +kernel
theorem dX12_back_58 : decode cX12_back 58 = .ok (.aload_n 0, 1) := by decide +kernel
theorem dX12_back_59 : decode cX12_back 59 = .ok (.getfield 64, 3) := by decide +kernel
theorem dX12_back_62 : decode cX12_back 62 = .ok (.ireturn, 1) := by decide +kernel
def rm_fMM_back : Room := { frames := 2, cells := 0, slots := 0, locals := 81 }
set_option maxHeartbeats 4000000 in
set_option maxRecDepth 100000 in
theorem c_fMM_back (l : Launch) (X : eX) (sz : Nat)  (σ : sT) (rz : Int32) (σz : sT) (h0 : fMM_back σ = some (rz, σz)) : ctI l yX12_back cX12_back 2 (some .int) rm_fMM_back [.ref (X.2.1 33)] (wM X) (tM X) (aM X) X sz σ rz σz := by
  refine ct_of (by decide +kernel) (Nat.le_of_ble_eq_true rfl) ?_
  intro p e s m args below meth c ls hz B hl Z
  have B : Bd p s m args meth c RX12 cX12_back 2 (some .int) := B
  have hl : lv_has ls 2 [(0, .ref (X.2.1 33))] := hl
  have hx := B.1
  have hb := B.2.1
  unfold fMM_back at h0
  refine lv_aload_n hx hb dX12_back_0 rfl (lv_at hl 0 rfl) ?_
  refine g_33_2 B Z kf_RX12_64 dX12_back_1 ?_
  refine lv_if_ne (tgt := 14) hx hb dX12_back_4 (by decide) (fun c1 => ?_) (fun c1 => ?_)
  · have h1 := dif h0 c1
    clear h0
    refine lv_aload_n hx hb dX12_back_14 rfl (lv_at hl 0 rfl) ?_
    refine lv_dup hx hb dX12_back_15 rfl ?_
    refine g_33_2 B Z kf_RX12_64 dX12_back_16 ?_
    refine lv_iconst (v := (1 : Int32)) hx hb dX12_back_19 (by decide) ?_
    refine lv_isub hx hb dX12_back_20 ?_
    refine s_33_2 B Z kf_RX12_64 dX12_back_21 (fun H locs Z => ?_)
    obtain ⟨σ2, eσ2, h2⟩ := dlt_s h1
    clear h1
    replace Z := Wd.eq eσ2 Z
    clear eσ2
    refine lv_iconst (v := (0 : Int32)) hx hb dX12_back_24 (by decide) ?_
    refine lv_istore_n (lv' := [(1, .int (0 : Int32)), (0, .ref (X.2.1 33))]) hx hb dX12_back_25 rfl hl (by decide) rfl (fun ls hl => ?_)
    have lL26 : ∀ (n : Nat), ∀ (x3 : Int32) (σ4 : sT) (H : Heap) (locs : List Loc) (ls : Array Slot), Wd (wM X) (tM X) (aM X) X s σ4 H locs → lv_has ls 2 [(0, .ref (X.2.1 33)), (1, .int x3)] → fMM_back_L26 n x3 σ4 = some (rz, σz) → W p l e rm_fMM_back s m args below meth c H locs 0 0 (MQ below (va_Qi (fun a u => a = rz ∧ u = σz) (poW (wM X) (tM X) (aM X) X sz) (aA (aM X) sz)) args s 0 0 (aA (aM X) sz)) (F0 m 26 ls []) := by
      intro n
      induction n with
      | zero =>
        intro x3 σ4 H locs ls Z hl h
        exact nomatch (show (none : Option (Int32 × sT)) = some _ from h)
      | succ n5 ih15 =>
        intro x3 σ4 H locs ls Z hl h3
        unfold fMM_back_L26 at h3
        refine lv_iload_n hx hb dX12_back_26 rfl (lv_at hl 1 rfl) ?_
        refine lv_bipush (v := (73 : Int32)) hx hb dX12_back_27 (by decide) ?_
        refine lv_icmp_ge (tgt := 58) hx hb dX12_back_29 (by decide) (fun c6 => ?_) (fun c6 => ?_)
        · have h4 := dit h3 c6
          clear h3
          refine lv_aload_n hx hb dX12_back_58 rfl (lv_at hl 0 rfl) ?_
          refine g_33_2 B Z kf_RX12_64 dX12_back_59 ?_
          exact reI B Z rfl hz h4 dX12_back_62
        · have h5 := dif h3 c6
          clear h3
          refine lv_aload_n hx hb dX12_back_32 rfl (lv_at hl 0 rfl) ?_
          refine g_33_0 B Z kf_RX12_7 dX12_back_33 ?_
          refine lv_iload_n hx hb dX12_back_36 rfl (lv_at hl 1 rfl) ?_
          refine lv_aload_n hx hb dX12_back_37 rfl (lv_at hl 0 rfl) ?_
          refine g_33_1 B Z kf_RX12_13 dX12_back_38 ?_
          refine lv_bipush (v := (73 : Int32)) hx hb dX12_back_41 (by decide) ?_
          refine lv_aload_n hx hb dX12_back_43 rfl (lv_at hl 0 rfl) ?_
          refine g_33_2 B Z kf_RX12_64 dX12_back_44 ?_
          refine lv_imul hx hb dX12_back_47 ?_
          refine lv_iload_n hx hb dX12_back_48 rfl (lv_at hl 1 rfl) ?_
          refine lv_iadd hx hb dX12_back_49 ?_
          obtain ⟨z7, h6⟩ := dck_s h5
          clear h5
          refine ld_35 B Z z7 dX12_back_50 ?_
          obtain ⟨z8, h7⟩ := dck_s h6
          clear h6
          refine st_34 B Z z8 dX12_back_51 (fun H locs Z => ?_)
          obtain ⟨σ9, eσ9, h8⟩ := dlt_s h7
          clear h7
          replace Z := Wd.eq eσ9 Z
          clear eσ9
          refine lv_iinc (v := x3 + (1 : Int32)) (lv' := [(1, .int (x3 + (1 : Int32))), (0, .ref (X.2.1 33))]) hx hb dX12_back_52 hl (k := 1) rfl (by rfl) (by decide) rfl (fun ls hl => ?_)
          refine lv_goto (tgt := 26) hx hb dX12_back_55 (by decide) ?_
          exact ih15 (x3 + (1 : Int32)) σ9 _ _ _ Z (lv_sub hl [1, 0] rfl) h8
    exact lL26 FU (0 : Int32) σ2 _ _ _ Z (lv_sub hl [1, 0] rfl) h2
  · have h9 := dit h0 c1
    clear h0
    refine lv_aload_n hx hb dX12_back_7 rfl (lv_at hl 0 rfl) ?_
    refine lv_ldc hx hb B.2.2.2.1 (B.2.2.2.2.1 _ kc_RX12_201) dX12_back_8 ?_
    obtain ⟨r11, σ12, hc9, h10⟩ := db2_s h9
    clear h9
    refine cV_I [.int (-1000003 : Int32)] [] B mx_yX12_refuses (c_fMM_refuses l X _ (-1000003 : Int32) σ r11 σ12 hc9) kl_RX12_168 mi_yX12_refuses (rv_33 _ _) hcl_12 Z hl rfl rfl ⟨Nat.le_of_ble_eq_true rfl, Nat.le_of_ble_eq_true rfl⟩ rfl rfl (Nat.le_of_ble_eq_true rfl) dX12_back_10 (fun H locs Z => ?_)
    clear hc9
    exact reI B Z rfl hz h10 dX12_back_13
theorem dX12_toldOf_0 : decode cX12_toldOf 0 = .ok (.iload_n 1, 1) := by decide +kernel
theorem dX12_toldOf_1 : decode cX12_toldOf 1 = .ok (.iconst 3, 1) := by decide +kernel
theorem dX12_toldOf_2 : decode cX12_toldOf 2 = .ok (.if_icmp .ge 12, 3) := by decide +kernel
theorem dX12_toldOf_5 : decode cX12_toldOf 5 = .ok (.aload_n 0, 1) := by decide +kernel
theorem dX12_toldOf_6 : decode cX12_toldOf 6 = .ok (.getfield 16, 3) := by decide +kernel
theorem dX12_toldOf_9 : decode cX12_toldOf 9 = .ok (.iload_n 1, 1) := by decide +kernel
theorem dX12_toldOf_10 : decode cX12_toldOf 10 = .ok (.iaload, 1) := by decide +kernel
theorem dX12_toldOf_11 : decode cX12_toldOf 11 = .ok (.goto 33, 3) := by decide +kernel
theorem dX12_toldOf_14 : decode cX12_toldOf 14 = .ok (.iload_n 1, 1) := by decide +kernel
theorem dX12_toldOf_15 : decode cX12_toldOf 15 = .ok (.iconst 3, 1) := by decide +kernel
theorem dX12_toldOf_16 : decode cX12_toldOf 16 = .ok (.if_icmp .ne 10, 3) := by decide +kernel
theorem dX12_toldOf_19 : decode cX12_toldOf 19 = .ok (.aload_n 0, 1) := by decide +kernel
theorem dX12_toldOf_20 : decode cX12_toldOf 20 = .ok (.getfield 293, 3) := by decide +kernel
theorem dX12_toldOf_23 : decode cX12_toldOf 23 = .ok (.goto 21, 3) := by decide +kernel
theorem dX12_toldOf_26 : decode cX12_toldOf 26 = .ok (.iload_n 1, 1) := by decide +kernel
theorem dX12_toldOf_27 : decode cX12_toldOf 27 = .ok (.iconst 4, 1) := by decide +kernel
theorem dX12_toldOf_28 : decode cX12_toldOf 28 = .ok (.if_icmp .ne 12, 3) := by decide +kernel
theorem dX12_toldOf_31 : decode cX12_toldOf 31 = .ok (.aload_n 0, 1) := by decide +kernel
theorem dX12_toldOf_32 : decode cX12_toldOf 32 = .ok (.getfield 7, 3) := by decide +kernel
theorem dX12_toldOf_35 : decode cX12_toldOf 35 = .ok (.iconst 0, 1) := by decide +kernel
theorem dX12_toldOf_36 : decode cX12_toldOf 36 = .ok (.iaload, 1) := by decide +kernel
theorem dX12_toldOf_37 : decode cX12_toldOf 37 = .ok (.goto 7, 3) := by decide +kernel
theorem dX12_toldOf_40 : decode cX12_toldOf 40 = .ok (.aload_n 0, 1) := by decide +kernel
theorem dX12_toldOf_41 : decode cX12_toldOf 41 = .ok (.getfield 64, 3) := by decide +kernel
theorem dX12_toldOf_44 : decode cX12_toldOf 44 = .ok (.ireturn, 1) := by decide +kernel
def rm_fMM_toldOf : Room := { frames := 1, cells := 0, slots := 0, locals := 60 }
set_option maxHeartbeats 4000000 in
set_option maxRecDepth 100000 in
theorem c_fMM_toldOf (l : Launch) (X : eX) (sz : Nat) (a1 : Int32) (σ : sT) (rz : Int32) (h0 : fMM_toldOf a1 σ = some rz) : ctI l yX12_toldOf cX12_toldOf 2 (some .int) rm_fMM_toldOf [.ref (X.2.1 33), .int a1] (wM X) (tM X) (aM X) X sz σ rz σ := by
  refine ct_of (by decide +kernel) (Nat.le_of_ble_eq_true rfl) ?_
  intro p e s m args below meth c ls hz B hl Z
  have B : Bd p s m args meth c RX12 cX12_toldOf 2 (some .int) := B
  have hl : lv_has ls 2 [(0, .ref (X.2.1 33)), (1, .int a1)] := hl
  have hx := B.1
  have hb := B.2.1
  unfold fMM_toldOf at h0
  refine lv_iload_n hx hb dX12_toldOf_0 rfl (lv_at hl 1 rfl) ?_
  refine lv_iconst (v := (3 : Int32)) hx hb dX12_toldOf_1 (by decide) ?_
  refine lv_icmp_ge (tgt := 14) hx hb dX12_toldOf_2 (by decide) (fun c1 => ?_) (fun c1 => ?_)
  · have h1 := dit h0 c1
    clear h0
    refine lv_iload_n hx hb dX12_toldOf_14 rfl (lv_at hl 1 rfl) ?_
    refine lv_iconst (v := (3 : Int32)) hx hb dX12_toldOf_15 (by decide) ?_
    refine lv_icmp_ne (tgt := 26) hx hb dX12_toldOf_16 (by decide) (fun c2 => ?_) (fun c2 => ?_)
    · have h2 := dif h1 c2
      clear h1
      refine lv_iload_n hx hb dX12_toldOf_26 rfl (lv_at hl 1 rfl) ?_
      refine lv_iconst (v := (4 : Int32)) hx hb dX12_toldOf_27 (by decide) ?_
      refine lv_icmp_ne (tgt := 40) hx hb dX12_toldOf_28 (by decide) (fun c3 => ?_) (fun c3 => ?_)
      · have h3 := dif h2 c3
        clear h2
        refine lv_aload_n hx hb dX12_toldOf_40 rfl (lv_at hl 0 rfl) ?_
        refine g_33_2 B Z kf_RX12_64 dX12_toldOf_41 ?_
        exact reI B Z rfl hz (congrArg (Option.map (fun q => (q, σ))) h3) dX12_toldOf_44
      · have h4 := dit h2 c3
        clear h2
        refine lv_aload_n hx hb dX12_toldOf_31 rfl (lv_at hl 0 rfl) ?_
        refine g_33_0 B Z kf_RX12_7 dX12_toldOf_32 ?_
        refine lv_iconst (v := (0 : Int32)) hx hb dX12_toldOf_35 (by decide) ?_
        obtain ⟨z4, h5⟩ := dck_s h4
        clear h4
        refine ld_34 B Z z4 dX12_toldOf_36 ?_
        refine lv_goto (tgt := 44) hx hb dX12_toldOf_37 (by decide) ?_
        exact reI B Z rfl hz (congrArg (Option.map (fun q => (q, σ))) h5) dX12_toldOf_44
    · have h6 := dit h1 c2
      clear h1
      refine lv_aload_n hx hb dX12_toldOf_19 rfl (lv_at hl 0 rfl) ?_
      refine g_33_26 B Z kf_RX12_293 dX12_toldOf_20 ?_
      refine lv_goto (tgt := 44) hx hb dX12_toldOf_23 (by decide) ?_
      exact reI B Z rfl hz (congrArg (Option.map (fun q => (q, σ))) h6) dX12_toldOf_44
  · have h7 := dif h0 c1
    clear h0
    refine lv_aload_n hx hb dX12_toldOf_5 rfl (lv_at hl 0 rfl) ?_
    refine g_33_3 B Z kf_RX12_16 dX12_toldOf_6 ?_
    refine lv_iload_n hx hb dX12_toldOf_9 rfl (lv_at hl 1 rfl) ?_
    obtain ⟨z5, h8⟩ := dck_s h7
    clear h7
    refine ld_36 B Z z5 dX12_toldOf_10 ?_
    refine lv_goto (tgt := 44) hx hb dX12_toldOf_11 (by decide) ?_
    exact reI B Z rfl hz (congrArg (Option.map (fun q => (q, σ))) h8) dX12_toldOf_44
theorem dX12_told_0 : decode cX12_told 0 = .ok (.iload_n 1, 1) := by decide +kernel
theorem dX12_told_1 : decode cX12_told 1 = .ok (.i2l, 1) := by decide +kernel
theorem dX12_told_2 : decode cX12_told 2 = .ok (.lconst 0, 1) := by decide +kernel
theorem dX12_told_3 : decode cX12_told 3 = .ok (.ldc2_w 156, 3) := by decide +kernel
theorem dX12_told_6 : decode cX12_told 6 = .ok (.invokestatic 68, 3) := by decide +kernel
theorem dX12_told_9 : decode cX12_told 9 = .ok (.ifCond .eq 11, 3) := by decide +kernel
theorem dX12_told_12 : decode cX12_told 12 = .ok (.aload_n 0, 1) := by decide +kernel
theorem dX12_told_13 : decode cX12_told 13 = .ok (.iload_n 1, 1) := by decide +kernel
theorem dX12_told_14 : decode cX12_told 14 = .ok (.invokevirtual 400, 3) := by decide +kernel
theorem dX12_told_17 : decode cX12_told 17 = .ok (.goto 9, 3) := by decide +kernel
theorem dX12_told_20 : decode cX12_told 20 = .ok (.aload_n 0, 1) := by decide +kernel
theorem dX12_told_21 : decode cX12_told 21 = .ok (.ldc 63, 2) := by decide +kernel
theorem dX12_told_23 : decode cX12_told 23 = .ok (.invokevirtual 168, 3) := by decide +kernel
theorem dX12_told_26 : decode cX12_told 26 = .ok (.ireturn, 1) := by decide +kernel
def rm_fMM_told : Room := { frames := 2, cells := 0, slots := 0, locals := 85 }
set_option maxHeartbeats 4000000 in
set_option maxRecDepth 100000 in
theorem c_fMM_told (l : Launch) (X : eX) (sz : Nat) (a1 : Int32) (σ : sT) (rz : Int32) (σz : sT) (h0 : fMM_told a1 σ = some (rz, σz)) : ctI l yX12_told cX12_told 2 (some .int) rm_fMM_told [.ref (X.2.1 33), .int a1] (wM X) (tM X) (aM X) X sz σ rz σz := by
  refine ct_of (by decide +kernel) (Nat.le_of_ble_eq_true rfl) ?_
  intro p e s m args below meth c ls hz B hl Z
  have B : Bd p s m args meth c RX12 cX12_told 2 (some .int) := B
  have hl : lv_has ls 2 [(0, .ref (X.2.1 33)), (1, .int a1)] := hl
  have hx := B.1
  have hb := B.2.1
  unfold fMM_told at h0
  refine lv_iload_n hx hb dX12_told_0 rfl (lv_at hl 1 rfl) ?_
  refine lv_i2l hx hb dX12_told_1 rfl ?_
  refine lv_lconst (v := (0 : Int64)) hx hb dX12_told_2 (by decide) ?_
  refine lv_ldc2 hx hb B.2.2.2.1 (B.2.2.2.2.1 _ kc_RX12_156) dX12_told_3 ?_
  obtain ⟨r2, hc0, h1⟩ := db1_s h0
  clear h0
  refine cS_I [.long a1.toInt64, .long (0 : Int64), .long (5 : Int64)] [] B mx_yX12_in (c_fMM_in l X _ a1.toInt64 (0 : Int64) (5 : Int64) σ r2 hc0) kl_RX12_68 ks_yX12_in Z hl rfl rfl ⟨Nat.le_of_ble_eq_true rfl, Nat.le_of_ble_eq_true rfl⟩ rfl rfl (Nat.le_of_ble_eq_true rfl) dX12_told_6 (fun H locs Z => ?_)
  clear hc0
  refine lv_if_eq (tgt := 20) hx hb dX12_told_9 (by decide) (fun c3 => ?_) (fun c3 => ?_)
  · have h2 := dit h1 c3
    clear h1
    refine lv_aload_n hx hb dX12_told_20 rfl (lv_at hl 0 rfl) ?_
    refine lv_ldc hx hb B.2.2.2.1 (B.2.2.2.2.1 _ kc_RX12_63) dX12_told_21 ?_
    obtain ⟨r5, σ6, hc3, h3⟩ := db2_s h2
    clear h2
    refine cV_I [.int (-1000002 : Int32)] [] B mx_yX12_refuses (c_fMM_refuses l X _ (-1000002 : Int32) σ r5 σ6 hc3) kl_RX12_168 mi_yX12_refuses (rv_33 _ _) hcl_12 Z hl rfl rfl ⟨Nat.le_of_ble_eq_true rfl, Nat.le_of_ble_eq_true rfl⟩ rfl rfl (Nat.le_of_ble_eq_true rfl) dX12_told_23 (fun H locs Z => ?_)
    clear hc3
    exact reI B Z rfl hz h3 dX12_told_26
  · have h4 := dif h1 c3
    clear h1
    refine lv_aload_n hx hb dX12_told_12 rfl (lv_at hl 0 rfl) ?_
    refine lv_iload_n hx hb dX12_told_13 rfl (lv_at hl 1 rfl) ?_
    obtain ⟨r8, hc6, h5⟩ := db1_s h4
    clear h4
    refine cV_I [.int a1] [] B mx_yX12_toldOf (c_fMM_toldOf l X _ a1 σ r8 hc6) kl_RX12_400 mi_yX12_toldOf (rv_33 _ _) hcl_12 Z hl rfl rfl ⟨Nat.le_of_ble_eq_true rfl, Nat.le_of_ble_eq_true rfl⟩ rfl rfl (Nat.le_of_ble_eq_true rfl) dX12_told_14 (fun H locs Z => ?_)
    clear hc6
    refine lv_goto (tgt := 26) hx hb dX12_told_17 (by decide) ?_
    exact reI B Z rfl hz h5 dX12_told_26
theorem dX12_digest_0 : decode cX12_digest 0 = .ok (.ldc2_w 403, 3) := by decide +kernel
theorem dX12_digest_3 : decode cX12_digest 3 = .ok (.lstore_n 1, 1) := by decide +kernel
theorem dX12_digest_4 : decode cX12_digest 4 = .ok (.iconst 0, 1) := by decide +kernel
theorem dX12_digest_5 : decode cX12_digest 5 = .ok (.istore_n 3, 1) := by decide +kernel
theorem dX12_digest_6 : decode cX12_digest 6 = .ok (.iload_n 3, 1) := by decide +kernel
theorem dX12_digest_7 : decode cX12_digest 7 = .ok (.bipush 6, 2) := by decide +kernel
theorem dX12_digest_9 : decode cX12_digest 9 = .ok (.if_icmp .ge 22, 3) := by decide +kernel
theorem dX12_digest_12 : decode cX12_digest 12 = .ok (.ldc2_w 405, 3) := by decide +kernel
theorem dX12_digest_15 : decode cX12_digest 15 = .ok (.lload_n 1, 1) := by decide +kernel
theorem dX12_digest_16 : decode cX12_digest 16 = .ok (.lmul, 1) := by decide +kernel
theorem dX12_digest_17 : decode cX12_digest 17 = .ok (.aload_n 0, 1) := by decide +kernel
theorem dX12_digest_18 : decode cX12_digest 18 = .ok (.iload_n 3, 1) := by decide +kernel
theorem dX12_digest_19 : decode cX12_digest 19 = .ok (.invokevirtual 400, 3) := by decide +kernel
theorem dX12_digest_22 : decode cX12_digest 22 = .ok (.i2l, 1) := by decide +kernel
theorem dX12_digest_23 : decode cX12_digest 23 = .ok (.ladd, 1) := by decide +kernel
theorem dX12_digest_24 : decode cX12_digest 24 = .ok (.lstore_n 1, 1) := by decide +kernel
theorem dX12_digest_25 : decode cX12_digest 25 = .ok (.iinc 3 1, 3) := by decide +kernel
theorem dX12_digest_28 : decode cX12_digest 28 = .ok (.goto (-22), 3) := by decide +kernel
theorem dX12_digest_31 : decode cX12_digest 31 = .ok (.iconst 0, 1) := by decide +kernel
theorem dX12_digest_32 : decode cX12_digest 32 = .ok (.istore_n 3, 1) := by decide +kernel
theorem dX12_digest_33 : decode cX12_digest 33 = .ok (.iload_n 3, 1) := by decide +kernel
theorem dX12_digest_34 : decode cX12_digest 34 = .ok (.bipush 6, 2) := by decide +kernel
theorem dX12_digest_36 : decode cX12_digest 36 = .ok (.aload_n 0, 1) := by decide +kernel
theorem dX12_digest_37 : decode cX12_digest 37 = .ok (.getfield 7, 3) := by decide +kernel
theorem dX12_digest_40 : decode cX12_digest 40 = .ok (.iconst 0, 1) := by decide +kernel
theorem dX12_digest_41 : decode cX12_digest 41 = .ok (.iaload, 1) := by decide +kernel
theorem dX12_digest_42 : decode cX12_digest 42 = .ok (.imul, 1) := by decide +kernel
theorem dX12_digest_43 : decode cX12_digest 43 = .ok (.if_icmp .ge 29, 3) := by decide +kernel
theorem dX12_digest_46 : decode cX12_digest 46 = .ok (.ldc2_w 405, 3) := by decide +kernel
theorem dX12_digest_49 : decode cX12_digest 49 = .ok (.lload_n 1, 1) := by decide +kernel
theorem dX12_digest_50 : decode cX12_digest 50 = .ok (.lmul, 1) := by decide +kernel
theorem dX12_digest_51 : decode cX12_digest 51 = .ok (.aload_n 0, 1) := by decide +kernel
theorem dX12_digest_52 : decode cX12_digest 52 = .ok (.iload_n 3, 1) := by decide +kernel
theorem dX12_digest_53 : decode cX12_digest 53 = .ok (.bipush 6, 2) := by decide +kernel
theorem dX12_digest_55 : decode cX12_digest 55 = .ok (.idiv, 1) := by decide +kernel
theorem dX12_digest_56 : decode cX12_digest 56 = .ok (.iload_n 3, 1) := by decide +kernel
theorem dX12_digest_57 : decode cX12_digest 57 = .ok (.bipush 6, 2) := by decide +kernel
theorem dX12_digest_59 : decode cX12_digest 59 = .ok (.irem, 1) := by decide +kernel
theorem dX12_digest_60 : decode cX12_digest 60 = .ok (.invokevirtual 87, 3) := by decide +kernel
theorem dX12_digest_63 : decode cX12_digest 63 = .ok (.i2l, 1) := by decide +kernel
theorem dX12_digest_64 : decode cX12_digest 64 = .ok (.ladd, 1) := by decide +kernel
theorem dX12_digest_65 : decode cX12_digest 65 = .ok (.lstore_n 1, 1) := by decide +kernel
theorem dX12_digest_66 : decode cX12_digest 66 = .ok (.iinc 3 1, 3) := by decide +kernel
theorem dX12_digest_69 : decode cX12_digest 69 = .ok (.goto (-36), 3) := by decide +kernel
theorem dX12_digest_72 : decode cX12_digest 72 = .ok (.aload_n 0, 1) := by decide +kernel
theorem dX12_digest_73 : decode cX12_digest 73 = .ok (.aload_n 0, 1) := by decide +kernel
theorem dX12_digest_74 : decode cX12_digest 74 = .ok (.invokevirtual 72, 3) := by decide +kernel
theorem dX12_digest_77 : decode cX12_digest 77 = .ok (.invokevirtual 186, 3) := by decide +kernel
theorem dX12_digest_80 : decode cX12_digest 80 = .ok (.istore_n 3, 1) := by decide +kernel
theorem dX12_digest_81 : decode cX12_digest 81 = .ok (.ldc2_w 405, 3) := by decide +kernel
theorem dX12_digest_84 : decode cX12_digest 84 = .ok (.lload_n 1, 1) := by decide +kernel
theorem dX12_digest_85 : decode cX12_digest 85 = .ok (.lmul, 1) := by decide +kernel
theorem dX12_digest_86 : decode cX12_digest 86 = .ok (.iload_n 3, 1) := by decide +kernel
theorem dX12_digest_87 : decode cX12_digest 87 = .ok (.ifCond .eq 7, 3) := by decide +kernel
theorem dX12_digest_90 : decode cX12_digest 90 = .ok (.iconst 1, 1) := by decide +kernel
theorem dX12_digest_91 : decode cX12_digest 91 = .ok (.goto 4, 3) := by decide +kernel
theorem dX12_digest_94 : decode cX12_digest 94 = .ok (.iconst 0, 1) := by decide +kernel
theorem dX12_digest_95 : decode cX12_digest 95 = .ok (.i2l, 1) := by decide +kernel
theorem dX12_digest_96 : decode cX12_digest 96 = .ok (.ladd, 1) := by decide +kernel
theorem dX12_digest_97 : decode cX12_digest 97 = .ok (.lstore_n 1, 1) := by decide +kernel
theorem dX12_digest_98 : decode cX12_digest 98 = .ok (.iload_n 3, 1) := by decide +kernel
theorem dX12_digest_99 : decode cX12_digest 99 = .ok (.ifCond .eq 59, 3) := by decide +kernel
theorem dX12_digest_102 : decode cX12_digest 102 = .ok (.ldc2_w 405, 3) := by decide +kernel
theorem dX12_digest_105 : decode cX12_digest 105 = .ok (.lload_n 1, 1) := by decide +kernel
theorem dX12_digest_106 : decode cX12_digest 106 = .ok (.lmul, 1) := by decide +kernel
theorem dX12_digest_107 : decode cX12_digest 107 = .ok (.aload_n 0, 1) := by decide +kernel
theorem dX12_digest_108 : decode cX12_digest 108 = .ok (.aload_n 0, 1) := by decide +kernel
theorem dX12_digest_109 : decode cX12_digest 109 = .ok (.invokevirtual 72, 3) := by decide +kernel
theorem dX12_digest_112 : decode cX12_digest 112 = .ok (.invokevirtual 198, 3) := by decide +kernel
theorem dX12_digest_115 : decode cX12_digest 115 = .ok (.i2l, 1) := by decide +kernel
theorem dX12_digest_116 : decode cX12_digest 116 = .ok (.ladd, 1) := by decide +kernel
theorem dX12_digest_117 : decode cX12_digest 117 = .ok (.lstore_n 1, 1) := by decide +kernel
theorem dX12_digest_118 : decode cX12_digest 118 = .ok (.aload_n 0, 1) := by decide +kernel
theorem dX12_digest_119 : decode cX12_digest 119 = .ok (.aload_n 0, 1) := by decide +kernel
theorem dX12_digest_120 : decode cX12_digest 120 = .ok (.invokevirtual 72, 3) := by decide +kernel
theorem dX12_digest_123 : decode cX12_digest 123 = .ok (.invokevirtual 242, 3) := by decide +kernel
theorem dX12_digest_126 : decode cX12_digest 126 = .ok (.iconst 0, 1) := by decide +kernel
theorem dX12_digest_127 : decode cX12_digest 127 = .ok (.istore 4, 2) := by decide +kernel
theorem dX12_digest_129 : decode cX12_digest 129 = .ok (.iload 4, 2) := by decide +kernel
theorem dX12_digest_131 : decode cX12_digest 131 = .ok (.bipush 6, 2) := by decide +kernel
theorem dX12_digest_133 : decode cX12_digest 133 = .ok (.if_icmp .ge 23, 3) := by decide +kernel
theorem dX12_digest_136 : decode cX12_digest 136 = .ok (.ldc2_w 405, 3) := by decide +kernel
theorem dX12_digest_139 : decode cX12_digest 139 = .ok (.lload_n 1, 1) := by decide +kernel
theorem dX12_digest_140 : decode cX12_digest 140 = .ok (.lmul, 1) := by decide +kernel
theorem dX12_digest_141 : decode cX12_digest 141 = .ok (.aload_n 0, 1) := by decide +kernel
theorem dX12_digest_142 : decode cX12_digest 142 = .ok (.getfield 29, 3) := by decide +kernel
theorem dX12_digest_145 : decode cX12_digest 145 = .ok (.iload 4, 2) := by decide +kernel
theorem dX12_digest_147 : decode cX12_digest 147 = .ok (.laload, 1) := by decide +kernel
theorem dX12_digest_148 : decode cX12_digest 148 = .ok (.ladd, 1) := by decide +kernel
theorem dX12_digest_149 : decode cX12_digest 149 = .ok (.lstore_n 1, 1) := by decide +kernel
theorem dX12_digest_150 : decode cX12_digest 150 = .ok (.iinc 4 1, 3) := by decide +kernel
theorem dX12_digest_153 : decode cX12_digest 153 = .ok (.goto (-24), 3) := by decide +kernel
theorem dX12_digest_156 : decode cX12_digest 156 = .ok (.lload_n 1, 1) := by decide +kernel
theorem dX12_digest_157 : decode cX12_digest 157 = .ok (.lreturn, 1) := by decide +kernel
theorem dX12_digest_158 : decode cX12_digest 158 = .ok (.aload_n 0, 1) := by decide +kernel
theorem dX12_digest_159 : decode cX12_digest 159 = .ok (.aload_n 0, 1) := by decide +kernel
theorem dX12_digest_160 : decode cX12_digest 160 = .ok (.invokevirtual 72, 3) := by decide +kernel
theorem dX12_digest_163 : decode cX12_digest 163 = .ok (.invokevirtual 245, 3) := by decide +kernel
theorem dX12_digest_166 : decode cX12_digest 166 = .ok (.istore 4, 2) := by decide +kernel
theorem dX12_digest_168 : decode cX12_digest 168 = .ok (.ldc2_w 405, 3) := by decide +kernel
theorem dX12_digest_171 : decode cX12_digest 171 = .ok (.lload_n 1, 1) := by decide +kernel
theorem dX12_digest_172 : decode cX12_digest 172 = .ok (.lmul, 1) := by decide +kernel
theorem dX12_digest_173 : decode cX12_digest 173 = .ok (.iload 4, 2) := by decide +kernel
theorem dX12_digest_175 : decode cX12_digest 175 = .ok (.i2l, 1) := by decide +kernel
theorem dX12_digest_176 : decode cX12_digest 176 = .ok (.ladd, 1) := by decide +kernel
theorem dX12_digest_177 : decode cX12_digest 177 = .ok (.lstore_n 1, 1) := by decide +kernel
theorem dX12_digest_178 : decode cX12_digest 178 = .ok (.iconst 0, 1) := by decide +kernel
theorem dX12_digest_179 : decode cX12_digest 179 = .ok (.istore 5, 2) := by decide +kernel
theorem dX12_digest_181 : decode cX12_digest 181 = .ok (.iload 5, 2) := by decide +kernel
theorem dX12_digest_183 : decode cX12_digest 183 = .ok (.aload_n 0, 1) := by decide +kernel
theorem dX12_digest_184 : decode cX12_digest 184 = .ok (.getfield 7, 3) := by decide +kernel
theorem dX12_digest_187 : decode cX12_digest 187 = .ok (.iconst 0, 1) := by decide +kernel
theorem dX12_digest_188 : decode cX12_digest 188 = .ok (.iaload, 1) := by decide +kernel
theorem dX12_digest_189 : decode cX12_digest 189 = .ok (.if_icmp .ge 25, 3) := by decide +kernel
theorem dX12_digest_192 : decode cX12_digest 192 = .ok (.ldc2_w 405, 3) := by decide +kernel
theorem dX12_digest_195 : decode cX12_digest 195 = .ok (.lload_n 1, 1) := by decide +kernel
theorem dX12_digest_196 : decode cX12_digest 196 = .ok (.lmul, 1) := by decide +kernel
theorem dX12_digest_197 : decode cX12_digest 197 = .ok (.aload_n 0, 1) := by decide +kernel
theorem dX12_digest_198 : decode cX12_digest 198 = .ok (.iload 4, 2) := by decide +kernel
theorem dX12_digest_200 : decode cX12_digest 200 = .ok (.iload 5, 2) := by decide +kernel
theorem dX12_digest_202 : decode cX12_digest 202 = .ok (.invokevirtual 267, 3) := by decide +kernel
theorem dX12_digest_205 : decode cX12_digest 205 = .ok (.i2l, 1) := by decide +kernel
theorem dX12_digest_206 : decode cX12_digest 206 = .ok (.ladd, 1) := by decide +kernel
theorem dX12_digest_207 : decode cX12_digest 207 = .ok (.lstore_n 1, 1) := by decide +kernel
theorem dX12_digest_208 : decode cX12_digest 208 = .ok (.iinc 5 1, 3) := by decide +kernel
theorem dX12_digest_211 : decode cX12_digest 211 = .ok (.goto (-30), 3) := by decide +kernel
theorem dX12_digest_214 : decode cX12_digest 214 = .ok (.lload_n 1, 1) := by decide +kernel
theorem dX12_digest_215 : decode cX12_digest 215 = .ok (.lreturn, 1) := by decide +kernel
def rm_fMM_digest : Room := { frames := 7, cells := 0, slots := 0, locals := 212 }
set_option maxHeartbeats 4000000 in
set_option maxRecDepth 100000 in
theorem c_fMM_digest (l : Launch) (X : eX) (sz : Nat)  (σ : sT) (rz : Int64) (σz : sT) (h0 : fMM_digest σ = some (rz, σz)) : ctL l yX12_digest cX12_digest 6 (some .long) rm_fMM_digest [.ref (X.2.1 33)] (wM X) (tM X) (aM X) X sz σ rz σz := by
  refine ct_of (by decide +kernel) (Nat.le_of_ble_eq_true rfl) ?_
  intro p e s m args below meth c ls hz B hl Z
  have B : Bd p s m args meth c RX12 cX12_digest 6 (some .long) := B
  have hl : lv_has ls 6 [(0, .ref (X.2.1 33))] := hl
  have hx := B.1
  have hb := B.2.1
  unfold fMM_digest at h0
  refine lv_ldc2 hx hb B.2.2.2.1 (B.2.2.2.2.1 _ kc_RX12_403) dX12_digest_0 ?_
  refine lv_lstore_n (lv' := [(1, .long (2341 : Int64)), (0, .ref (X.2.1 33))]) hx hb dX12_digest_3 rfl hl (by decide) rfl (fun ls hl => ?_)
  refine lv_iconst (v := (0 : Int32)) hx hb dX12_digest_4 (by decide) ?_
  refine lv_istore_n (lv' := [(3, .int (0 : Int32)), (1, .long (2341 : Int64)), (0, .ref (X.2.1 33))]) hx hb dX12_digest_5 rfl hl (by decide) rfl (fun ls hl => ?_)
  obtain ⟨K4, eK4, h38⟩ := dlt_s h0
  clear h0
  have kK4 : ∀ (x3 : Int64) (H : Heap) (locs : List Loc) (ls : Array Slot), Wd (wM X) (tM X) (aM X) X s σ H locs → lv_has ls 6 [(0, .ref (X.2.1 33)), (1, .long x3)] → K4 x3 = some (rz, σz) → W p l e rm_fMM_digest s m args below meth c H locs 0 0 (MQ below (va_Ql (fun a u => a = rz ∧ u = σz) (poW (wM X) (tM X) (aM X) X sz) (aA (aM X) sz)) args s 0 0 (aA (aM X) sz)) (F0 m 31 ls []) := by
    intro x3 H locs ls Z hl h1
    rw [eK4] at h1
    refine lv_iconst (v := (0 : Int32)) hx hb dX12_digest_31 (by decide) ?_
    refine lv_istore_n (lv' := [(3, .int (0 : Int32)), (0, .ref (X.2.1 33)), (1, .long x3)]) hx hb dX12_digest_32 rfl hl (by decide) rfl (fun ls hl => ?_)
    obtain ⟨K8, eK8, h31⟩ := dlt_s h1
    clear h1
    have kK8 : ∀ (x7 : Int64) (H : Heap) (locs : List Loc) (ls : Array Slot), Wd (wM X) (tM X) (aM X) X s σ H locs → lv_has ls 6 [(0, .ref (X.2.1 33)), (1, .long x7)] → K8 x7 = some (rz, σz) → W p l e rm_fMM_digest s m args below meth c H locs 0 0 (MQ below (va_Ql (fun a u => a = rz ∧ u = σz) (poW (wM X) (tM X) (aM X) X sz) (aA (aM X) sz)) args s 0 0 (aA (aM X) sz)) (F0 m 72 ls []) := by
      intro x7 H locs ls Z hl h2
      rw [eK8] at h2
      refine lv_aload_n hx hb dX12_digest_72 rfl (lv_at hl 0 rfl) ?_
      refine lv_aload_n hx hb dX12_digest_73 rfl (lv_at hl 0 rfl) ?_
      obtain ⟨r10, hc8, h3⟩ := db1_s h2
      clear h2
      refine cV_I [] [.ref (X.2.1 33)] B mx_yX12_every (c_fMM_every l X _ σ r10 hc8) kl_RX12_72 mi_yX12_every (rv_33 _ _) hcl_12 Z hl rfl rfl ⟨Nat.le_of_ble_eq_true rfl, Nat.le_of_ble_eq_true rfl⟩ rfl rfl (Nat.le_of_ble_eq_true rfl) dX12_digest_74 (fun H locs Z => ?_)
      clear hc8
      obtain ⟨r12, σ13, hc10, h4⟩ := db2_s h3
      clear h3
      refine cV_I [.int r10] [] B mx_yX12_canSet (c_fMM_canSet l X _ r10 σ r12 σ13 hc10) kl_RX12_186 mi_yX12_canSet (rv_33 _ _) hcl_12 Z hl rfl rfl ⟨Nat.le_of_ble_eq_true rfl, Nat.le_of_ble_eq_true rfl⟩ rfl rfl (Nat.le_of_ble_eq_true rfl) dX12_digest_77 (fun H locs Z => ?_)
      clear hc10
      refine lv_istore_n (lv' := [(3, .int r12), (0, .ref (X.2.1 33)), (1, .long x7)]) hx hb dX12_digest_80 rfl hl (by decide) rfl (fun ls hl => ?_)
      refine lv_ldc2 hx hb B.2.2.2.1 (B.2.2.2.2.1 _ kc_RX12_405) dX12_digest_81 ?_
      refine lv_lload_n hx hb dX12_digest_84 rfl (lv_at hl 2 rfl) ?_
      refine lv_lmul hx hb dX12_digest_85 ?_
      refine lv_iload_n hx hb dX12_digest_86 rfl (lv_at hl 0 rfl) ?_
      obtain ⟨J16, eJ16, h28⟩ := dlt_s h4
      clear h4
      have kJ16 : ∀ (x14 : Int64) (x15 : Int32) (H : Heap) (locs : List Loc) (ls : Array Slot), Wd (wM X) (tM X) (aM X) X s σ13 H locs → lv_has ls 6 [(0, .ref (X.2.1 33)), (3, .int r12)] → J16 x14 x15 = some (rz, σz) → W p l e rm_fMM_digest s m args below meth c H locs 0 0 (MQ below (va_Ql (fun a u => a = rz ∧ u = σz) (poW (wM X) (tM X) (aM X) X sz) (aA (aM X) sz)) args s 0 0 (aA (aM X) sz)) (F0 m 95 ls [.int x15, .long x14]) := by
        intro x14 x15 H locs ls Z hl h5
        rw [eJ16] at h5
        refine lv_i2l hx hb dX12_digest_95 rfl ?_
        refine lv_ladd hx hb dX12_digest_96 ?_
        refine lv_topl (fun x17 ex17 => ?_)
        have h6 := dlt_e ex17 h5
        clear ex17 h5
        refine lv_lstore_n (lv' := [(1, .long x17), (0, .ref (X.2.1 33)), (3, .int r12)]) hx hb dX12_digest_97 rfl hl (by decide) rfl (fun ls hl => ?_)
        refine lv_iload_n hx hb dX12_digest_98 rfl (lv_at hl 2 rfl) ?_
        refine lv_if_eq (tgt := 158) hx hb dX12_digest_99 (by decide) (fun c18 => ?_) (fun c18 => ?_)
        · have h7 := dit h6 c18
          clear h6
          refine lv_aload_n hx hb dX12_digest_158 rfl (lv_at hl 1 rfl) ?_
          refine lv_aload_n hx hb dX12_digest_159 rfl (lv_at hl 1 rfl) ?_
          obtain ⟨r20, hc18, h8⟩ := db1_s h7
          clear h7
          refine cV_I [] [.ref (X.2.1 33)] B mx_yX12_every (c_fMM_every l X _ σ13 r20 hc18) kl_RX12_72 mi_yX12_every (rv_33 _ _) hcl_12 Z hl rfl rfl ⟨Nat.le_of_ble_eq_true rfl, Nat.le_of_ble_eq_true rfl⟩ rfl rfl (Nat.le_of_ble_eq_true rfl) dX12_digest_160 (fun H locs Z => ?_)
          clear hc18
          obtain ⟨r22, σ23, hc20, h9⟩ := db2_s h8
          clear h8
          refine cV_I [.int r20] [] B mx_yX12_coreOf (c_fMM_coreOf l X _ r20 σ13 r22 σ23 hc20) kl_RX12_245 mi_yX12_coreOf (rv_33 _ _) hcl_12 Z hl rfl rfl ⟨Nat.le_of_ble_eq_true rfl, Nat.le_of_ble_eq_true rfl⟩ rfl rfl (Nat.le_of_ble_eq_true rfl) dX12_digest_163 (fun H locs Z => ?_)
          clear hc20
          refine lv_istore (lv' := [(4, .int r22), (1, .long x17), (0, .ref (X.2.1 33)), (3, .int r12)]) hx hb dX12_digest_166 hl (by decide) rfl (fun ls hl => ?_)
          refine lv_ldc2 hx hb B.2.2.2.1 (B.2.2.2.2.1 _ kc_RX12_405) dX12_digest_168 ?_
          refine lv_lload_n hx hb dX12_digest_171 rfl (lv_at hl 1 rfl) ?_
          refine lv_lmul hx hb dX12_digest_172 ?_
          refine lv_iload hx hb dX12_digest_173 (lv_at hl 0 rfl) ?_
          refine lv_i2l hx hb dX12_digest_175 rfl ?_
          refine lv_ladd hx hb dX12_digest_176 ?_
          refine lv_topl (fun x24 ex24 => ?_)
          have h10 := dlt_e ex24 h9
          clear ex24 h9
          refine lv_lstore_n (lv' := [(1, .long x24), (4, .int r22), (0, .ref (X.2.1 33)), (3, .int r12)]) hx hb dX12_digest_177 rfl hl (by decide) rfl (fun ls hl => ?_)
          refine lv_iconst (v := (0 : Int32)) hx hb dX12_digest_178 (by decide) ?_
          refine lv_istore (lv' := [(5, .int (0 : Int32)), (1, .long x24), (4, .int r22), (0, .ref (X.2.1 33)), (3, .int r12)]) hx hb dX12_digest_179 hl (by decide) rfl (fun ls hl => ?_)
          have lL181 : ∀ (n : Nat), ∀ (x25 : Int64) (x26 : Int32) (σ27 : sT) (H : Heap) (locs : List Loc) (ls : Array Slot), Wd (wM X) (tM X) (aM X) X s σ27 H locs → lv_has ls 6 [(0, .ref (X.2.1 33)), (1, .long x25), (4, .int r22), (5, .int x26)] → fMM_digest_L181 r22 n x25 x26 σ27 = some (rz, σz) → W p l e rm_fMM_digest s m args below meth c H locs 0 0 (MQ below (va_Ql (fun a u => a = rz ∧ u = σz) (poW (wM X) (tM X) (aM X) X sz) (aA (aM X) sz)) args s 0 0 (aA (aM X) sz)) (F0 m 181 ls []) := by
            intro n
            induction n with
            | zero =>
              intro x25 x26 σ27 H locs ls Z hl h
              exact nomatch (show (none : Option (Int64 × sT)) = some _ from h)
            | succ n28 ih108 =>
              intro x25 x26 σ27 H locs ls Z hl h11
              unfold fMM_digest_L181 at h11
              refine lv_iload hx hb dX12_digest_181 (lv_at hl 3 rfl) ?_
              refine lv_aload_n hx hb dX12_digest_183 rfl (lv_at hl 0 rfl) ?_
              refine g_33_0 B Z kf_RX12_7 dX12_digest_184 ?_
              refine lv_iconst (v := (0 : Int32)) hx hb dX12_digest_187 (by decide) ?_
              obtain ⟨z29, h12⟩ := dck_s h11
              clear h11
              refine ld_34 B Z z29 dX12_digest_188 ?_
              refine lv_icmp_ge (tgt := 214) hx hb dX12_digest_189 (by decide) (fun c30 => ?_) (fun c30 => ?_)
              · have h13 := dit h12 c30
                clear h12
                refine lv_lload_n hx hb dX12_digest_214 rfl (lv_at hl 1 rfl) ?_
                exact reL B Z hz h13 dX12_digest_215
              · have h14 := dif h12 c30
                clear h12
                refine lv_ldc2 hx hb B.2.2.2.1 (B.2.2.2.2.1 _ kc_RX12_405) dX12_digest_192 ?_
                refine lv_lload_n hx hb dX12_digest_195 rfl (lv_at hl 1 rfl) ?_
                refine lv_lmul hx hb dX12_digest_196 ?_
                refine lv_aload_n hx hb dX12_digest_197 rfl (lv_at hl 0 rfl) ?_
                refine lv_iload hx hb dX12_digest_198 (lv_at hl 2 rfl) ?_
                refine lv_iload hx hb dX12_digest_200 (lv_at hl 3 rfl) ?_
                obtain ⟨r32, σ33, hc30, h15⟩ := db2_s h14
                clear h14
                refine cV_I [.int r22, .int x26] [.long ((31 : Int64) * x25)] B mx_yX12_timesOf (c_fMM_timesOf l X _ r22 x26 σ27 r32 σ33 hc30) kl_RX12_267 mi_yX12_timesOf (rv_33 _ _) hcl_12 Z hl rfl rfl ⟨Nat.le_of_ble_eq_true rfl, Nat.le_of_ble_eq_true rfl⟩ rfl rfl (Nat.le_of_ble_eq_true rfl) dX12_digest_202 (fun H locs Z => ?_)
                clear hc30
                refine lv_i2l hx hb dX12_digest_205 rfl ?_
                refine lv_ladd hx hb dX12_digest_206 ?_
                refine lv_topl (fun x34 ex34 => ?_)
                have h16 := dlt_e ex34 h15
                clear ex34 h15
                refine lv_lstore_n (lv' := [(1, .long x34), (0, .ref (X.2.1 33)), (4, .int r22), (5, .int x26)]) hx hb dX12_digest_207 rfl hl (by decide) rfl (fun ls hl => ?_)
                refine lv_iinc (v := x26 + (1 : Int32)) (lv' := [(5, .int (x26 + (1 : Int32))), (1, .long x34), (0, .ref (X.2.1 33)), (4, .int r22)]) hx hb dX12_digest_208 hl (k := 3) rfl (by rfl) (by decide) rfl (fun ls hl => ?_)
                refine lv_goto (tgt := 181) hx hb dX12_digest_211 (by decide) ?_
                exact ih108 x34 (x26 + (1 : Int32)) σ33 _ _ _ Z (lv_sub hl [2, 1, 3, 0] rfl) h16
          exact lL181 FU x24 (0 : Int32) σ23 _ _ _ Z (lv_sub hl [3, 1, 2, 0] rfl) h10
        · have h17 := dif h6 c18
          clear h6
          refine lv_ldc2 hx hb B.2.2.2.1 (B.2.2.2.2.1 _ kc_RX12_405) dX12_digest_102 ?_
          refine lv_lload_n hx hb dX12_digest_105 rfl (lv_at hl 0 rfl) ?_
          refine lv_lmul hx hb dX12_digest_106 ?_
          refine lv_aload_n hx hb dX12_digest_107 rfl (lv_at hl 1 rfl) ?_
          refine lv_aload_n hx hb dX12_digest_108 rfl (lv_at hl 1 rfl) ?_
          obtain ⟨r36, hc34, h18⟩ := db1_s h17
          clear h17
          refine cV_I [] [.ref (X.2.1 33), .long ((31 : Int64) * x17)] B mx_yX12_every (c_fMM_every l X _ σ13 r36 hc34) kl_RX12_72 mi_yX12_every (rv_33 _ _) hcl_12 Z hl rfl rfl ⟨Nat.le_of_ble_eq_true rfl, Nat.le_of_ble_eq_true rfl⟩ rfl rfl (Nat.le_of_ble_eq_true rfl) dX12_digest_109 (fun H locs Z => ?_)
          clear hc34
          obtain ⟨r38, σ39, hc36, h19⟩ := db2_s h18
          clear h18
          refine cV_I [.int r36] [.long ((31 : Int64) * x17)] B mx_yX12_dimensionOf (c_fMM_dimensionOf l X _ r36 σ13 r38 σ39 hc36) kl_RX12_198 mi_yX12_dimensionOf (rv_33 _ _) hcl_12 Z hl rfl rfl ⟨Nat.le_of_ble_eq_true rfl, Nat.le_of_ble_eq_true rfl⟩ rfl rfl (Nat.le_of_ble_eq_true rfl) dX12_digest_112 (fun H locs Z => ?_)
          clear hc36
          refine lv_i2l hx hb dX12_digest_115 rfl ?_
          refine lv_ladd hx hb dX12_digest_116 ?_
          refine lv_topl (fun x40 ex40 => ?_)
          have h20 := dlt_e ex40 h19
          clear ex40 h19
          refine lv_lstore_n (lv' := [(1, .long x40), (0, .ref (X.2.1 33)), (3, .int r12)]) hx hb dX12_digest_117 rfl hl (by decide) rfl (fun ls hl => ?_)
          refine lv_aload_n hx hb dX12_digest_118 rfl (lv_at hl 1 rfl) ?_
          refine lv_aload_n hx hb dX12_digest_119 rfl (lv_at hl 1 rfl) ?_
          obtain ⟨r42, hc40, h21⟩ := db1_s h20
          clear h20
          refine cV_I [] [.ref (X.2.1 33)] B mx_yX12_every (c_fMM_every l X _ σ39 r42 hc40) kl_RX12_72 mi_yX12_every (rv_33 _ _) hcl_12 Z hl rfl rfl ⟨Nat.le_of_ble_eq_true rfl, Nat.le_of_ble_eq_true rfl⟩ rfl rfl (Nat.le_of_ble_eq_true rfl) dX12_digest_120 (fun H locs Z => ?_)
          clear hc40
          obtain ⟨σ44, hc42, h22⟩ := db1_s h21
          clear h21
          refine cV_V [.int r42] [] B mx_yX12_findsPoint (c_fMM_findsPoint l X _ r42 σ39 σ44 hc42) kl_RX12_242 mi_yX12_findsPoint (rv_33 _ _) hcl_12 Z hl rfl rfl ⟨Nat.le_of_ble_eq_true rfl, Nat.le_of_ble_eq_true rfl⟩ rfl rfl (Nat.le_of_ble_eq_true rfl) dX12_digest_123 (fun H locs Z => ?_)
          clear hc42
          refine lv_iconst (v := (0 : Int32)) hx hb dX12_digest_126 (by decide) ?_
          refine lv_istore (lv' := [(4, .int (0 : Int32)), (1, .long x40), (0, .ref (X.2.1 33)), (3, .int r12)]) hx hb dX12_digest_127 hl (by decide) rfl (fun ls hl => ?_)
          have lL129 : ∀ (n : Nat), ∀ (x45 : Int64) (x46 : Int32) (H : Heap) (locs : List Loc) (ls : Array Slot), Wd (wM X) (tM X) (aM X) X s σ44 H locs → lv_has ls 6 [(0, .ref (X.2.1 33)), (1, .long x45), (4, .int x46)] → fMM_digest_L129 σ44 n x45 x46 = some (rz, σz) → W p l e rm_fMM_digest s m args below meth c H locs 0 0 (MQ below (va_Ql (fun a u => a = rz ∧ u = σz) (poW (wM X) (tM X) (aM X) X sz) (aA (aM X) sz)) args s 0 0 (aA (aM X) sz)) (F0 m 129 ls []) := by
            intro n
            induction n with
            | zero =>
              intro x45 x46 H locs ls Z hl h
              exact nomatch (show (none : Option (Int64 × sT)) = some _ from h)
            | succ n47 ih78 =>
              intro x45 x46 H locs ls Z hl h23
              unfold fMM_digest_L129 at h23
              refine lv_iload hx hb dX12_digest_129 (lv_at hl 2 rfl) ?_
              refine lv_bipush (v := (6 : Int32)) hx hb dX12_digest_131 (by decide) ?_
              refine lv_icmp_ge (tgt := 156) hx hb dX12_digest_133 (by decide) (fun c48 => ?_) (fun c48 => ?_)
              · have h24 := dit h23 c48
                clear h23
                refine lv_lload_n hx hb dX12_digest_156 rfl (lv_at hl 1 rfl) ?_
                exact reL B Z hz h24 dX12_digest_157
              · have h25 := dif h23 c48
                clear h23
                refine lv_ldc2 hx hb B.2.2.2.1 (B.2.2.2.2.1 _ kc_RX12_405) dX12_digest_136 ?_
                refine lv_lload_n hx hb dX12_digest_139 rfl (lv_at hl 1 rfl) ?_
                refine lv_lmul hx hb dX12_digest_140 ?_
                refine lv_aload_n hx hb dX12_digest_141 rfl (lv_at hl 0 rfl) ?_
                refine g_33_18 B Z kf_RX12_29 dX12_digest_142 ?_
                refine lv_iload hx hb dX12_digest_145 (lv_at hl 2 rfl) ?_
                obtain ⟨z49, h26⟩ := dck_s h25
                clear h25
                refine ld_40 B Z z49 dX12_digest_147 ?_
                refine lv_ladd hx hb dX12_digest_148 ?_
                refine lv_topl (fun x50 ex50 => ?_)
                have h27 := dlt_e ex50 h26
                clear ex50 h26
                refine lv_lstore_n (lv' := [(1, .long x50), (0, .ref (X.2.1 33)), (4, .int x46)]) hx hb dX12_digest_149 rfl hl (by decide) rfl (fun ls hl => ?_)
                refine lv_iinc (v := x46 + (1 : Int32)) (lv' := [(4, .int (x46 + (1 : Int32))), (1, .long x50), (0, .ref (X.2.1 33))]) hx hb dX12_digest_150 hl (k := 2) rfl (by rfl) (by decide) rfl (fun ls hl => ?_)
                refine lv_goto (tgt := 129) hx hb dX12_digest_153 (by decide) ?_
                exact ih78 x50 (x46 + (1 : Int32)) _ _ _ Z (lv_sub hl [2, 1, 0] rfl) h27
          exact lL129 FU x40 (0 : Int32) _ _ _ Z (lv_sub hl [2, 1, 0] rfl) h22
      clear eJ16
      refine lv_if_eq (tgt := 94) hx hb dX12_digest_87 (by decide) (fun c51 => ?_) (fun c51 => ?_)
      · have h29 := dit h28 c51
        clear h28
        refine lv_iconst (v := (0 : Int32)) hx hb dX12_digest_94 (by decide) ?_
        exact kJ16 ((31 : Int64) * x7) (0 : Int32) _ _ _ Z (lv_sub hl [1, 0] rfl) h29
      · have h30 := dif h28 c51
        clear h28
        refine lv_iconst (v := (1 : Int32)) hx hb dX12_digest_90 (by decide) ?_
        refine lv_goto (tgt := 95) hx hb dX12_digest_91 (by decide) ?_
        exact kJ16 ((31 : Int64) * x7) (1 : Int32) _ _ _ Z (lv_sub hl [1, 0] rfl) h30
    clear eK8
    have lL33 : ∀ (n : Nat), ∀ (x5 : Int64) (x6 : Int32) (H : Heap) (locs : List Loc) (ls : Array Slot), Wd (wM X) (tM X) (aM X) X s σ H locs → lv_has ls 6 [(0, .ref (X.2.1 33)), (1, .long x5), (3, .int x6)] → fMM_digest_L33 σ K8 n x5 x6 = some (rz, σz) → W p l e rm_fMM_digest s m args below meth c H locs 0 0 (MQ below (va_Ql (fun a u => a = rz ∧ u = σz) (poW (wM X) (tM X) (aM X) X sz) (aA (aM X) sz)) args s 0 0 (aA (aM X) sz)) (F0 m 33 ls []) := by
      intro n
      induction n with
      | zero =>
        intro x5 x6 H locs ls Z hl h
        exact nomatch (show (none : Option (Int64 × sT)) = some _ from h)
      | succ n52 ih20 =>
        intro x5 x6 H locs ls Z hl h32
        unfold fMM_digest_L33 at h32
        refine lv_iload_n hx hb dX12_digest_33 rfl (lv_at hl 2 rfl) ?_
        refine lv_bipush (v := (6 : Int32)) hx hb dX12_digest_34 (by decide) ?_
        refine lv_aload_n hx hb dX12_digest_36 rfl (lv_at hl 0 rfl) ?_
        refine g_33_0 B Z kf_RX12_7 dX12_digest_37 ?_
        refine lv_iconst (v := (0 : Int32)) hx hb dX12_digest_40 (by decide) ?_
        obtain ⟨z53, h33⟩ := dck_s h32
        clear h32
        refine ld_34 B Z z53 dX12_digest_41 ?_
        refine lv_imul hx hb dX12_digest_42 ?_
        refine lv_icmp_ge (tgt := 72) hx hb dX12_digest_43 (by decide) (fun c54 => ?_) (fun c54 => ?_)
        · have h34 := dit h33 c54
          clear h33
          exact kK8 x5 _ _ _ Z (lv_sub hl [0, 1] rfl) h34
        · have h35 := dif h33 c54
          clear h33
          refine lv_ldc2 hx hb B.2.2.2.1 (B.2.2.2.2.1 _ kc_RX12_405) dX12_digest_46 ?_
          refine lv_lload_n hx hb dX12_digest_49 rfl (lv_at hl 1 rfl) ?_
          refine lv_lmul hx hb dX12_digest_50 ?_
          refine lv_aload_n hx hb dX12_digest_51 rfl (lv_at hl 0 rfl) ?_
          refine lv_iload_n hx hb dX12_digest_52 rfl (lv_at hl 2 rfl) ?_
          refine lv_bipush (v := (6 : Int32)) hx hb dX12_digest_53 (by decide) ?_
          refine lv_idiv hx hb dX12_digest_55 (by decide) ?_
          refine lv_iload_n hx hb dX12_digest_56 rfl (lv_at hl 2 rfl) ?_
          refine lv_bipush (v := (6 : Int32)) hx hb dX12_digest_57 (by decide) ?_
          refine lv_irem hx hb dX12_digest_59 (by decide) ?_
          obtain ⟨r56, hc54, h36⟩ := db1_s h35
          clear h35
          refine cV_I [.int (x6 / (6 : Int32)), .int (x6 - x6 / (6 : Int32) * (6 : Int32))] [.long ((31 : Int64) * x5)] B mx_yX12_at (c_fMM_at l X _ (x6 / (6 : Int32)) (x6 - x6 / (6 : Int32) * (6 : Int32)) σ r56 hc54) kl_RX12_87 mi_yX12_at (rv_33 _ _) hcl_12 Z hl rfl rfl ⟨Nat.le_of_ble_eq_true rfl, Nat.le_of_ble_eq_true rfl⟩ rfl rfl (Nat.le_of_ble_eq_true rfl) dX12_digest_60 (fun H locs Z => ?_)
          clear hc54
          refine lv_i2l hx hb dX12_digest_63 rfl ?_
          refine lv_ladd hx hb dX12_digest_64 ?_
          refine lv_topl (fun x57 ex57 => ?_)
          have h37 := dlt_e ex57 h36
          clear ex57 h36
          refine lv_lstore_n (lv' := [(1, .long x57), (0, .ref (X.2.1 33)), (3, .int x6)]) hx hb dX12_digest_65 rfl hl (by decide) rfl (fun ls hl => ?_)
          refine lv_iinc (v := x6 + (1 : Int32)) (lv' := [(3, .int (x6 + (1 : Int32))), (1, .long x57), (0, .ref (X.2.1 33))]) hx hb dX12_digest_66 hl (k := 2) rfl (by rfl) (by decide) rfl (fun ls hl => ?_)
          refine lv_goto (tgt := 33) hx hb dX12_digest_69 (by decide) ?_
          exact ih20 x57 (x6 + (1 : Int32)) _ _ _ Z (lv_sub hl [2, 1, 0] rfl) h37
    exact lL33 FU x3 (0 : Int32) _ _ _ Z (lv_sub hl [1, 2, 0] rfl) h31
  clear eK4
  have lL6 : ∀ (n : Nat), ∀ (x1 : Int64) (x2 : Int32) (H : Heap) (locs : List Loc) (ls : Array Slot), Wd (wM X) (tM X) (aM X) X s σ H locs → lv_has ls 6 [(0, .ref (X.2.1 33)), (1, .long x1), (3, .int x2)] → fMM_digest_L6 σ K4 n x1 x2 = some (rz, σz) → W p l e rm_fMM_digest s m args below meth c H locs 0 0 (MQ below (va_Ql (fun a u => a = rz ∧ u = σz) (poW (wM X) (tM X) (aM X) X sz) (aA (aM X) sz)) args s 0 0 (aA (aM X) sz)) (F0 m 6 ls []) := by
    intro n
    induction n with
    | zero =>
      intro x1 x2 H locs ls Z hl h
      exact nomatch (show (none : Option (Int64 × sT)) = some _ from h)
    | succ n58 ih4 =>
      intro x1 x2 H locs ls Z hl h39
      unfold fMM_digest_L6 at h39
      refine lv_iload_n hx hb dX12_digest_6 rfl (lv_at hl 2 rfl) ?_
      refine lv_bipush (v := (6 : Int32)) hx hb dX12_digest_7 (by decide) ?_
      refine lv_icmp_ge (tgt := 31) hx hb dX12_digest_9 (by decide) (fun c59 => ?_) (fun c59 => ?_)
      · have h40 := dit h39 c59
        clear h39
        exact kK4 x1 _ _ _ Z (lv_sub hl [0, 1] rfl) h40
      · have h41 := dif h39 c59
        clear h39
        refine lv_ldc2 hx hb B.2.2.2.1 (B.2.2.2.2.1 _ kc_RX12_405) dX12_digest_12 ?_
        refine lv_lload_n hx hb dX12_digest_15 rfl (lv_at hl 1 rfl) ?_
        refine lv_lmul hx hb dX12_digest_16 ?_
        refine lv_aload_n hx hb dX12_digest_17 rfl (lv_at hl 0 rfl) ?_
        refine lv_iload_n hx hb dX12_digest_18 rfl (lv_at hl 2 rfl) ?_
        obtain ⟨r61, hc59, h42⟩ := db1_s h41
        clear h41
        refine cV_I [.int x2] [.long ((31 : Int64) * x1)] B mx_yX12_toldOf (c_fMM_toldOf l X _ x2 σ r61 hc59) kl_RX12_400 mi_yX12_toldOf (rv_33 _ _) hcl_12 Z hl rfl rfl ⟨Nat.le_of_ble_eq_true rfl, Nat.le_of_ble_eq_true rfl⟩ rfl rfl (Nat.le_of_ble_eq_true rfl) dX12_digest_19 (fun H locs Z => ?_)
        clear hc59
        refine lv_i2l hx hb dX12_digest_22 rfl ?_
        refine lv_ladd hx hb dX12_digest_23 ?_
        refine lv_topl (fun x62 ex62 => ?_)
        have h43 := dlt_e ex62 h42
        clear ex62 h42
        refine lv_lstore_n (lv' := [(1, .long x62), (0, .ref (X.2.1 33)), (3, .int x2)]) hx hb dX12_digest_24 rfl hl (by decide) rfl (fun ls hl => ?_)
        refine lv_iinc (v := x2 + (1 : Int32)) (lv' := [(3, .int (x2 + (1 : Int32))), (1, .long x62), (0, .ref (X.2.1 33))]) hx hb dX12_digest_25 hl (k := 2) rfl (by rfl) (by decide) rfl (fun ls hl => ?_)
        refine lv_goto (tgt := 6) hx hb dX12_digest_28 (by decide) ?_
        exact ih4 x62 (x2 + (1 : Int32)) _ _ _ Z (lv_sub hl [2, 1, 0] rfl) h43
  exact lL6 FU (2341 : Int64) (0 : Int32) _ _ _ Z (lv_sub hl [2, 1, 0] rfl) h38
