theorem dX12_times_0 : decode cX12_times 0 = .ok (.aload_n 0, 1) := by decide +kernel
theorem dX12_times_1 : decode cX12_times 1 = .ok (.iload_n 1, 1) := by decide +kernel
theorem dX12_times_2 : decode cX12_times 2 = .ok (.invokevirtual 183, 3) := by decide +kernel
theorem dX12_times_5 : decode cX12_times 5 = .ok (.ifCond .eq 11, 3) := by decide +kernel
theorem dX12_times_8 : decode cX12_times 8 = .ok (.aload_n 0, 1) := by decide +kernel
theorem dX12_times_9 : decode cX12_times 9 = .ok (.iload_n 2, 1) := by decide +kernel
theorem dX12_times_10 : decode cX12_times 10 = .ok (.invokevirtual 180, 3) := by decide +kernel
theorem dX12_times_13 : decode cX12_times 13 = .ok (.ifCond .ne 10, 3) := by decide +kernel
theorem dX12_times_16 : decode cX12_times 16 = .ok (.aload_n 0, 1) := by decide +kernel
theorem dX12_times_17 : decode cX12_times 17 = .ok (.ldc 63, 2) := by decide +kernel
theorem dX12_times_19 : decode cX12_times 19 = .ok (.invokevirtual 168, 3) := by decide +kernel
theorem dX12_times_22 : decode cX12_times 22 = .ok (.ireturn, 1) := by decide +kernel
theorem dX12_times_23 : decode cX12_times 23 = .ok (.aload_n 0, 1) := by decide +kernel
theorem dX12_times_24 : decode cX12_times 24 = .ok (.iload_n 1, 1) := by decide +kernel
theorem dX12_times_25 : decode cX12_times 25 = .ok (.invokevirtual 186, 3) := by decide +kernel
theorem dX12_times_28 : decode cX12_times 28 = .ok (.ifCond .eq 12, 3) := by decide +kernel
theorem dX12_times_31 : decode cX12_times 31 = .ok (.aload_n 0, 1) := by decide +kernel
theorem dX12_times_32 : decode cX12_times 32 = .ok (.ldc 201, 2) := by decide +kernel
theorem dX12_times_34 : decode cX12_times 34 = .ok (.invokevirtual 168, 3) := by decide +kernel
theorem dX12_times_37 : decode cX12_times 37 = .ok (.goto 13, 3) := by decide +kernel
theorem dX12_times_40 : decode cX12_times 40 = .ok (.aload_n 0, 1) := by decide +kernel
theorem dX12_times_41 : decode cX12_times 41 = .ok (.aload_n 0, 1) := by decide +kernel
theorem dX12_times_42 : decode cX12_times 42 = .ok (.iload_n 1, 1) := by decide +kernel
theorem dX12_times_43 : decode cX12_times 43 = .ok (.invokevirtual 245, 3) := by decide +kernel
theorem dX12_times_46 : decode cX12_times 46 = .ok (.iload_n 2, 1) := by decide +kernel
theorem dX12_times_47 : decode cX12_times 47 = .ok (.invokevirtual 267, 3) := by decide +kernel
theorem dX12_times_50 : decode cX12_times 50 = .ok (.ireturn, 1) := by decide +kernel
def rm_fMM_times : Room := { frames := 7, cells := 0, slots := 0, locals := 212 }
set_option maxHeartbeats 4000000 in
set_option maxRecDepth 100000 in
theorem c_fMM_times (l : Launch) (X : eX) (sz : Nat) (a1 : Int32) (a2 : Int32) (σ : sT) (rz : Int32) (σz : sT) (h0 : fMM_times a1 a2 σ = some (rz, σz)) : ctI l yX12_times cX12_times 3 (some .int) rm_fMM_times [.ref (X.2.1 33), .int a1, .int a2] (wM X) (tM X) (aM X) X sz σ rz σz := by
  refine ct_of (by decide +kernel) (Nat.le_of_ble_eq_true rfl) ?_
  intro p e s m args below meth c ls hz B hl Z
  have B : Bd p s m args meth c RX12 cX12_times 3 (some .int) := B
  have hl : lv_has ls 3 [(0, .ref (X.2.1 33)), (1, .int a1), (2, .int a2)] := hl
  have hx := B.1
  have hb := B.2.1
  unfold fMM_times at h0
  refine lv_aload_n hx hb dX12_times_0 rfl (lv_at hl 0 rfl) ?_
  refine lv_iload_n hx hb dX12_times_1 rfl (lv_at hl 1 rfl) ?_
  obtain ⟨r2, hc0, h1⟩ := db1_s h0
  clear h0
  refine cV_I [.int a1] [] B mx_yX12_isSet (c_fMM_isSet l X _ a1 σ r2 hc0) kl_RX12_183 mi_yX12_isSet (rv_33 _ _) hcl_12 Z hl rfl rfl ⟨Nat.le_of_ble_eq_true rfl, Nat.le_of_ble_eq_true rfl⟩ rfl rfl (Nat.le_of_ble_eq_true rfl) dX12_times_2 (fun H locs Z => ?_)
  clear hc0
  obtain ⟨J3, eJ3, h4⟩ := dlt_s h1
  clear h1
  have kJ3 : ∀ (H : Heap) (locs : List Loc) (ls : Array Slot), Wd (wM X) (tM X) (aM X) X s σ H locs → lv_has ls 3 [(0, .ref (X.2.1 33))] → J3 () = some (rz, σz) → W p l e rm_fMM_times s m args below meth c H locs 0 0 (MQ below (va_Qi (fun a u => a = rz ∧ u = σz) (poW (wM X) (tM X) (aM X) X sz) (aA (aM X) sz)) args s 0 0 (aA (aM X) sz)) (F0 m 16 ls []) := by
    intro  H locs ls Z hl h2
    rw [eJ3] at h2
    refine lv_aload_n hx hb dX12_times_16 rfl (lv_at hl 0 rfl) ?_
    refine lv_ldc hx hb B.2.2.2.1 (B.2.2.2.2.1 _ kc_RX12_63) dX12_times_17 ?_
    obtain ⟨r5, σ6, hc3, h3⟩ := db2_s h2
    clear h2
    refine cV_I [.int (-1000002 : Int32)] [] B mx_yX12_refuses (c_fMM_refuses l X _ (-1000002 : Int32) σ r5 σ6 hc3) kl_RX12_168 mi_yX12_refuses (rv_33 _ _) hcl_12 Z hl rfl rfl ⟨Nat.le_of_ble_eq_true rfl, Nat.le_of_ble_eq_true rfl⟩ rfl rfl (Nat.le_of_ble_eq_true rfl) dX12_times_19 (fun H locs Z => ?_)
    clear hc3
    exact reI B Z rfl hz h3 dX12_times_22
  clear eJ3
  refine lv_if_eq (tgt := 16) hx hb dX12_times_5 (by decide) (fun c7 => ?_) (fun c7 => ?_)
  · have h5 := dit h4 c7
    clear h4
    exact kJ3  _ _ _ Z (lv_sub hl [0] rfl) h5
  · have h6 := dif h4 c7
    clear h4
    refine lv_aload_n hx hb dX12_times_8 rfl (lv_at hl 0 rfl) ?_
    refine lv_iload_n hx hb dX12_times_9 rfl (lv_at hl 2 rfl) ?_
    obtain ⟨r9, hc7, h7⟩ := db1_s h6
    clear h6
    refine cV_I [.int a2] [] B mx_yX12_isRow (c_fMM_isRow l X _ a2 σ r9 hc7) kl_RX12_180 mi_yX12_isRow (rv_33 _ _) hcl_12 Z hl rfl rfl ⟨Nat.le_of_ble_eq_true rfl, Nat.le_of_ble_eq_true rfl⟩ rfl rfl (Nat.le_of_ble_eq_true rfl) dX12_times_10 (fun H locs Z => ?_)
    clear hc7
    refine lv_if_ne (tgt := 23) hx hb dX12_times_13 (by decide) (fun c10 => ?_) (fun c10 => ?_)
    · have h8 := dif h7 c10
      clear h7
      refine lv_aload_n hx hb dX12_times_23 rfl (lv_at hl 0 rfl) ?_
      refine lv_iload_n hx hb dX12_times_24 rfl (lv_at hl 1 rfl) ?_
      obtain ⟨r12, σ13, hc10, h9⟩ := db2_s h8
      clear h8
      refine cV_I [.int a1] [] B mx_yX12_canSet (c_fMM_canSet l X _ a1 σ r12 σ13 hc10) kl_RX12_186 mi_yX12_canSet (rv_33 _ _) hcl_12 Z hl rfl rfl ⟨Nat.le_of_ble_eq_true rfl, Nat.le_of_ble_eq_true rfl⟩ rfl rfl (Nat.le_of_ble_eq_true rfl) dX12_times_25 (fun H locs Z => ?_)
      clear hc10
      refine lv_if_eq (tgt := 40) hx hb dX12_times_28 (by decide) (fun c14 => ?_) (fun c14 => ?_)
      · have h10 := dit h9 c14
        clear h9
        refine lv_aload_n hx hb dX12_times_40 rfl (lv_at hl 0 rfl) ?_
        refine lv_aload_n hx hb dX12_times_41 rfl (lv_at hl 0 rfl) ?_
        refine lv_iload_n hx hb dX12_times_42 rfl (lv_at hl 1 rfl) ?_
        obtain ⟨r16, σ17, hc14, h11⟩ := db2_s h10
        clear h10
        refine cV_I [.int a1] [.ref (X.2.1 33)] B mx_yX12_coreOf (c_fMM_coreOf l X _ a1 σ13 r16 σ17 hc14) kl_RX12_245 mi_yX12_coreOf (rv_33 _ _) hcl_12 Z hl rfl rfl ⟨Nat.le_of_ble_eq_true rfl, Nat.le_of_ble_eq_true rfl⟩ rfl rfl (Nat.le_of_ble_eq_true rfl) dX12_times_43 (fun H locs Z => ?_)
        clear hc14
        refine lv_iload_n hx hb dX12_times_46 rfl (lv_at hl 2 rfl) ?_
        obtain ⟨r19, σ20, hc17, h12⟩ := db2_s h11
        clear h11
        refine cV_I [.int r16, .int a2] [] B mx_yX12_timesOf (c_fMM_timesOf l X _ r16 a2 σ17 r19 σ20 hc17) kl_RX12_267 mi_yX12_timesOf (rv_33 _ _) hcl_12 Z hl rfl rfl ⟨Nat.le_of_ble_eq_true rfl, Nat.le_of_ble_eq_true rfl⟩ rfl rfl (Nat.le_of_ble_eq_true rfl) dX12_times_47 (fun H locs Z => ?_)
        clear hc17
        exact reI B Z rfl hz h12 dX12_times_50
      · have h13 := dif h9 c14
        clear h9
        refine lv_aload_n hx hb dX12_times_31 rfl (lv_at hl 0 rfl) ?_
        refine lv_ldc hx hb B.2.2.2.1 (B.2.2.2.2.1 _ kc_RX12_201) dX12_times_32 ?_
        obtain ⟨r22, σ23, hc20, h14⟩ := db2_s h13
        clear h13
        refine cV_I [.int (-1000003 : Int32)] [] B mx_yX12_refuses (c_fMM_refuses l X _ (-1000003 : Int32) σ13 r22 σ23 hc20) kl_RX12_168 mi_yX12_refuses (rv_33 _ _) hcl_12 Z hl rfl rfl ⟨Nat.le_of_ble_eq_true rfl, Nat.le_of_ble_eq_true rfl⟩ rfl rfl (Nat.le_of_ble_eq_true rfl) dX12_times_34 (fun H locs Z => ?_)
        clear hc20
        refine lv_goto (tgt := 50) hx hb dX12_times_37 (by decide) ?_
        exact reI B Z rfl hz h14 dX12_times_50
    · have h15 := dit h7 c10
      clear h7
      exact kJ3  _ _ _ Z (lv_sub hl [0] rfl) h15
theorem dX12_betweenOf_0 : decode cX12_betweenOf 0 = .ok (.aload_n 0, 1) := by decide +kernel
theorem dX12_betweenOf_1 : decode cX12_betweenOf 1 = .ok (.aload_n 0, 1) := by decide +kernel
theorem dX12_betweenOf_2 : decode cX12_betweenOf 2 = .ok (.aload_n 0, 1) := by decide +kernel
theorem dX12_betweenOf_3 : decode cX12_betweenOf 3 = .ok (.invokevirtual 72, 3) := by decide +kernel
theorem dX12_betweenOf_6 : decode cX12_betweenOf 6 = .ok (.invokevirtual 245, 3) := by decide +kernel
theorem dX12_betweenOf_9 : decode cX12_betweenOf 9 = .ok (.invokevirtual 264, 3) := by decide +kernel
theorem dX12_betweenOf_12 : decode cX12_betweenOf 12 = .ok (.lconst 0, 1) := by decide +kernel
theorem dX12_betweenOf_13 : decode cX12_betweenOf 13 = .ok (.lstore_n 2, 1) := by decide +kernel
theorem dX12_betweenOf_14 : decode cX12_betweenOf 14 = .ok (.iconst 0, 1) := by decide +kernel
theorem dX12_betweenOf_15 : decode cX12_betweenOf 15 = .ok (.istore 4, 2) := by decide +kernel
theorem dX12_betweenOf_17 : decode cX12_betweenOf 17 = .ok (.iconst 1, 1) := by decide +kernel
theorem dX12_betweenOf_18 : decode cX12_betweenOf 18 = .ok (.istore 5, 2) := by decide +kernel
theorem dX12_betweenOf_20 : decode cX12_betweenOf 20 = .ok (.iconst 0, 1) := by decide +kernel
theorem dX12_betweenOf_21 : decode cX12_betweenOf 21 = .ok (.istore 6, 2) := by decide +kernel
theorem dX12_betweenOf_23 : decode cX12_betweenOf 23 = .ok (.iload 6, 2) := by decide +kernel
theorem dX12_betweenOf_25 : decode cX12_betweenOf 25 = .ok (.aload_n 0, 1) := by decide +kernel
theorem dX12_betweenOf_26 : decode cX12_betweenOf 26 = .ok (.getfield 251, 3) := by decide +kernel
theorem dX12_betweenOf_29 : decode cX12_betweenOf 29 = .ok (.if_icmp .ge 106, 3) := by decide +kernel
theorem dX12_betweenOf_32 : decode cX12_betweenOf 32 = .ok (.aload_n 0, 1) := by decide +kernel
theorem dX12_betweenOf_33 : decode cX12_betweenOf 33 = .ok (.aload_n 0, 1) := by decide +kernel
theorem dX12_betweenOf_34 : decode cX12_betweenOf 34 = .ok (.getfield 32, 3) := by decide +kernel
theorem dX12_betweenOf_37 : decode cX12_betweenOf 37 = .ok (.iload 6, 2) := by decide +kernel
theorem dX12_betweenOf_39 : decode cX12_betweenOf 39 = .ok (.iaload, 1) := by decide +kernel
theorem dX12_betweenOf_40 : decode cX12_betweenOf 40 = .ok (.iconst 5, 1) := by decide +kernel
theorem dX12_betweenOf_41 : decode cX12_betweenOf 41 = .ok (.invokevirtual 87, 3) := by decide +kernel
theorem dX12_betweenOf_44 : decode cX12_betweenOf 44 = .ok (.ifCond .ne 85, 3) := by decide +kernel
theorem dX12_betweenOf_47 : decode cX12_betweenOf 47 = .ok (.lload_n 2, 1) := by decide +kernel
theorem dX12_betweenOf_48 : decode cX12_betweenOf 48 = .ok (.iload_n 1, 1) := by decide +kernel
theorem dX12_betweenOf_49 : decode cX12_betweenOf 49 = .ok (.iconst 3, 1) := by decide +kernel
theorem dX12_betweenOf_50 : decode cX12_betweenOf 50 = .ok (.if_icmp .ne 7, 3) := by decide +kernel
theorem dX12_betweenOf_53 : decode cX12_betweenOf 53 = .ok (.lconst 0, 1) := by decide +kernel
theorem dX12_betweenOf_54 : decode cX12_betweenOf 54 = .ok (.goto 18, 3) := by decide +kernel
theorem dX12_betweenOf_57 : decode cX12_betweenOf 57 = .ok (.aload_n 0, 1) := by decide +kernel
theorem dX12_betweenOf_58 : decode cX12_betweenOf 58 = .ok (.getfield 35, 3) := by decide +kernel
theorem dX12_betweenOf_61 : decode cX12_betweenOf 61 = .ok (.iload 6, 2) := by decide +kernel
theorem dX12_betweenOf_63 : decode cX12_betweenOf 63 = .ok (.laload, 1) := by decide +kernel
theorem dX12_betweenOf_64 : decode cX12_betweenOf 64 = .ok (.aload_n 0, 1) := by decide +kernel
theorem dX12_betweenOf_65 : decode cX12_betweenOf 65 = .ok (.iload 6, 2) := by decide +kernel
theorem dX12_betweenOf_67 : decode cX12_betweenOf 67 = .ok (.iload_n 1, 1) := by decide +kernel
theorem dX12_betweenOf_68 : decode cX12_betweenOf 68 = .ok (.invokevirtual 248, 3) := by decide +kernel
theorem dX12_betweenOf_71 : decode cX12_betweenOf 71 = .ok (.lmul, 1) := by decide +kernel
theorem dX12_betweenOf_72 : decode cX12_betweenOf 72 = .ok (.ladd, 1) := by decide +kernel
theorem dX12_betweenOf_73 : decode cX12_betweenOf 73 = .ok (.lstore_n 2, 1) := by decide +kernel
theorem dX12_betweenOf_74 : decode cX12_betweenOf 74 = .ok (.iload 4, 2) := by decide +kernel
theorem dX12_betweenOf_76 : decode cX12_betweenOf 76 = .ok (.ifCond .ne 18, 3) := by decide +kernel
theorem dX12_betweenOf_79 : decode cX12_betweenOf 79 = .ok (.aload_n 0, 1) := by decide +kernel
theorem dX12_betweenOf_80 : decode cX12_betweenOf 80 = .ok (.aload_n 0, 1) := by decide +kernel
theorem dX12_betweenOf_81 : decode cX12_betweenOf 81 = .ok (.getfield 32, 3) := by decide +kernel
theorem dX12_betweenOf_84 : decode cX12_betweenOf 84 = .ok (.iload 6, 2) := by decide +kernel
theorem dX12_betweenOf_86 : decode cX12_betweenOf 86 = .ok (.iaload, 1) := by decide +kernel
theorem dX12_betweenOf_87 : decode cX12_betweenOf 87 = .ok (.iconst 3, 1) := by decide +kernel
theorem dX12_betweenOf_88 : decode cX12_betweenOf 88 = .ok (.invokevirtual 87, 3) := by decide +kernel
theorem dX12_betweenOf_91 : decode cX12_betweenOf 91 = .ok (.ifCond .ne 7, 3) := by decide +kernel
theorem dX12_betweenOf_94 : decode cX12_betweenOf 94 = .ok (.iconst 1, 1) := by decide +kernel
theorem dX12_betweenOf_95 : decode cX12_betweenOf 95 = .ok (.goto 4, 3) := by decide +kernel
theorem dX12_betweenOf_98 : decode cX12_betweenOf 98 = .ok (.iconst 0, 1) := by decide +kernel
theorem dX12_betweenOf_99 : decode cX12_betweenOf 99 = .ok (.istore 4, 2) := by decide +kernel
theorem dX12_betweenOf_101 : decode cX12_betweenOf 101 = .ok (.iload 5, 2) := by decide +kernel
theorem dX12_betweenOf_103 : decode cX12_betweenOf 103 = .ok (.ifCond .eq 23, 3) := by decide +kernel
theorem dX12_betweenOf_106 : decode cX12_betweenOf 106 = .ok (.aload_n 0, 1) := by decide +kernel
theorem dX12_betweenOf_107 : decode cX12_betweenOf 107 = .ok (.aload_n 0, 1) := by decide +kernel
theorem dX12_betweenOf_108 : decode cX12_betweenOf 108 = .ok (.getfield 32, 3) := by decide +kernel
theorem dX12_betweenOf_111 : decode cX12_betweenOf 111 = .ok (.iload 6, 2) := by decide +kernel
theorem dX12_betweenOf_113 : decode cX12_betweenOf 113 = .ok (.iaload, 1) := by decide +kernel
theorem dX12_betweenOf_114 : decode cX12_betweenOf 114 = .ok (.iconst 3, 1) := by decide +kernel
theorem dX12_betweenOf_115 : decode cX12_betweenOf 115 = .ok (.invokevirtual 87, 3) := by decide +kernel
theorem dX12_betweenOf_118 : decode cX12_betweenOf 118 = .ok (.iconst 2, 1) := by decide +kernel
theorem dX12_betweenOf_119 : decode cX12_betweenOf 119 = .ok (.if_icmp .ne 7, 3) := by decide +kernel
theorem dX12_betweenOf_122 : decode cX12_betweenOf 122 = .ok (.iconst 1, 1) := by decide +kernel
theorem dX12_betweenOf_123 : decode cX12_betweenOf 123 = .ok (.goto 4, 3) := by decide +kernel
theorem dX12_betweenOf_126 : decode cX12_betweenOf 126 = .ok (.iconst 0, 1) := by decide +kernel
theorem dX12_betweenOf_127 : decode cX12_betweenOf 127 = .ok (.istore 5, 2) := by decide +kernel
theorem dX12_betweenOf_129 : decode cX12_betweenOf 129 = .ok (.iinc 6 1, 3) := by decide +kernel
theorem dX12_betweenOf_132 : decode cX12_betweenOf 132 = .ok (.goto (-109), 3) := by decide +kernel
theorem dX12_betweenOf_135 : decode cX12_betweenOf 135 = .ok (.iload_n 1, 1) := by decide +kernel
theorem dX12_betweenOf_136 : decode cX12_betweenOf 136 = .ok (.iconst 3, 1) := by decide +kernel
theorem dX12_betweenOf_137 : decode cX12_betweenOf 137 = .ok (.if_icmp .ne 25, 3) := by decide +kernel
theorem dX12_betweenOf_140 : decode cX12_betweenOf 140 = .ok (.iload 4, 2) := by decide +kernel
theorem dX12_betweenOf_142 : decode cX12_betweenOf 142 = .ok (.ifCond .eq 7, 3) := by decide +kernel
theorem dX12_betweenOf_145 : decode cX12_betweenOf 145 = .ok (.iconst 0, 1) := by decide +kernel
theorem dX12_betweenOf_146 : decode cX12_betweenOf 146 = .ok (.goto 18, 3) := by decide +kernel
theorem dX12_betweenOf_149 : decode cX12_betweenOf 149 = .ok (.iload 5, 2) := by decide +kernel
theorem dX12_betweenOf_151 : decode cX12_betweenOf 151 = .ok (.ifCond .eq 7, 3) := by decide +kernel
theorem dX12_betweenOf_154 : decode cX12_betweenOf 154 = .ok (.iconst 2, 1) := by decide +kernel
theorem dX12_betweenOf_155 : decode cX12_betweenOf 155 = .ok (.goto 9, 3) := by decide +kernel
theorem dX12_betweenOf_158 : decode cX12_betweenOf 158 = .ok (.iconst 1, 1) := by decide +kernel
theorem dX12_betweenOf_159 : decode cX12_betweenOf 159 = .ok (.goto 5, 3) := by decide +kernel
theorem dX12_betweenOf_162 : decode cX12_betweenOf 162 = .ok (.lload_n 2, 1) := by decide +kernel
theorem dX12_betweenOf_163 : decode cX12_betweenOf 163 = .ok (.l2i, 1) := by decide +kernel
theorem dX12_betweenOf_164 : decode cX12_betweenOf 164 = .ok (.ireturn, 1) := by decide +kernel
def rm_fMM_betweenOf : Room := { frames := 7, cells := 0, slots := 0, locals := 212 }
set_option maxHeartbeats 4000000 in
set_option maxRecDepth 100000 in
theorem c_fMM_betweenOf (l : Launch) (X : eX) (sz : Nat) (a1 : Int32) (σ : sT) (rz : Int32) (σz : sT) (h0 : fMM_betweenOf a1 σ = some (rz, σz)) : ctI l yX12_betweenOf cX12_betweenOf 7 (some .int) rm_fMM_betweenOf [.ref (X.2.1 33), .int a1] (wM X) (tM X) (aM X) X sz σ rz σz := by
  refine ct_of (by decide +kernel) (Nat.le_of_ble_eq_true rfl) ?_
  intro p e s m args below meth c ls hz B hl Z
  have B : Bd p s m args meth c RX12 cX12_betweenOf 7 (some .int) := B
  have hl : lv_has ls 7 [(0, .ref (X.2.1 33)), (1, .int a1)] := hl
  have hx := B.1
  have hb := B.2.1
  unfold fMM_betweenOf at h0
  refine lv_aload_n hx hb dX12_betweenOf_0 rfl (lv_at hl 0 rfl) ?_
  refine lv_aload_n hx hb dX12_betweenOf_1 rfl (lv_at hl 0 rfl) ?_
  refine lv_aload_n hx hb dX12_betweenOf_2 rfl (lv_at hl 0 rfl) ?_
  obtain ⟨r2, hc0, h1⟩ := db1_s h0
  clear h0
  refine cV_I [] [.ref (X.2.1 33), .ref (X.2.1 33)] B mx_yX12_every (c_fMM_every l X _ σ r2 hc0) kl_RX12_72 mi_yX12_every (rv_33 _ _) hcl_12 Z hl rfl rfl ⟨Nat.le_of_ble_eq_true rfl, Nat.le_of_ble_eq_true rfl⟩ rfl rfl (Nat.le_of_ble_eq_true rfl) dX12_betweenOf_3 (fun H locs Z => ?_)
  clear hc0
  obtain ⟨r4, σ5, hc2, h2⟩ := db2_s h1
  clear h1
  refine cV_I [.int r2] [.ref (X.2.1 33)] B mx_yX12_coreOf (c_fMM_coreOf l X _ r2 σ r4 σ5 hc2) kl_RX12_245 mi_yX12_coreOf (rv_33 _ _) hcl_12 Z hl rfl rfl ⟨Nat.le_of_ble_eq_true rfl, Nat.le_of_ble_eq_true rfl⟩ rfl rfl (Nat.le_of_ble_eq_true rfl) dX12_betweenOf_6 (fun H locs Z => ?_)
  clear hc2
  obtain ⟨σ7, hc5, h3⟩ := db1_s h2
  clear h2
  refine cV_V [.int r4] [] B mx_yX12_findsTimes (c_fMM_findsTimes l X _ r4 σ5 σ7 hc5) kl_RX12_264 mi_yX12_findsTimes (rv_33 _ _) hcl_12 Z hl rfl rfl ⟨Nat.le_of_ble_eq_true rfl, Nat.le_of_ble_eq_true rfl⟩ rfl rfl (Nat.le_of_ble_eq_true rfl) dX12_betweenOf_9 (fun H locs Z => ?_)
  clear hc5
  refine lv_lconst (v := (0 : Int64)) hx hb dX12_betweenOf_12 (by decide) ?_
  refine lv_lstore_n (lv' := [(2, .long (0 : Int64)), (0, .ref (X.2.1 33)), (1, .int a1)]) hx hb dX12_betweenOf_13 rfl hl (by decide) rfl (fun ls hl => ?_)
  refine lv_iconst (v := (0 : Int32)) hx hb dX12_betweenOf_14 (by decide) ?_
  refine lv_istore (lv' := [(4, .int (0 : Int32)), (2, .long (0 : Int64)), (0, .ref (X.2.1 33)), (1, .int a1)]) hx hb dX12_betweenOf_15 hl (by decide) rfl (fun ls hl => ?_)
  refine lv_iconst (v := (1 : Int32)) hx hb dX12_betweenOf_17 (by decide) ?_
  refine lv_istore (lv' := [(5, .int (1 : Int32)), (4, .int (0 : Int32)), (2, .long (0 : Int64)), (0, .ref (X.2.1 33)), (1, .int a1)]) hx hb dX12_betweenOf_18 hl (by decide) rfl (fun ls hl => ?_)
  refine lv_iconst (v := (0 : Int32)) hx hb dX12_betweenOf_20 (by decide) ?_
  refine lv_istore (lv' := [(6, .int (0 : Int32)), (5, .int (1 : Int32)), (4, .int (0 : Int32)), (2, .long (0 : Int64)), (0, .ref (X.2.1 33)), (1, .int a1)]) hx hb dX12_betweenOf_21 hl (by decide) rfl (fun ls hl => ?_)
  obtain ⟨K15, eK15, h11⟩ := dlt_s h3
  clear h3
  have kK15 : ∀ (x12 : Int64) (x13 : Int32) (x14 : Int32) (H : Heap) (locs : List Loc) (ls : Array Slot), Wd (wM X) (tM X) (aM X) X s σ7 H locs → lv_has ls 7 [(1, .int a1), (2, .long x12), (4, .int x13), (5, .int x14)] → K15 x12 x13 x14 = some (rz, σz) → W p l e rm_fMM_betweenOf s m args below meth c H locs 0 0 (MQ below (va_Qi (fun a u => a = rz ∧ u = σz) (poW (wM X) (tM X) (aM X) X sz) (aA (aM X) sz)) args s 0 0 (aA (aM X) sz)) (F0 m 135 ls []) := by
    intro x12 x13 x14 H locs ls Z hl h4
    rw [eK15] at h4
    refine lv_iload_n hx hb dX12_betweenOf_135 rfl (lv_at hl 0 rfl) ?_
    refine lv_iconst (v := (3 : Int32)) hx hb dX12_betweenOf_136 (by decide) ?_
    refine lv_icmp_ne (tgt := 162) hx hb dX12_betweenOf_137 (by decide) (fun c16 => ?_) (fun c16 => ?_)
    · have h5 := dif h4 c16
      clear h4
      refine lv_lload_n hx hb dX12_betweenOf_162 rfl (lv_at hl 1 rfl) ?_
      refine lv_l2i hx hb dX12_betweenOf_163 rfl ?_
      exact reI B Z rfl hz h5 dX12_betweenOf_164
    · have h6 := dit h4 c16
      clear h4
      refine lv_iload hx hb dX12_betweenOf_140 (lv_at hl 2 rfl) ?_
      refine lv_if_eq (tgt := 149) hx hb dX12_betweenOf_142 (by decide) (fun c17 => ?_) (fun c17 => ?_)
      · have h7 := dit h6 c17
        clear h6
        refine lv_iload hx hb dX12_betweenOf_149 (lv_at hl 3 rfl) ?_
        refine lv_if_eq (tgt := 158) hx hb dX12_betweenOf_151 (by decide) (fun c18 => ?_) (fun c18 => ?_)
        · have h8 := dit h7 c18
          clear h7
          refine lv_iconst (v := (1 : Int32)) hx hb dX12_betweenOf_158 (by decide) ?_
          refine lv_goto (tgt := 164) hx hb dX12_betweenOf_159 (by decide) ?_
          exact reI B Z rfl hz h8 dX12_betweenOf_164
        · have h9 := dif h7 c18
          clear h7
          refine lv_iconst (v := (2 : Int32)) hx hb dX12_betweenOf_154 (by decide) ?_
          refine lv_goto (tgt := 164) hx hb dX12_betweenOf_155 (by decide) ?_
          exact reI B Z rfl hz h9 dX12_betweenOf_164
      · have h10 := dif h6 c17
        clear h6
        refine lv_iconst (v := (0 : Int32)) hx hb dX12_betweenOf_145 (by decide) ?_
        refine lv_goto (tgt := 164) hx hb dX12_betweenOf_146 (by decide) ?_
        exact reI B Z rfl hz h10 dX12_betweenOf_164
  clear eK15
  have lL23 : ∀ (n : Nat), ∀ (x8 : Int64) (x9 : Int32) (x10 : Int32) (x11 : Int32) (H : Heap) (locs : List Loc) (ls : Array Slot), Wd (wM X) (tM X) (aM X) X s σ7 H locs → lv_has ls 7 [(0, .ref (X.2.1 33)), (1, .int a1), (2, .long x8), (4, .int x9), (5, .int x10), (6, .int x11)] → fMM_betweenOf_L23 a1 σ7 K15 n x8 x9 x10 x11 = some (rz, σz) → W p l e rm_fMM_betweenOf s m args below meth c H locs 0 0 (MQ below (va_Qi (fun a u => a = rz ∧ u = σz) (poW (wM X) (tM X) (aM X) X sz) (aA (aM X) sz)) args s 0 0 (aA (aM X) sz)) (F0 m 23 ls []) := by
    intro n
    induction n with
    | zero =>
      intro x8 x9 x10 x11 H locs ls Z hl h
      exact nomatch (show (none : Option (Int32 × sT)) = some _ from h)
    | succ n19 ih14 =>
      intro x8 x9 x10 x11 H locs ls Z hl h12
      unfold fMM_betweenOf_L23 at h12
      refine lv_iload hx hb dX12_betweenOf_23 (lv_at hl 5 rfl) ?_
      refine lv_aload_n hx hb dX12_betweenOf_25 rfl (lv_at hl 0 rfl) ?_
      refine g_33_20 B Z kf_RX12_251 dX12_betweenOf_26 ?_
      refine lv_icmp_ge (tgt := 135) hx hb dX12_betweenOf_29 (by decide) (fun c20 => ?_) (fun c20 => ?_)
      · have h13 := dit h12 c20
        clear h12
        exact kK15 x8 x9 x10 _ _ _ Z (lv_sub hl [1, 2, 3, 4] rfl) h13
      · have h14 := dif h12 c20
        clear h12
        refine lv_aload_n hx hb dX12_betweenOf_32 rfl (lv_at hl 0 rfl) ?_
        refine lv_aload_n hx hb dX12_betweenOf_33 rfl (lv_at hl 0 rfl) ?_
        refine g_33_19 B Z kf_RX12_32 dX12_betweenOf_34 ?_
        refine lv_iload hx hb dX12_betweenOf_37 (lv_at hl 5 rfl) ?_
        obtain ⟨z21, h15⟩ := dck_s h14
        clear h14
        refine ld_41 B Z z21 dX12_betweenOf_39 ?_
        refine lv_iconst (v := (5 : Int32)) hx hb dX12_betweenOf_40 (by decide) ?_
        obtain ⟨r23, hc21, h16⟩ := db1_s h15
        clear h15
        refine cV_I [.int (σ7.1 41 x11.toNatClampNeg), .int (5 : Int32)] [] B mx_yX12_at (c_fMM_at l X _ (σ7.1 41 x11.toNatClampNeg) (5 : Int32) σ7 r23 hc21) kl_RX12_87 mi_yX12_at (rv_33 _ _) hcl_12 Z hl rfl rfl ⟨Nat.le_of_ble_eq_true rfl, Nat.le_of_ble_eq_true rfl⟩ rfl rfl (Nat.le_of_ble_eq_true rfl) dX12_betweenOf_41 (fun H locs Z => ?_)
        clear hc21
        refine lv_if_ne (tgt := 129) hx hb dX12_betweenOf_44 (by decide) (fun c24 => ?_) (fun c24 => ?_)
        · have h17 := dif h16 c24
          clear h16
          refine lv_iinc (v := x11 + (1 : Int32)) (lv' := [(6, .int (x11 + (1 : Int32))), (0, .ref (X.2.1 33)), (1, .int a1), (2, .long x8), (4, .int x9), (5, .int x10)]) hx hb dX12_betweenOf_129 hl (k := 5) rfl (by rfl) (by decide) rfl (fun ls hl => ?_)
          refine lv_goto (tgt := 23) hx hb dX12_betweenOf_132 (by decide) ?_
          exact ih14 x8 x9 x10 (x11 + (1 : Int32)) _ _ _ Z (lv_sub hl [1, 2, 3, 4, 5, 0] rfl) h17
        · have h18 := dit h16 c24
          clear h16
          refine lv_lload_n hx hb dX12_betweenOf_47 rfl (lv_at hl 2 rfl) ?_
          refine lv_iload_n hx hb dX12_betweenOf_48 rfl (lv_at hl 1 rfl) ?_
          refine lv_iconst (v := (3 : Int32)) hx hb dX12_betweenOf_49 (by decide) ?_
          obtain ⟨J27, eJ27, h37⟩ := dlt_s h18
          clear h18
          have kJ27 : ∀ (x25 : Int64) (x26 : Int64) (H : Heap) (locs : List Loc) (ls : Array Slot), Wd (wM X) (tM X) (aM X) X s σ7 H locs → lv_has ls 7 [(0, .ref (X.2.1 33)), (1, .int a1), (4, .int x9), (5, .int x10), (6, .int x11)] → J27 x25 x26 = some (rz, σz) → W p l e rm_fMM_betweenOf s m args below meth c H locs 0 0 (MQ below (va_Qi (fun a u => a = rz ∧ u = σz) (poW (wM X) (tM X) (aM X) X sz) (aA (aM X) sz)) args s 0 0 (aA (aM X) sz)) (F0 m 72 ls [.long x26, .long x25]) := by
            intro x25 x26 H locs ls Z hl h19
            rw [eJ27] at h19
            refine lv_ladd hx hb dX12_betweenOf_72 ?_
            refine lv_topl (fun x28 ex28 => ?_)
            have h20 := dlt_e ex28 h19
            clear ex28 h19
            refine lv_lstore_n (lv' := [(2, .long x28), (0, .ref (X.2.1 33)), (1, .int a1), (4, .int x9), (5, .int x10), (6, .int x11)]) hx hb dX12_betweenOf_73 rfl hl (by decide) rfl (fun ls hl => ?_)
            refine lv_iload hx hb dX12_betweenOf_74 (lv_at hl 3 rfl) ?_
            obtain ⟨J30, eJ30, h28⟩ := dlt_s h20
            clear h20
            have kJ30 : ∀ (x29 : Int32) (H : Heap) (locs : List Loc) (ls : Array Slot), Wd (wM X) (tM X) (aM X) X s σ7 H locs → lv_has ls 7 [(0, .ref (X.2.1 33)), (1, .int a1), (2, .long x28), (5, .int x10), (6, .int x11)] → J30 x29 = some (rz, σz) → W p l e rm_fMM_betweenOf s m args below meth c H locs 0 0 (MQ below (va_Qi (fun a u => a = rz ∧ u = σz) (poW (wM X) (tM X) (aM X) X sz) (aA (aM X) sz)) args s 0 0 (aA (aM X) sz)) (F0 m 99 ls [.int x29]) := by
              intro x29 H locs ls Z hl h21
              rw [eJ30] at h21
              refine lv_istore (lv' := [(4, .int x29), (0, .ref (X.2.1 33)), (1, .int a1), (2, .long x28), (5, .int x10), (6, .int x11)]) hx hb dX12_betweenOf_99 hl (by decide) rfl (fun ls hl => ?_)
              refine lv_iload hx hb dX12_betweenOf_101 (lv_at hl 4 rfl) ?_
              refine lv_if_eq (tgt := 126) hx hb dX12_betweenOf_103 (by decide) (fun c31 => ?_) (fun c31 => ?_)
              · have h22 := dit h21 c31
                clear h21
                refine lv_iconst (v := (0 : Int32)) hx hb dX12_betweenOf_126 (by decide) ?_
                refine lv_istore (lv' := [(5, .int (0 : Int32)), (4, .int x29), (0, .ref (X.2.1 33)), (1, .int a1), (2, .long x28), (6, .int x11)]) hx hb dX12_betweenOf_127 hl (by decide) rfl (fun ls hl => ?_)
                refine lv_iinc (v := x11 + (1 : Int32)) (lv' := [(6, .int (x11 + (1 : Int32))), (5, .int (0 : Int32)), (4, .int x29), (0, .ref (X.2.1 33)), (1, .int a1), (2, .long x28)]) hx hb dX12_betweenOf_129 hl (k := 5) rfl (by rfl) (by decide) rfl (fun ls hl => ?_)
                refine lv_goto (tgt := 23) hx hb dX12_betweenOf_132 (by decide) ?_
                exact ih14 x28 x29 (0 : Int32) (x11 + (1 : Int32)) _ _ _ Z (lv_sub hl [3, 4, 5, 2, 1, 0] rfl) h22
              · have h23 := dif h21 c31
                clear h21
                refine lv_aload_n hx hb dX12_betweenOf_106 rfl (lv_at hl 1 rfl) ?_
                refine lv_aload_n hx hb dX12_betweenOf_107 rfl (lv_at hl 1 rfl) ?_
                refine g_33_19 B Z kf_RX12_32 dX12_betweenOf_108 ?_
                refine lv_iload hx hb dX12_betweenOf_111 (lv_at hl 5 rfl) ?_
                obtain ⟨z32, h24⟩ := dck_s h23
                clear h23
                refine ld_41 B Z z32 dX12_betweenOf_113 ?_
                refine lv_iconst (v := (3 : Int32)) hx hb dX12_betweenOf_114 (by decide) ?_
                obtain ⟨r34, hc32, h25⟩ := db1_s h24
                clear h24
                refine cV_I [.int (σ7.1 41 x11.toNatClampNeg), .int (3 : Int32)] [] B mx_yX12_at (c_fMM_at l X _ (σ7.1 41 x11.toNatClampNeg) (3 : Int32) σ7 r34 hc32) kl_RX12_87 mi_yX12_at (rv_33 _ _) hcl_12 Z hl rfl rfl ⟨Nat.le_of_ble_eq_true rfl, Nat.le_of_ble_eq_true rfl⟩ rfl rfl (Nat.le_of_ble_eq_true rfl) dX12_betweenOf_115 (fun H locs Z => ?_)
                clear hc32
                refine lv_iconst (v := (2 : Int32)) hx hb dX12_betweenOf_118 (by decide) ?_
                refine lv_icmp_ne (tgt := 126) hx hb dX12_betweenOf_119 (by decide) (fun c35 => ?_) (fun c35 => ?_)
                · have h26 := dif h25 c35
                  clear h25
                  refine lv_iconst (v := (0 : Int32)) hx hb dX12_betweenOf_126 (by decide) ?_
                  refine lv_istore (lv' := [(5, .int (0 : Int32)), (4, .int x29), (0, .ref (X.2.1 33)), (1, .int a1), (2, .long x28), (6, .int x11)]) hx hb dX12_betweenOf_127 hl (by decide) rfl (fun ls hl => ?_)
                  refine lv_iinc (v := x11 + (1 : Int32)) (lv' := [(6, .int (x11 + (1 : Int32))), (5, .int (0 : Int32)), (4, .int x29), (0, .ref (X.2.1 33)), (1, .int a1), (2, .long x28)]) hx hb dX12_betweenOf_129 hl (k := 5) rfl (by rfl) (by decide) rfl (fun ls hl => ?_)
                  refine lv_goto (tgt := 23) hx hb dX12_betweenOf_132 (by decide) ?_
                  exact ih14 x28 x29 (0 : Int32) (x11 + (1 : Int32)) _ _ _ Z (lv_sub hl [3, 4, 5, 2, 1, 0] rfl) h26
                · have h27 := dit h25 c35
                  clear h25
                  refine lv_iconst (v := (1 : Int32)) hx hb dX12_betweenOf_122 (by decide) ?_
                  refine lv_goto (tgt := 127) hx hb dX12_betweenOf_123 (by decide) ?_
                  refine lv_istore (lv' := [(5, .int (1 : Int32)), (4, .int x29), (0, .ref (X.2.1 33)), (1, .int a1), (2, .long x28), (6, .int x11)]) hx hb dX12_betweenOf_127 hl (by decide) rfl (fun ls hl => ?_)
                  refine lv_iinc (v := x11 + (1 : Int32)) (lv' := [(6, .int (x11 + (1 : Int32))), (5, .int (1 : Int32)), (4, .int x29), (0, .ref (X.2.1 33)), (1, .int a1), (2, .long x28)]) hx hb dX12_betweenOf_129 hl (k := 5) rfl (by rfl) (by decide) rfl (fun ls hl => ?_)
                  refine lv_goto (tgt := 23) hx hb dX12_betweenOf_132 (by decide) ?_
                  exact ih14 x28 x29 (1 : Int32) (x11 + (1 : Int32)) _ _ _ Z (lv_sub hl [3, 4, 5, 2, 1, 0] rfl) h27
            clear eJ30
            obtain ⟨J36, eJ36, h30⟩ := dlt_s h28
            clear h28
            have kJ36 : ∀ (H : Heap) (locs : List Loc) (ls : Array Slot), Wd (wM X) (tM X) (aM X) X s σ7 H locs → lv_has ls 7 [(0, .ref (X.2.1 33)), (1, .int a1), (2, .long x28), (5, .int x10), (6, .int x11)] → J36 () = some (rz, σz) → W p l e rm_fMM_betweenOf s m args below meth c H locs 0 0 (MQ below (va_Qi (fun a u => a = rz ∧ u = σz) (poW (wM X) (tM X) (aM X) X sz) (aA (aM X) sz)) args s 0 0 (aA (aM X) sz)) (F0 m 94 ls []) := by
              intro  H locs ls Z hl h29
              rw [eJ36] at h29
              refine lv_iconst (v := (1 : Int32)) hx hb dX12_betweenOf_94 (by decide) ?_
              refine lv_goto (tgt := 99) hx hb dX12_betweenOf_95 (by decide) ?_
              exact kJ30 (1 : Int32) _ _ _ Z (lv_sub hl [0, 1, 2, 3, 4] rfl) h29
            clear eJ36
            refine lv_if_ne (tgt := 94) hx hb dX12_betweenOf_76 (by decide) (fun c37 => ?_) (fun c37 => ?_)
            · have h31 := dif h30 c37
              clear h30
              exact kJ36  _ _ _ Z (lv_sub hl [1, 2, 0, 4, 5] rfl) h31
            · have h32 := dit h30 c37
              clear h30
              refine lv_aload_n hx hb dX12_betweenOf_79 rfl (lv_at hl 1 rfl) ?_
              refine lv_aload_n hx hb dX12_betweenOf_80 rfl (lv_at hl 1 rfl) ?_
              refine g_33_19 B Z kf_RX12_32 dX12_betweenOf_81 ?_
              refine lv_iload hx hb dX12_betweenOf_84 (lv_at hl 5 rfl) ?_
              obtain ⟨z38, h33⟩ := dck_s h32
              clear h32
              refine ld_41 B Z z38 dX12_betweenOf_86 ?_
              refine lv_iconst (v := (3 : Int32)) hx hb dX12_betweenOf_87 (by decide) ?_
              obtain ⟨r40, hc38, h34⟩ := db1_s h33
              clear h33
              refine cV_I [.int (σ7.1 41 x11.toNatClampNeg), .int (3 : Int32)] [] B mx_yX12_at (c_fMM_at l X _ (σ7.1 41 x11.toNatClampNeg) (3 : Int32) σ7 r40 hc38) kl_RX12_87 mi_yX12_at (rv_33 _ _) hcl_12 Z hl rfl rfl ⟨Nat.le_of_ble_eq_true rfl, Nat.le_of_ble_eq_true rfl⟩ rfl rfl (Nat.le_of_ble_eq_true rfl) dX12_betweenOf_88 (fun H locs Z => ?_)
              clear hc38
              refine lv_if_ne (tgt := 98) hx hb dX12_betweenOf_91 (by decide) (fun c41 => ?_) (fun c41 => ?_)
              · have h35 := dif h34 c41
                clear h34
                refine lv_iconst (v := (0 : Int32)) hx hb dX12_betweenOf_98 (by decide) ?_
                exact kJ30 (0 : Int32) _ _ _ Z (lv_sub hl [1, 2, 0, 4, 5] rfl) h35
              · have h36 := dit h34 c41
                clear h34
                exact kJ36  _ _ _ Z (lv_sub hl [1, 2, 0, 4, 5] rfl) h36
          clear eJ27
          refine lv_icmp_ne (tgt := 57) hx hb dX12_betweenOf_50 (by decide) (fun c42 => ?_) (fun c42 => ?_)
          · have h38 := dif h37 c42
            clear h37
            refine lv_aload_n hx hb dX12_betweenOf_57 rfl (lv_at hl 0 rfl) ?_
            refine g_33_21 B Z kf_RX12_35 dX12_betweenOf_58 ?_
            refine lv_iload hx hb dX12_betweenOf_61 (lv_at hl 5 rfl) ?_
            obtain ⟨z43, h39⟩ := dck_s h38
            clear h38
            refine ld_42 B Z z43 dX12_betweenOf_63 ?_
            refine lv_aload_n hx hb dX12_betweenOf_64 rfl (lv_at hl 0 rfl) ?_
            refine lv_iload hx hb dX12_betweenOf_65 (lv_at hl 5 rfl) ?_
            refine lv_iload_n hx hb dX12_betweenOf_67 rfl (lv_at hl 1 rfl) ?_
            obtain ⟨r45, hc43, h40⟩ := db1_s h39
            clear h39
            refine cV_L [.int x11, .int a1] [.long (σ7.2 42 x11.toNatClampNeg), .long x8] B mx_yX12_number (c_fMM_number l X _ x11 a1 σ7 r45 hc43) kl_RX12_248 mi_yX12_number (rv_33 _ _) hcl_12 Z hl rfl rfl ⟨Nat.le_of_ble_eq_true rfl, Nat.le_of_ble_eq_true rfl⟩ rfl rfl (Nat.le_of_ble_eq_true rfl) dX12_betweenOf_68 (fun H locs Z => ?_)
            clear hc43
            refine lv_lmul hx hb dX12_betweenOf_71 ?_
            exact kJ27 x8 ((σ7.2 42 x11.toNatClampNeg) * r45) _ _ _ Z (lv_sub hl [0, 1, 3, 4, 5] rfl) h40
          · have h41 := dit h37 c42
            clear h37
            refine lv_lconst (v := (0 : Int64)) hx hb dX12_betweenOf_53 (by decide) ?_
            refine lv_goto (tgt := 72) hx hb dX12_betweenOf_54 (by decide) ?_
            exact kJ27 x8 (0 : Int64) _ _ _ Z (lv_sub hl [0, 1, 3, 4, 5] rfl) h41
  exact lL23 FU (0 : Int64) (0 : Int32) (1 : Int32) (0 : Int32) _ _ _ Z (lv_sub hl [4, 5, 3, 2, 1, 0] rfl) h11
theorem dX12_between__0 : decode cX12_between_ 0 = .ok (.iload_n 1, 1) := by decide +kernel
theorem dX12_between__1 : decode cX12_between_ 1 = .ok (.i2l, 1) := by decide +kernel
theorem dX12_between__2 : decode cX12_between_ 2 = .ok (.lconst 0, 1) := by decide +kernel
theorem dX12_between__3 : decode cX12_between_ 3 = .ok (.ldc2_w 270, 3) := by decide +kernel
theorem dX12_between__6 : decode cX12_between_ 6 = .ok (.invokestatic 68, 3) := by decide +kernel
theorem dX12_between__9 : decode cX12_between_ 9 = .ok (.ifCond .ne 10, 3) := by decide +kernel
theorem dX12_between__12 : decode cX12_between_ 12 = .ok (.aload_n 0, 1) := by decide +kernel
theorem dX12_between__13 : decode cX12_between_ 13 = .ok (.ldc 63, 2) := by decide +kernel
theorem dX12_between__15 : decode cX12_between_ 15 = .ok (.invokevirtual 168, 3) := by decide +kernel
theorem dX12_between__18 : decode cX12_between_ 18 = .ok (.ireturn, 1) := by decide +kernel
theorem dX12_between__19 : decode cX12_between_ 19 = .ok (.aload_n 0, 1) := by decide +kernel
theorem dX12_between__20 : decode cX12_between_ 20 = .ok (.aload_n 0, 1) := by decide +kernel
theorem dX12_between__21 : decode cX12_between_ 21 = .ok (.invokevirtual 72, 3) := by decide +kernel
theorem dX12_between__24 : decode cX12_between_ 24 = .ok (.invokevirtual 186, 3) := by decide +kernel
theorem dX12_between__27 : decode cX12_between_ 27 = .ok (.ifCond .eq 12, 3) := by decide +kernel
theorem dX12_between__30 : decode cX12_between_ 30 = .ok (.aload_n 0, 1) := by decide +kernel
theorem dX12_between__31 : decode cX12_between_ 31 = .ok (.ldc 201, 2) := by decide +kernel
theorem dX12_between__33 : decode cX12_between_ 33 = .ok (.invokevirtual 168, 3) := by decide +kernel
theorem dX12_between__36 : decode cX12_between_ 36 = .ok (.goto 8, 3) := by decide +kernel
theorem dX12_between__39 : decode cX12_between_ 39 = .ok (.aload_n 0, 1) := by decide +kernel
theorem dX12_between__40 : decode cX12_between_ 40 = .ok (.iload_n 1, 1) := by decide +kernel
theorem dX12_between__41 : decode cX12_between_ 41 = .ok (.invokevirtual 272, 3) := by decide +kernel
theorem dX12_between__44 : decode cX12_between_ 44 = .ok (.ireturn, 1) := by decide +kernel
def rm_fMM_between : Room := { frames := 8, cells := 0, slots := 0, locals := 238 }
set_option maxHeartbeats 4000000 in
set_option maxRecDepth 100000 in
theorem c_fMM_between (l : Launch) (X : eX) (sz : Nat) (a1 : Int32) (σ : sT) (rz : Int32) (σz : sT) (h0 : fMM_between a1 σ = some (rz, σz)) : ctI l yX12_between_ cX12_between_ 2 (some .int) rm_fMM_between [.ref (X.2.1 33), .int a1] (wM X) (tM X) (aM X) X sz σ rz σz := by
  refine ct_of (by decide +kernel) (Nat.le_of_ble_eq_true rfl) ?_
  intro p e s m args below meth c ls hz B hl Z
  have B : Bd p s m args meth c RX12 cX12_between_ 2 (some .int) := B
  have hl : lv_has ls 2 [(0, .ref (X.2.1 33)), (1, .int a1)] := hl
  have hx := B.1
  have hb := B.2.1
  unfold fMM_between at h0
  refine lv_iload_n hx hb dX12_between__0 rfl (lv_at hl 1 rfl) ?_
  refine lv_i2l hx hb dX12_between__1 rfl ?_
  refine lv_lconst (v := (0 : Int64)) hx hb dX12_between__2 (by decide) ?_
  refine lv_ldc2 hx hb B.2.2.2.1 (B.2.2.2.2.1 _ kc_RX12_270) dX12_between__3 ?_
  obtain ⟨r2, hc0, h1⟩ := db1_s h0
  clear h0
  refine cS_I [.long a1.toInt64, .long (0 : Int64), .long (4 : Int64)] [] B mx_yX12_in (c_fMM_in l X _ a1.toInt64 (0 : Int64) (4 : Int64) σ r2 hc0) kl_RX12_68 ks_yX12_in Z hl rfl rfl ⟨Nat.le_of_ble_eq_true rfl, Nat.le_of_ble_eq_true rfl⟩ rfl rfl (Nat.le_of_ble_eq_true rfl) dX12_between__6 (fun H locs Z => ?_)
  clear hc0
  refine lv_if_ne (tgt := 19) hx hb dX12_between__9 (by decide) (fun c3 => ?_) (fun c3 => ?_)
  · have h2 := dif h1 c3
    clear h1
    refine lv_aload_n hx hb dX12_between__19 rfl (lv_at hl 0 rfl) ?_
    refine lv_aload_n hx hb dX12_between__20 rfl (lv_at hl 0 rfl) ?_
    obtain ⟨r5, hc3, h3⟩ := db1_s h2
    clear h2
    refine cV_I [] [.ref (X.2.1 33)] B mx_yX12_every (c_fMM_every l X _ σ r5 hc3) kl_RX12_72 mi_yX12_every (rv_33 _ _) hcl_12 Z hl rfl rfl ⟨Nat.le_of_ble_eq_true rfl, Nat.le_of_ble_eq_true rfl⟩ rfl rfl (Nat.le_of_ble_eq_true rfl) dX12_between__21 (fun H locs Z => ?_)
    clear hc3
    obtain ⟨r7, σ8, hc5, h4⟩ := db2_s h3
    clear h3
    refine cV_I [.int r5] [] B mx_yX12_canSet (c_fMM_canSet l X _ r5 σ r7 σ8 hc5) kl_RX12_186 mi_yX12_canSet (rv_33 _ _) hcl_12 Z hl rfl rfl ⟨Nat.le_of_ble_eq_true rfl, Nat.le_of_ble_eq_true rfl⟩ rfl rfl (Nat.le_of_ble_eq_true rfl) dX12_between__24 (fun H locs Z => ?_)
    clear hc5
    refine lv_if_eq (tgt := 39) hx hb dX12_between__27 (by decide) (fun c9 => ?_) (fun c9 => ?_)
    · have h5 := dit h4 c9
      clear h4
      refine lv_aload_n hx hb dX12_between__39 rfl (lv_at hl 0 rfl) ?_
      refine lv_iload_n hx hb dX12_between__40 rfl (lv_at hl 1 rfl) ?_
      obtain ⟨r11, σ12, hc9, h6⟩ := db2_s h5
      clear h5
      refine cV_I [.int a1] [] B mx_yX12_betweenOf (c_fMM_betweenOf l X _ a1 σ8 r11 σ12 hc9) kl_RX12_272 mi_yX12_betweenOf (rv_33 _ _) hcl_12 Z hl rfl rfl ⟨Nat.le_of_ble_eq_true rfl, Nat.le_of_ble_eq_true rfl⟩ rfl rfl (Nat.le_of_ble_eq_true rfl) dX12_between__41 (fun H locs Z => ?_)
      clear hc9
      exact reI B Z rfl hz h6 dX12_between__44
    · have h7 := dif h4 c9
      clear h4
      refine lv_aload_n hx hb dX12_between__30 rfl (lv_at hl 0 rfl) ?_
      refine lv_ldc hx hb B.2.2.2.1 (B.2.2.2.2.1 _ kc_RX12_201) dX12_between__31 ?_
      obtain ⟨r14, σ15, hc12, h8⟩ := db2_s h7
      clear h7
      refine cV_I [.int (-1000003 : Int32)] [] B mx_yX12_refuses (c_fMM_refuses l X _ (-1000003 : Int32) σ8 r14 σ15 hc12) kl_RX12_168 mi_yX12_refuses (rv_33 _ _) hcl_12 Z hl rfl rfl ⟨Nat.le_of_ble_eq_true rfl, Nat.le_of_ble_eq_true rfl⟩ rfl rfl (Nat.le_of_ble_eq_true rfl) dX12_between__33 (fun H locs Z => ?_)
      clear hc12
      refine lv_goto (tgt := 44) hx hb dX12_between__36 (by decide) ?_
      exact reI B Z rfl hz h8 dX12_between__44
  · have h9 := dit h1 c3
    clear h1
    refine lv_aload_n hx hb dX12_between__12 rfl (lv_at hl 0 rfl) ?_
    refine lv_ldc hx hb B.2.2.2.1 (B.2.2.2.2.1 _ kc_RX12_63) dX12_between__13 ?_
    obtain ⟨r17, σ18, hc15, h10⟩ := db2_s h9
    clear h9
    refine cV_I [.int (-1000002 : Int32)] [] B mx_yX12_refuses (c_fMM_refuses l X _ (-1000002 : Int32) σ r17 σ18 hc15) kl_RX12_168 mi_yX12_refuses (rv_33 _ _) hcl_12 Z hl rfl rfl ⟨Nat.le_of_ble_eq_true rfl, Nat.le_of_ble_eq_true rfl⟩ rfl rfl (Nat.le_of_ble_eq_true rfl) dX12_between__15 (fun H locs Z => ?_)
    clear hc15
    exact reI B Z rfl hz h10 dX12_between__18
theorem dX12_ones_0 : decode cX12_ones 0 = .ok (.iconst 0, 1) := by decide +kernel
theorem dX12_ones_1 : decode cX12_ones 1 = .ok (.istore_n 1, 1) := by decide +kernel
theorem dX12_ones_2 : decode cX12_ones 2 = .ok (.iload_n 0, 1) := by decide +kernel
theorem dX12_ones_3 : decode cX12_ones 3 = .ok (.istore_n 2, 1) := by decide +kernel
theorem dX12_ones_4 : decode cX12_ones 4 = .ok (.iload_n 2, 1) := by decide +kernel
theorem dX12_ones_5 : decode cX12_ones 5 = .ok (.ifCond .eq 15, 3) := by decide +kernel
theorem dX12_ones_8 : decode cX12_ones 8 = .ok (.iinc 1 1, 3) := by decide +kernel
theorem dX12_ones_11 : decode cX12_ones 11 = .ok (.iload_n 2, 1) := by decide +kernel
theorem dX12_ones_12 : decode cX12_ones 12 = .ok (.iload_n 2, 1) := by decide +kernel
theorem dX12_ones_13 : decode cX12_ones 13 = .ok (.iconst 1, 1) := by decide +kernel
theorem dX12_ones_14 : decode cX12_ones 14 = .ok (.isub, 1) := by decide +kernel
theorem dX12_ones_15 : decode cX12_ones 15 = .ok (.iand, 1) := by decide +kernel
theorem dX12_ones_16 : decode cX12_ones 16 = .ok (.istore_n 2, 1) := by decide +kernel
theorem dX12_ones_17 : decode cX12_ones 17 = .ok (.goto (-13), 3) := by decide +kernel
theorem dX12_ones_20 : decode cX12_ones 20 = .ok (.iload_n 1, 1) := by decide +kernel
theorem dX12_ones_21 : decode cX12_ones 21 = .ok (.ireturn, 1) := by decide +kernel
def rm_fMM_ones : Room := { frames := 1, cells := 0, slots := 0, locals := 60 }
set_option maxHeartbeats 4000000 in
set_option maxRecDepth 100000 in
theorem c_fMM_ones (l : Launch) (X : eX) (sz : Nat) (a1 : Int32) (σ : sT) (rz : Int32) (h0 : fMM_ones a1 = some rz) : ctI l yX12_ones cX12_ones 3 (some .int) rm_fMM_ones [.int a1] (wM X) (tM X) (aM X) X sz σ rz σ := by
  refine ct_of (by decide +kernel) (Nat.le_of_ble_eq_true rfl) ?_
  intro p e s m args below meth c ls hz B hl Z
  have B : Bd p s m args meth c RX12 cX12_ones 3 (some .int) := B
  have hl : lv_has ls 3 [(0, .int a1)] := hl
  have hx := B.1
  have hb := B.2.1
  unfold fMM_ones at h0
  refine lv_iconst (v := (0 : Int32)) hx hb dX12_ones_0 (by decide) ?_
  refine lv_istore_n (lv' := [(1, .int (0 : Int32)), (0, .int a1)]) hx hb dX12_ones_1 rfl hl (by decide) rfl (fun ls hl => ?_)
  refine lv_iload_n hx hb dX12_ones_2 rfl (lv_at hl 1 rfl) ?_
  refine lv_istore_n (lv' := [(2, .int a1), (1, .int (0 : Int32)), (0, .int a1)]) hx hb dX12_ones_3 rfl hl (by decide) rfl (fun ls hl => ?_)
  have lL4 : ∀ (n : Nat), ∀ (x1 : Int32) (x2 : Int32) (H : Heap) (locs : List Loc) (ls : Array Slot), Wd (wM X) (tM X) (aM X) X s σ H locs → lv_has ls 3 [(1, .int x1), (2, .int x2)] → fMM_ones_L4 n x1 x2 = some rz → W p l e rm_fMM_ones s m args below meth c H locs 0 0 (MQ below (va_Qi (fun a u => a = rz ∧ u = σ) (poW (wM X) (tM X) (aM X) X sz) (aA (aM X) sz)) args s 0 0 (aA (aM X) sz)) (F0 m 4 ls []) := by
    intro n
    induction n with
    | zero =>
      intro x1 x2 H locs ls Z hl h
      exact nomatch (show (none : Option (Int32)) = some _ from h)
    | succ n3 ih4 =>
      intro x1 x2 H locs ls Z hl h1
      unfold fMM_ones_L4 at h1
      refine lv_iload_n hx hb dX12_ones_4 rfl (lv_at hl 1 rfl) ?_
      refine lv_if_eq (tgt := 20) hx hb dX12_ones_5 (by decide) (fun c4 => ?_) (fun c4 => ?_)
      · have h2 := dit h1 c4
        clear h1
        refine lv_iload_n hx hb dX12_ones_20 rfl (lv_at hl 0 rfl) ?_
        exact reI B Z rfl hz (congrArg (Option.map (fun q => (q, σ))) h2) dX12_ones_21
      · have h3 := dif h1 c4
        clear h1
        refine lv_iinc (v := x1 + (1 : Int32)) (lv' := [(1, .int (x1 + (1 : Int32))), (2, .int x2)]) hx hb dX12_ones_8 hl (k := 0) rfl (by rfl) (by decide) rfl (fun ls hl => ?_)
        refine lv_iload_n hx hb dX12_ones_11 rfl (lv_at hl 1 rfl) ?_
        refine lv_iload_n hx hb dX12_ones_12 rfl (lv_at hl 1 rfl) ?_
        refine lv_iconst (v := (1 : Int32)) hx hb dX12_ones_13 (by decide) ?_
        refine lv_isub hx hb dX12_ones_14 ?_
        refine lv_iand hx hb dX12_ones_15 ?_
        refine lv_topi (fun x5 ex5 => ?_)
        have h4 := dlt_e ex5 h3
        clear ex5 h3
        refine lv_istore_n (lv' := [(2, .int x5), (1, .int (x1 + (1 : Int32)))]) hx hb dX12_ones_16 rfl hl (by decide) rfl (fun ls hl => ?_)
        refine lv_goto (tgt := 4) hx hb dX12_ones_17 (by decide) ?_
        exact ih4 (x1 + (1 : Int32)) x5 _ _ _ Z (lv_sub hl [1, 0] rfl) h4
  exact lL4 FU (0 : Int32) a1 _ _ _ Z (lv_sub hl [1, 0] rfl) h0
theorem dX12_laysSides_0 : decode cX12_laysSides 0 = .ok (.aload_n 0, 1) := by decide +kernel
theorem dX12_laysSides_1 : decode cX12_laysSides 1 = .ok (.iconst 0, 1) := by decide +kernel
theorem dX12_laysSides_2 : decode cX12_laysSides 2 = .ok (.putfield 275, 3) := by decide +kernel
theorem dX12_laysSides_5 : decode cX12_laysSides 5 = .ok (.iconst 0, 1) := by decide +kernel
theorem dX12_laysSides_6 : decode cX12_laysSides 6 = .ok (.istore_n 2, 1) := by decide +kernel
theorem dX12_laysSides_7 : decode cX12_laysSides 7 = .ok (.iload_n 2, 1) := by decide +kernel
theorem dX12_laysSides_8 : decode cX12_laysSides 8 = .ok (.aload_n 0, 1) := by decide +kernel
theorem dX12_laysSides_9 : decode cX12_laysSides 9 = .ok (.getfield 7, 3) := by decide +kernel
theorem dX12_laysSides_12 : decode cX12_laysSides 12 = .ok (.iconst 0, 1) := by decide +kernel
theorem dX12_laysSides_13 : decode cX12_laysSides 13 = .ok (.iaload, 1) := by decide +kernel
theorem dX12_laysSides_14 : decode cX12_laysSides 14 = .ok (.if_icmp .ge 37, 3) := by decide +kernel
theorem dX12_laysSides_17 : decode cX12_laysSides 17 = .ok (.iload_n 1, 1) := by decide +kernel
theorem dX12_laysSides_18 : decode cX12_laysSides 18 = .ok (.iload_n 2, 1) := by decide +kernel
theorem dX12_laysSides_19 : decode cX12_laysSides 19 = .ok (.invokestatic 95, 3) := by decide +kernel
theorem dX12_laysSides_22 : decode cX12_laysSides 22 = .ok (.ifCond .eq 23, 3) := by decide +kernel
theorem dX12_laysSides_25 : decode cX12_laysSides 25 = .ok (.aload_n 0, 1) := by decide +kernel
theorem dX12_laysSides_26 : decode cX12_laysSides 26 = .ok (.getfield 38, 3) := by decide +kernel
theorem dX12_laysSides_29 : decode cX12_laysSides 29 = .ok (.aload_n 0, 1) := by decide +kernel
theorem dX12_laysSides_30 : decode cX12_laysSides 30 = .ok (.getfield 275, 3) := by decide +kernel
theorem dX12_laysSides_33 : decode cX12_laysSides 33 = .ok (.iload_n 2, 1) := by decide +kernel
theorem dX12_laysSides_34 : decode cX12_laysSides 34 = .ok (.iastore, 1) := by decide +kernel
theorem dX12_laysSides_35 : decode cX12_laysSides 35 = .ok (.aload_n 0, 1) := by decide +kernel
theorem dX12_laysSides_36 : decode cX12_laysSides 36 = .ok (.dup, 1) := by decide +kernel
theorem dX12_laysSides_37 : decode cX12_laysSides 37 = .ok (.getfield 275, 3) := by decide +kernel
theorem dX12_laysSides_40 : decode cX12_laysSides 40 = .ok (.iconst 1, 1) := by decide +kernel
theorem dX12_laysSides_41 : decode cX12_laysSides 41 = .ok (.iadd, 1) := by decide +kernel
theorem dX12_laysSides_42 : decode cX12_laysSides 42 = .ok (.putfield 275, 3) := by decide +kernel
theorem dX12_laysSides_45 : decode cX12_laysSides 45 = .ok (.iinc 2 1, 3) := by decide +kernel
theorem dX12_laysSides_48 : decode cX12_laysSides 48 = .ok (.goto (-41), 3) := by decide +kernel
theorem dX12_laysSides_51 : decode cX12_laysSides 51 = .ok (.return_, 1) := by decide +kernel
def rm_fMM_laysSides : Room := { frames := 2, cells := 0, slots := 0, locals := 81 }
set_option maxHeartbeats 4000000 in
set_option maxRecDepth 100000 in
theorem c_fMM_laysSides (l : Launch) (X : eX) (sz : Nat) (a1 : Int32) (σ : sT) (σz : sT) (h0 : fMM_laysSides a1 σ = some σz) : ctV l yX12_laysSides cX12_laysSides 3 none rm_fMM_laysSides [.ref (X.2.1 33), .int a1] (wM X) (tM X) (aM X) X sz σ σz := by
  refine ct_of (by decide +kernel) (Nat.le_of_ble_eq_true rfl) ?_
  intro p e s m args below meth c ls hz B hl Z
  have B : Bd p s m args meth c RX12 cX12_laysSides 3 none := B
  have hl : lv_has ls 3 [(0, .ref (X.2.1 33)), (1, .int a1)] := hl
  have hx := B.1
  have hb := B.2.1
  unfold fMM_laysSides at h0
  refine lv_aload_n hx hb dX12_laysSides_0 rfl (lv_at hl 0 rfl) ?_
  refine lv_iconst (v := (0 : Int32)) hx hb dX12_laysSides_1 (by decide) ?_
  refine s_33_23 B Z kf_RX12_275 dX12_laysSides_2 (fun H locs Z => ?_)
  obtain ⟨σ1, eσ1, h1⟩ := dlt_s h0
  clear h0
  replace Z := Wd.eq eσ1 Z
  clear eσ1
  refine lv_iconst (v := (0 : Int32)) hx hb dX12_laysSides_5 (by decide) ?_
  refine lv_istore_n (lv' := [(2, .int (0 : Int32)), (0, .ref (X.2.1 33)), (1, .int a1)]) hx hb dX12_laysSides_6 rfl hl (by decide) rfl (fun ls hl => ?_)
  have lL7 : ∀ (n : Nat), ∀ (x2 : Int32) (σ3 : sT) (H : Heap) (locs : List Loc) (ls : Array Slot), Wd (wM X) (tM X) (aM X) X s σ3 H locs → lv_has ls 3 [(0, .ref (X.2.1 33)), (1, .int a1), (2, .int x2)] → fMM_laysSides_L7 a1 n x2 σ3 = some σz → W p l e rm_fMM_laysSides s m args below meth c H locs 0 0 (MQ below (va_Qv (fun u => u = σz) (poW (wM X) (tM X) (aM X) X sz) (aA (aM X) sz)) args s 0 0 (aA (aM X) sz)) (F0 m 7 ls []) := by
    intro n
    induction n with
    | zero =>
      intro x2 σ3 H locs ls Z hl h
      exact nomatch (show (none : Option (sT)) = some _ from h)
    | succ n4 ih5 =>
      intro x2 σ3 H locs ls Z hl h2
      unfold fMM_laysSides_L7 at h2
      refine lv_iload_n hx hb dX12_laysSides_7 rfl (lv_at hl 2 rfl) ?_
      refine lv_aload_n hx hb dX12_laysSides_8 rfl (lv_at hl 0 rfl) ?_
      refine g_33_0 B Z kf_RX12_7 dX12_laysSides_9 ?_
      refine lv_iconst (v := (0 : Int32)) hx hb dX12_laysSides_12 (by decide) ?_
      obtain ⟨z5, h3⟩ := dck_s h2
      clear h2
      refine ld_34 B Z z5 dX12_laysSides_13 ?_
      refine lv_icmp_ge (tgt := 51) hx hb dX12_laysSides_14 (by decide) (fun c6 => ?_) (fun c6 => ?_)
      · have h4 := dit h3 c6
        clear h3
        exact reV B Z hz h4 dX12_laysSides_51
      · have h5 := dif h3 c6
        clear h3
        refine lv_iload_n hx hb dX12_laysSides_17 rfl (lv_at hl 1 rfl) ?_
        refine lv_iload_n hx hb dX12_laysSides_18 rfl (lv_at hl 2 rfl) ?_
        obtain ⟨r8, hc6, h6⟩ := db1_s h5
        clear h5
        refine cS_I [.int a1, .int x2] [] B mx_yX12_has (c_fMM_has l X _ a1 x2 σ3 r8 hc6) kl_RX12_95 ks_yX12_has Z hl rfl rfl ⟨Nat.le_of_ble_eq_true rfl, Nat.le_of_ble_eq_true rfl⟩ rfl rfl (Nat.le_of_ble_eq_true rfl) dX12_laysSides_19 (fun H locs Z => ?_)
        clear hc6
        refine lv_if_eq (tgt := 45) hx hb dX12_laysSides_22 (by decide) (fun c9 => ?_) (fun c9 => ?_)
        · have h7 := dit h6 c9
          clear h6
          refine lv_iinc (v := x2 + (1 : Int32)) (lv' := [(2, .int (x2 + (1 : Int32))), (0, .ref (X.2.1 33)), (1, .int a1)]) hx hb dX12_laysSides_45 hl (k := 2) rfl (by rfl) (by decide) rfl (fun ls hl => ?_)
          refine lv_goto (tgt := 7) hx hb dX12_laysSides_48 (by decide) ?_
          exact ih5 (x2 + (1 : Int32)) σ3 _ _ _ Z (lv_sub hl [1, 2, 0] rfl) h7
        · have h8 := dif h6 c9
          clear h6
          refine lv_aload_n hx hb dX12_laysSides_25 rfl (lv_at hl 0 rfl) ?_
          refine g_33_22 B Z kf_RX12_38 dX12_laysSides_26 ?_
          refine lv_aload_n hx hb dX12_laysSides_29 rfl (lv_at hl 0 rfl) ?_
          refine g_33_23 B Z kf_RX12_275 dX12_laysSides_30 ?_
          refine lv_iload_n hx hb dX12_laysSides_33 rfl (lv_at hl 2 rfl) ?_
          obtain ⟨z10, h9⟩ := dck_s h8
          clear h8
          refine st_43 B Z z10 dX12_laysSides_34 (fun H locs Z => ?_)
          obtain ⟨σ11, eσ11, h10⟩ := dlt_s h9
          clear h9
          replace Z := Wd.eq eσ11 Z
          clear eσ11
          refine lv_aload_n hx hb dX12_laysSides_35 rfl (lv_at hl 0 rfl) ?_
          refine lv_dup hx hb dX12_laysSides_36 rfl ?_
          refine g_33_23 B Z kf_RX12_275 dX12_laysSides_37 ?_
          refine lv_iconst (v := (1 : Int32)) hx hb dX12_laysSides_40 (by decide) ?_
          refine lv_iadd hx hb dX12_laysSides_41 ?_
          refine s_33_23 B Z kf_RX12_275 dX12_laysSides_42 (fun H locs Z => ?_)
          obtain ⟨σ12, eσ12, h11⟩ := dlt_s h10
          clear h10
          replace Z := Wd.eq eσ12 Z
          clear eσ12
          refine lv_iinc (v := x2 + (1 : Int32)) (lv' := [(2, .int (x2 + (1 : Int32))), (0, .ref (X.2.1 33)), (1, .int a1)]) hx hb dX12_laysSides_45 hl (k := 2) rfl (by rfl) (by decide) rfl (fun ls hl => ?_)
          refine lv_goto (tgt := 7) hx hb dX12_laysSides_48 (by decide) ?_
          exact ih5 (x2 + (1 : Int32)) σ12 _ _ _ Z (lv_sub hl [1, 2, 0] rfl) h11
  exact lL7 FU (0 : Int32) σ1 _ _ _ Z (lv_sub hl [1, 2, 0] rfl) h1
theorem dX12_many_0 : decode cX12_many 0 = .ok (.iconst 1, 1) := by decide +kernel
theorem dX12_many_1 : decode cX12_many 1 = .ok (.istore_n 1, 1) := by decide +kernel
theorem dX12_many_2 : decode cX12_many 2 = .ok (.iconst 0, 1) := by decide +kernel
theorem dX12_many_3 : decode cX12_many 3 = .ok (.istore_n 2, 1) := by decide +kernel
theorem dX12_many_4 : decode cX12_many 4 = .ok (.iload_n 2, 1) := by decide +kernel
theorem dX12_many_5 : decode cX12_many 5 = .ok (.aload_n 0, 1) := by decide +kernel
theorem dX12_many_6 : decode cX12_many 6 = .ok (.getfield 275, 3) := by decide +kernel
theorem dX12_many_9 : decode cX12_many 9 = .ok (.if_icmp .ge 13, 3) := by decide +kernel
theorem dX12_many_12 : decode cX12_many 12 = .ok (.iload_n 1, 1) := by decide +kernel
theorem dX12_many_13 : decode cX12_many 13 = .ok (.iconst 3, 1) := by decide +kernel
theorem dX12_many_14 : decode cX12_many 14 = .ok (.imul, 1) := by decide +kernel
theorem dX12_many_15 : decode cX12_many 15 = .ok (.istore_n 1, 1) := by decide +kernel
theorem dX12_many_16 : decode cX12_many 16 = .ok (.iinc 2 1, 3) := by decide +kernel
theorem dX12_many_19 : decode cX12_many 19 = .ok (.goto (-15), 3) := by decide +kernel
theorem dX12_many_22 : decode cX12_many 22 = .ok (.iload_n 1, 1) := by decide +kernel
theorem dX12_many_23 : decode cX12_many 23 = .ok (.ireturn, 1) := by decide +kernel
def rm_fMM_many : Room := { frames := 1, cells := 0, slots := 0, locals := 60 }
set_option maxHeartbeats 4000000 in
set_option maxRecDepth 100000 in
theorem c_fMM_many (l : Launch) (X : eX) (sz : Nat)  (σ : sT) (rz : Int32) (h0 : fMM_many σ = some rz) : ctI l yX12_many cX12_many 3 (some .int) rm_fMM_many [.ref (X.2.1 33)] (wM X) (tM X) (aM X) X sz σ rz σ := by
  refine ct_of (by decide +kernel) (Nat.le_of_ble_eq_true rfl) ?_
  intro p e s m args below meth c ls hz B hl Z
  have B : Bd p s m args meth c RX12 cX12_many 3 (some .int) := B
  have hl : lv_has ls 3 [(0, .ref (X.2.1 33))] := hl
  have hx := B.1
  have hb := B.2.1
  unfold fMM_many at h0
  refine lv_iconst (v := (1 : Int32)) hx hb dX12_many_0 (by decide) ?_
  refine lv_istore_n (lv' := [(1, .int (1 : Int32)), (0, .ref (X.2.1 33))]) hx hb dX12_many_1 rfl hl (by decide) rfl (fun ls hl => ?_)
  refine lv_iconst (v := (0 : Int32)) hx hb dX12_many_2 (by decide) ?_
  refine lv_istore_n (lv' := [(2, .int (0 : Int32)), (1, .int (1 : Int32)), (0, .ref (X.2.1 33))]) hx hb dX12_many_3 rfl hl (by decide) rfl (fun ls hl => ?_)
  have lL4 : ∀ (n : Nat), ∀ (x1 : Int32) (x2 : Int32) (H : Heap) (locs : List Loc) (ls : Array Slot), Wd (wM X) (tM X) (aM X) X s σ H locs → lv_has ls 3 [(0, .ref (X.2.1 33)), (1, .int x1), (2, .int x2)] → fMM_many_L4 σ n x1 x2 = some rz → W p l e rm_fMM_many s m args below meth c H locs 0 0 (MQ below (va_Qi (fun a u => a = rz ∧ u = σ) (poW (wM X) (tM X) (aM X) X sz) (aA (aM X) sz)) args s 0 0 (aA (aM X) sz)) (F0 m 4 ls []) := by
    intro n
    induction n with
    | zero =>
      intro x1 x2 H locs ls Z hl h
      exact nomatch (show (none : Option (Int32)) = some _ from h)
    | succ n3 ih4 =>
      intro x1 x2 H locs ls Z hl h1
      unfold fMM_many_L4 at h1
      refine lv_iload_n hx hb dX12_many_4 rfl (lv_at hl 2 rfl) ?_
      refine lv_aload_n hx hb dX12_many_5 rfl (lv_at hl 0 rfl) ?_
      refine g_33_23 B Z kf_RX12_275 dX12_many_6 ?_
      refine lv_icmp_ge (tgt := 22) hx hb dX12_many_9 (by decide) (fun c4 => ?_) (fun c4 => ?_)
      · have h2 := dit h1 c4
        clear h1
        refine lv_iload_n hx hb dX12_many_22 rfl (lv_at hl 1 rfl) ?_
        exact reI B Z rfl hz (congrArg (Option.map (fun q => (q, σ))) h2) dX12_many_23
      · have h3 := dif h1 c4
        clear h1
        refine lv_iload_n hx hb dX12_many_12 rfl (lv_at hl 1 rfl) ?_
        refine lv_iconst (v := (3 : Int32)) hx hb dX12_many_13 (by decide) ?_
        refine lv_imul hx hb dX12_many_14 ?_
        refine lv_topi (fun x5 ex5 => ?_)
        have h4 := dlt_e ex5 h3
        clear ex5 h3
        refine lv_istore_n (lv' := [(1, .int x5), (0, .ref (X.2.1 33)), (2, .int x2)]) hx hb dX12_many_15 rfl hl (by decide) rfl (fun ls hl => ?_)
        refine lv_iinc (v := x2 + (1 : Int32)) (lv' := [(2, .int (x2 + (1 : Int32))), (1, .int x5), (0, .ref (X.2.1 33))]) hx hb dX12_many_16 hl (k := 2) rfl (by rfl) (by decide) rfl (fun ls hl => ?_)
        refine lv_goto (tgt := 4) hx hb dX12_many_19 (by decide) ?_
        exact ih4 x5 (x2 + (1 : Int32)) _ _ _ Z (lv_sub hl [2, 1, 0] rfl) h4
  exact lL4 FU (1 : Int32) (0 : Int32) _ _ _ Z (lv_sub hl [2, 1, 0] rfl) h0
theorem dX12_canSides_0 : decode cX12_canSides 0 = .ok (.iload_n 1, 1) := by decide +kernel
theorem dX12_canSides_1 : decode cX12_canSides 1 = .ok (.istore_n 2, 1) := by decide +kernel
theorem dX12_canSides_2 : decode cX12_canSides 2 = .ok (.aload_n 0, 1) := by decide +kernel
theorem dX12_canSides_3 : decode cX12_canSides 3 = .ok (.iconst 0, 1) := by decide +kernel
theorem dX12_canSides_4 : decode cX12_canSides 4 = .ok (.putfield 80, 3) := by decide +kernel
theorem dX12_canSides_7 : decode cX12_canSides 7 = .ok (.iconst 0, 1) := by decide +kernel
theorem dX12_canSides_8 : decode cX12_canSides 8 = .ok (.istore_n 3, 1) := by decide +kernel
theorem dX12_canSides_9 : decode cX12_canSides 9 = .ok (.iload_n 3, 1) := by decide +kernel
theorem dX12_canSides_10 : decode cX12_canSides 10 = .ok (.aload_n 0, 1) := by decide +kernel
theorem dX12_canSides_11 : decode cX12_canSides 11 = .ok (.getfield 275, 3) := by decide +kernel
theorem dX12_canSides_14 : decode cX12_canSides 14 = .ok (.if_icmp .ge 106, 3) := by decide +kernel
theorem dX12_canSides_17 : decode cX12_canSides 17 = .ok (.aload_n 0, 1) := by decide +kernel
theorem dX12_canSides_18 : decode cX12_canSides 18 = .ok (.getfield 38, 3) := by decide +kernel
theorem dX12_canSides_21 : decode cX12_canSides 21 = .ok (.iload_n 3, 1) := by decide +kernel
theorem dX12_canSides_22 : decode cX12_canSides 22 = .ok (.iaload, 1) := by decide +kernel
theorem dX12_canSides_23 : decode cX12_canSides 23 = .ok (.istore 4, 2) := by decide +kernel
theorem dX12_canSides_25 : decode cX12_canSides 25 = .ok (.aload_n 0, 1) := by decide +kernel
theorem dX12_canSides_26 : decode cX12_canSides 26 = .ok (.getfield 41, 3) := by decide +kernel
theorem dX12_canSides_29 : decode cX12_canSides 29 = .ok (.iload_n 3, 1) := by decide +kernel
theorem dX12_canSides_30 : decode cX12_canSides 30 = .ok (.iload_n 2, 1) := by decide +kernel
theorem dX12_canSides_31 : decode cX12_canSides 31 = .ok (.iconst 3, 1) := by decide +kernel
theorem dX12_canSides_32 : decode cX12_canSides 32 = .ok (.irem, 1) := by decide +kernel
theorem dX12_canSides_33 : decode cX12_canSides 33 = .ok (.iconst 1, 1) := by decide +kernel
theorem dX12_canSides_34 : decode cX12_canSides 34 = .ok (.isub, 1) := by decide +kernel
theorem dX12_canSides_35 : decode cX12_canSides 35 = .ok (.iastore, 1) := by decide +kernel
theorem dX12_canSides_36 : decode cX12_canSides 36 = .ok (.iload_n 2, 1) := by decide +kernel
theorem dX12_canSides_37 : decode cX12_canSides 37 = .ok (.iconst 3, 1) := by decide +kernel
theorem dX12_canSides_38 : decode cX12_canSides 38 = .ok (.idiv, 1) := by decide +kernel
theorem dX12_canSides_39 : decode cX12_canSides 39 = .ok (.istore_n 2, 1) := by decide +kernel
theorem dX12_canSides_40 : decode cX12_canSides 40 = .ok (.aload_n 0, 1) := by decide +kernel
theorem dX12_canSides_41 : decode cX12_canSides 41 = .ok (.getfield 41, 3) := by decide +kernel
theorem dX12_canSides_44 : decode cX12_canSides 44 = .ok (.iload_n 3, 1) := by decide +kernel
theorem dX12_canSides_45 : decode cX12_canSides 45 = .ok (.iaload, 1) := by decide +kernel
theorem dX12_canSides_46 : decode cX12_canSides 46 = .ok (.iconst 1, 1) := by decide +kernel
theorem dX12_canSides_47 : decode cX12_canSides 47 = .ok (.if_icmp .ne 47, 3) := by decide +kernel
theorem dX12_canSides_50 : decode cX12_canSides 50 = .ok (.aload_n 0, 1) := by decide +kernel
theorem dX12_canSides_51 : decode cX12_canSides 51 = .ok (.aload_n 0, 1) := by decide +kernel
theorem dX12_canSides_52 : decode cX12_canSides 52 = .ok (.iload 4, 2) := by decide +kernel
theorem dX12_canSides_54 : decode cX12_canSides 54 = .ok (.iconst 0, 1) := by decide +kernel
theorem dX12_canSides_55 : decode cX12_canSides 55 = .ok (.invokevirtual 87, 3) := by decide +kernel
theorem dX12_canSides_58 : decode cX12_canSides 58 = .ok (.ineg, 1) := by decide +kernel
theorem dX12_canSides_59 : decode cX12_canSides 59 = .ok (.i2l, 1) := by decide +kernel
theorem dX12_canSides_60 : decode cX12_canSides 60 = .ok (.aload_n 0, 1) := by decide +kernel
theorem dX12_canSides_61 : decode cX12_canSides 61 = .ok (.iload 4, 2) := by decide +kernel
theorem dX12_canSides_63 : decode cX12_canSides 63 = .ok (.iconst 1, 1) := by decide +kernel
theorem dX12_canSides_64 : decode cX12_canSides 64 = .ok (.invokevirtual 87, 3) := by decide +kernel
theorem dX12_canSides_67 : decode cX12_canSides 67 = .ok (.ineg, 1) := by decide +kernel
theorem dX12_canSides_68 : decode cX12_canSides 68 = .ok (.i2l, 1) := by decide +kernel
theorem dX12_canSides_69 : decode cX12_canSides 69 = .ok (.aload_n 0, 1) := by decide +kernel
theorem dX12_canSides_70 : decode cX12_canSides 70 = .ok (.iload 4, 2) := by decide +kernel
theorem dX12_canSides_72 : decode cX12_canSides 72 = .ok (.iconst 2, 1) := by decide +kernel
theorem dX12_canSides_73 : decode cX12_canSides 73 = .ok (.invokevirtual 87, 3) := by decide +kernel
theorem dX12_canSides_76 : decode cX12_canSides 76 = .ok (.ineg, 1) := by decide +kernel
theorem dX12_canSides_77 : decode cX12_canSides 77 = .ok (.i2l, 1) := by decide +kernel
theorem dX12_canSides_78 : decode cX12_canSides 78 = .ok (.aload_n 0, 1) := by decide +kernel
theorem dX12_canSides_79 : decode cX12_canSides 79 = .ok (.iload 4, 2) := by decide +kernel
theorem dX12_canSides_81 : decode cX12_canSides 81 = .ok (.iconst 4, 1) := by decide +kernel
theorem dX12_canSides_82 : decode cX12_canSides 82 = .ok (.invokevirtual 87, 3) := by decide +kernel
theorem dX12_canSides_85 : decode cX12_canSides 85 = .ok (.ineg, 1) := by decide +kernel
theorem dX12_canSides_86 : decode cX12_canSides 86 = .ok (.i2l, 1) := by decide +kernel
theorem dX12_canSides_87 : decode cX12_canSides 87 = .ok (.iconst 1, 1) := by decide +kernel
theorem dX12_canSides_88 : decode cX12_canSides 88 = .ok (.invokevirtual 83, 3) := by decide +kernel
theorem dX12_canSides_91 : decode cX12_canSides 91 = .ok (.goto 23, 3) := by decide +kernel
theorem dX12_canSides_94 : decode cX12_canSides 94 = .ok (.aload_n 0, 1) := by decide +kernel
theorem dX12_canSides_95 : decode cX12_canSides 95 = .ok (.iload 4, 2) := by decide +kernel
theorem dX12_canSides_97 : decode cX12_canSides 97 = .ok (.aload_n 0, 1) := by decide +kernel
theorem dX12_canSides_98 : decode cX12_canSides 98 = .ok (.getfield 41, 3) := by decide +kernel
theorem dX12_canSides_101 : decode cX12_canSides 101 = .ok (.iload_n 3, 1) := by decide +kernel
theorem dX12_canSides_102 : decode cX12_canSides 102 = .ok (.iaload, 1) := by decide +kernel
theorem dX12_canSides_103 : decode cX12_canSides 103 = .ok (.ifCond .ne 7, 3) := by decide +kernel
theorem dX12_canSides_106 : decode cX12_canSides 106 = .ok (.iconst 2, 1) := by decide +kernel
theorem dX12_canSides_107 : decode cX12_canSides 107 = .ok (.goto 4, 3) := by decide +kernel
theorem dX12_canSides_110 : decode cX12_canSides 110 = .ok (.iconst 0, 1) := by decide +kernel
theorem dX12_canSides_111 : decode cX12_canSides 111 = .ok (.invokevirtual 99, 3) := by decide +kernel
theorem dX12_canSides_114 : decode cX12_canSides 114 = .ok (.iinc 3 1, 3) := by decide +kernel
theorem dX12_canSides_117 : decode cX12_canSides 117 = .ok (.goto (-108), 3) := by decide +kernel
theorem dX12_canSides_120 : decode cX12_canSides 120 = .ok (.aload_n 0, 1) := by decide +kernel
theorem dX12_canSides_121 : decode cX12_canSides 121 = .ok (.invokevirtual 150, 3) := by decide +kernel
theorem dX12_canSides_124 : decode cX12_canSides 124 = .ok (.ireturn, 1) := by decide +kernel
def rm_fMM_canSides : Room := { frames := 5, cells := 0, slots := 0, locals := 168 }
set_option maxHeartbeats 4000000 in
set_option maxRecDepth 100000 in
theorem c_fMM_canSides (l : Launch) (X : eX) (sz : Nat) (a1 : Int32) (σ : sT) (rz : Int32) (σz : sT) (h0 : fMM_canSides a1 σ = some (rz, σz)) : ctI l yX12_canSides cX12_canSides 5 (some .boolean) rm_fMM_canSides [.ref (X.2.1 33), .int a1] (wM X) (tM X) (aM X) X sz σ rz σz := by
  refine ct_of (by decide +kernel) (Nat.le_of_ble_eq_true rfl) ?_
  intro p e s m args below meth c ls hz B hl Z
  have B : Bd p s m args meth c RX12 cX12_canSides 5 (some .boolean) := B
  have hl : lv_has ls 5 [(0, .ref (X.2.1 33)), (1, .int a1)] := hl
  have hx := B.1
  have hb := B.2.1
  unfold fMM_canSides at h0
  refine lv_iload_n hx hb dX12_canSides_0 rfl (lv_at hl 1 rfl) ?_
  refine lv_istore_n (lv' := [(2, .int a1), (0, .ref (X.2.1 33)), (1, .int a1)]) hx hb dX12_canSides_1 rfl hl (by decide) rfl (fun ls hl => ?_)
  refine lv_aload_n hx hb dX12_canSides_2 rfl (lv_at hl 1 rfl) ?_
  refine lv_iconst (v := (0 : Int32)) hx hb dX12_canSides_3 (by decide) ?_
  refine s_33_5 B Z kf_RX12_80 dX12_canSides_4 (fun H locs Z => ?_)
  obtain ⟨σ1, eσ1, h1⟩ := dlt_s h0
  clear h0
  replace Z := Wd.eq eσ1 Z
  clear eσ1
  refine lv_iconst (v := (0 : Int32)) hx hb dX12_canSides_7 (by decide) ?_
  refine lv_istore_n (lv' := [(3, .int (0 : Int32)), (2, .int a1), (0, .ref (X.2.1 33)), (1, .int a1)]) hx hb dX12_canSides_8 rfl hl (by decide) rfl (fun ls hl => ?_)
  obtain ⟨K6, eK6, h5⟩ := dlt_s h1
  clear h1
  have kK6 : ∀ (σ5 : sT) (H : Heap) (locs : List Loc) (ls : Array Slot), Wd (wM X) (tM X) (aM X) X s σ5 H locs → lv_has ls 5 [(0, .ref (X.2.1 33))] → K6 σ5 = some (rz, σz) → W p l e rm_fMM_canSides s m args below meth c H locs 0 0 (MQ below (va_Qi (fun a u => a = rz ∧ u = σz) (poW (wM X) (tM X) (aM X) X sz) (aA (aM X) sz)) args s 0 0 (aA (aM X) sz)) (F0 m 120 ls []) := by
    intro σ5 H locs ls Z hl h2
    rw [eK6] at h2
    refine lv_aload_n hx hb dX12_canSides_120 rfl (lv_at hl 0 rfl) ?_
    obtain ⟨r8, σ9, hc6, h3⟩ := db2_s h2
    clear h2
    refine cV_I [] [] B mx_yX12_canLaid (c_fMM_canLaid l X _ σ5 r8 σ9 hc6) kl_RX12_150 mi_yX12_canLaid (rv_33 _ _) hcl_12 Z hl rfl rfl ⟨Nat.le_of_ble_eq_true rfl, Nat.le_of_ble_eq_true rfl⟩ rfl rfl (Nat.le_of_ble_eq_true rfl) dX12_canSides_121 (fun H locs Z => ?_)
    clear hc6
    obtain ⟨z10, h4⟩ := dck_s h3
    clear h3
    exact reI B Z (okZ_n z10) hz h4 dX12_canSides_124
  clear eK6
  have lL9 : ∀ (n : Nat), ∀ (x2 : Int32) (x3 : Int32) (σ4 : sT) (H : Heap) (locs : List Loc) (ls : Array Slot), Wd (wM X) (tM X) (aM X) X s σ4 H locs → lv_has ls 5 [(0, .ref (X.2.1 33)), (2, .int x2), (3, .int x3)] → fMM_canSides_L9 K6 n x2 x3 σ4 = some (rz, σz) → W p l e rm_fMM_canSides s m args below meth c H locs 0 0 (MQ below (va_Qi (fun a u => a = rz ∧ u = σz) (poW (wM X) (tM X) (aM X) X sz) (aA (aM X) sz)) args s 0 0 (aA (aM X) sz)) (F0 m 9 ls []) := by
    intro n
    induction n with
    | zero =>
      intro x2 x3 σ4 H locs ls Z hl h
      exact nomatch (show (none : Option (Int32 × sT)) = some _ from h)
    | succ n11 ih7 =>
      intro x2 x3 σ4 H locs ls Z hl h6
      unfold fMM_canSides_L9 at h6
      refine lv_iload_n hx hb dX12_canSides_9 rfl (lv_at hl 2 rfl) ?_
      refine lv_aload_n hx hb dX12_canSides_10 rfl (lv_at hl 0 rfl) ?_
      refine g_33_23 B Z kf_RX12_275 dX12_canSides_11 ?_
      refine lv_icmp_ge (tgt := 120) hx hb dX12_canSides_14 (by decide) (fun c12 => ?_) (fun c12 => ?_)
      · have h7 := dit h6 c12
        clear h6
        exact kK6 σ4 _ _ _ Z (lv_sub hl [0] rfl) h7
      · have h8 := dif h6 c12
        clear h6
        refine lv_aload_n hx hb dX12_canSides_17 rfl (lv_at hl 0 rfl) ?_
        refine g_33_22 B Z kf_RX12_38 dX12_canSides_18 ?_
        refine lv_iload_n hx hb dX12_canSides_21 rfl (lv_at hl 2 rfl) ?_
        obtain ⟨z13, h9⟩ := dck_s h8
        clear h8
        refine ld_43 B Z z13 dX12_canSides_22 ?_
        refine lv_topi (fun x14 ex14 => ?_)
        have h10 := dlt_e ex14 h9
        clear ex14 h9
        refine lv_istore (lv' := [(4, .int x14), (0, .ref (X.2.1 33)), (2, .int x2), (3, .int x3)]) hx hb dX12_canSides_23 hl (by decide) rfl (fun ls hl => ?_)
        refine lv_aload_n hx hb dX12_canSides_25 rfl (lv_at hl 1 rfl) ?_
        refine g_33_24 B Z kf_RX12_41 dX12_canSides_26 ?_
        refine lv_iload_n hx hb dX12_canSides_29 rfl (lv_at hl 3 rfl) ?_
        refine lv_iload_n hx hb dX12_canSides_30 rfl (lv_at hl 2 rfl) ?_
        refine lv_iconst (v := (3 : Int32)) hx hb dX12_canSides_31 (by decide) ?_
        refine lv_irem hx hb dX12_canSides_32 (by decide) ?_
        refine lv_iconst (v := (1 : Int32)) hx hb dX12_canSides_33 (by decide) ?_
        refine lv_isub hx hb dX12_canSides_34 ?_
        obtain ⟨z15, h11⟩ := dck_s h10
        clear h10
        refine st_44 B Z z15 dX12_canSides_35 (fun H locs Z => ?_)
        obtain ⟨σ16, eσ16, h12⟩ := dlt_s h11
        clear h11
        replace Z := Wd.eq eσ16 Z
        clear eσ16
        refine lv_iload_n hx hb dX12_canSides_36 rfl (lv_at hl 2 rfl) ?_
        refine lv_iconst (v := (3 : Int32)) hx hb dX12_canSides_37 (by decide) ?_
        refine lv_idiv hx hb dX12_canSides_38 (by decide) ?_
        refine lv_topi (fun x17 ex17 => ?_)
        have h13 := dlt_e ex17 h12
        clear ex17 h12
        refine lv_istore_n (lv' := [(2, .int x17), (4, .int x14), (0, .ref (X.2.1 33)), (3, .int x3)]) hx hb dX12_canSides_39 rfl hl (by decide) rfl (fun ls hl => ?_)
        refine lv_aload_n hx hb dX12_canSides_40 rfl (lv_at hl 2 rfl) ?_
        refine g_33_24 B Z kf_RX12_41 dX12_canSides_41 ?_
        refine lv_iload_n hx hb dX12_canSides_44 rfl (lv_at hl 3 rfl) ?_
        obtain ⟨z18, h14⟩ := dck_s h13
        clear h13
        refine ld_44 B Z z18 dX12_canSides_45 ?_
        refine lv_iconst (v := (1 : Int32)) hx hb dX12_canSides_46 (by decide) ?_
        refine lv_icmp_ne (tgt := 94) hx hb dX12_canSides_47 (by decide) (fun c19 => ?_) (fun c19 => ?_)
        · have h15 := dif h14 c19
          clear h14
          refine lv_aload_n hx hb dX12_canSides_94 rfl (lv_at hl 2 rfl) ?_
          refine lv_iload hx hb dX12_canSides_95 (lv_at hl 1 rfl) ?_
          refine lv_aload_n hx hb dX12_canSides_97 rfl (lv_at hl 2 rfl) ?_
          refine g_33_24 B Z kf_RX12_41 dX12_canSides_98 ?_
          refine lv_iload_n hx hb dX12_canSides_101 rfl (lv_at hl 3 rfl) ?_
          obtain ⟨z20, h16⟩ := dck_s h15
          clear h15
          refine ld_44 B Z z20 dX12_canSides_102 ?_
          obtain ⟨J23, eJ23, h19⟩ := dlt_s h16
          clear h16
          have kJ23 : ∀ (x21 : Int32) (x22 : Int32) (H : Heap) (locs : List Loc) (ls : Array Slot), Wd (wM X) (tM X) (aM X) X s σ16 H locs → lv_has ls 5 [(0, .ref (X.2.1 33)), (2, .int x17), (3, .int x3)] → J23 x21 x22 = some (rz, σz) → W p l e rm_fMM_canSides s m args below meth c H locs 0 0 (MQ below (va_Qi (fun a u => a = rz ∧ u = σz) (poW (wM X) (tM X) (aM X) X sz) (aA (aM X) sz)) args s 0 0 (aA (aM X) sz)) (F0 m 111 ls [.int x22, .int x21, .ref (X.2.1 33)]) := by
            intro x21 x22 H locs ls Z hl h17
            rw [eJ23] at h17
            obtain ⟨σ25, hc23, h18⟩ := db1_s h17
            clear h17
            refine cV_V [.int x21, .int x22] [] B mx_yX12_laysRow (c_fMM_laysRow l X _ x21 x22 σ16 σ25 hc23) kl_RX12_99 mi_yX12_laysRow (rv_33 _ _) hcl_12 Z hl rfl rfl ⟨Nat.le_of_ble_eq_true rfl, Nat.le_of_ble_eq_true rfl⟩ rfl rfl (Nat.le_of_ble_eq_true rfl) dX12_canSides_111 (fun H locs Z => ?_)
            clear hc23
            refine lv_iinc (v := x3 + (1 : Int32)) (lv' := [(3, .int (x3 + (1 : Int32))), (0, .ref (X.2.1 33)), (2, .int x17)]) hx hb dX12_canSides_114 hl (k := 2) rfl (by rfl) (by decide) rfl (fun ls hl => ?_)
            refine lv_goto (tgt := 9) hx hb dX12_canSides_117 (by decide) ?_
            exact ih7 x17 (x3 + (1 : Int32)) σ25 _ _ _ Z (lv_sub hl [1, 2, 0] rfl) h18
          clear eJ23
          refine lv_if_ne (tgt := 110) hx hb dX12_canSides_103 (by decide) (fun c26 => ?_) (fun c26 => ?_)
          · have h20 := dif h19 c26
            clear h19
            refine lv_iconst (v := (0 : Int32)) hx hb dX12_canSides_110 (by decide) ?_
            exact kJ23 x14 (0 : Int32) _ _ _ Z (lv_sub hl [2, 0, 3] rfl) h20
          · have h21 := dit h19 c26
            clear h19
            refine lv_iconst (v := (2 : Int32)) hx hb dX12_canSides_106 (by decide) ?_
            refine lv_goto (tgt := 111) hx hb dX12_canSides_107 (by decide) ?_
            exact kJ23 x14 (2 : Int32) _ _ _ Z (lv_sub hl [2, 0, 3] rfl) h21
        · have h22 := dit h14 c19
          clear h14
          refine lv_aload_n hx hb dX12_canSides_50 rfl (lv_at hl 2 rfl) ?_
          refine lv_aload_n hx hb dX12_canSides_51 rfl (lv_at hl 2 rfl) ?_
          refine lv_iload hx hb dX12_canSides_52 (lv_at hl 1 rfl) ?_
          refine lv_iconst (v := (0 : Int32)) hx hb dX12_canSides_54 (by decide) ?_
          obtain ⟨r28, hc26, h23⟩ := db1_s h22
          clear h22
          refine cV_I [.int x14, .int (0 : Int32)] [.ref (X.2.1 33)] B mx_yX12_at (c_fMM_at l X _ x14 (0 : Int32) σ16 r28 hc26) kl_RX12_87 mi_yX12_at (rv_33 _ _) hcl_12 Z hl rfl rfl ⟨Nat.le_of_ble_eq_true rfl, Nat.le_of_ble_eq_true rfl⟩ rfl rfl (Nat.le_of_ble_eq_true rfl) dX12_canSides_55 (fun H locs Z => ?_)
          clear hc26
          refine lv_ineg hx hb dX12_canSides_58 ?_
          refine lv_i2l hx hb dX12_canSides_59 rfl ?_
          refine lv_aload_n hx hb dX12_canSides_60 rfl (lv_at hl 2 rfl) ?_
          refine lv_iload hx hb dX12_canSides_61 (lv_at hl 1 rfl) ?_
          refine lv_iconst (v := (1 : Int32)) hx hb dX12_canSides_63 (by decide) ?_
          obtain ⟨r30, hc28, h24⟩ := db1_s h23
          clear h23
          refine cV_I [.int x14, .int (1 : Int32)] [.long ((-r28).toInt64), .ref (X.2.1 33)] B mx_yX12_at (c_fMM_at l X _ x14 (1 : Int32) σ16 r30 hc28) kl_RX12_87 mi_yX12_at (rv_33 _ _) hcl_12 Z hl rfl rfl ⟨Nat.le_of_ble_eq_true rfl, Nat.le_of_ble_eq_true rfl⟩ rfl rfl (Nat.le_of_ble_eq_true rfl) dX12_canSides_64 (fun H locs Z => ?_)
          clear hc28
          refine lv_ineg hx hb dX12_canSides_67 ?_
          refine lv_i2l hx hb dX12_canSides_68 rfl ?_
          refine lv_aload_n hx hb dX12_canSides_69 rfl (lv_at hl 2 rfl) ?_
          refine lv_iload hx hb dX12_canSides_70 (lv_at hl 1 rfl) ?_
          refine lv_iconst (v := (2 : Int32)) hx hb dX12_canSides_72 (by decide) ?_
          obtain ⟨r32, hc30, h25⟩ := db1_s h24
          clear h24
          refine cV_I [.int x14, .int (2 : Int32)] [.long ((-r30).toInt64), .long ((-r28).toInt64), .ref (X.2.1 33)] B mx_yX12_at (c_fMM_at l X _ x14 (2 : Int32) σ16 r32 hc30) kl_RX12_87 mi_yX12_at (rv_33 _ _) hcl_12 Z hl rfl rfl ⟨Nat.le_of_ble_eq_true rfl, Nat.le_of_ble_eq_true rfl⟩ rfl rfl (Nat.le_of_ble_eq_true rfl) dX12_canSides_73 (fun H locs Z => ?_)
          clear hc30
          refine lv_ineg hx hb dX12_canSides_76 ?_
          refine lv_i2l hx hb dX12_canSides_77 rfl ?_
          refine lv_aload_n hx hb dX12_canSides_78 rfl (lv_at hl 2 rfl) ?_
          refine lv_iload hx hb dX12_canSides_79 (lv_at hl 1 rfl) ?_
          refine lv_iconst (v := (4 : Int32)) hx hb dX12_canSides_81 (by decide) ?_
          obtain ⟨r34, hc32, h26⟩ := db1_s h25
          clear h25
          refine cV_I [.int x14, .int (4 : Int32)] [.long ((-r32).toInt64), .long ((-r30).toInt64), .long ((-r28).toInt64), .ref (X.2.1 33)] B mx_yX12_at (c_fMM_at l X _ x14 (4 : Int32) σ16 r34 hc32) kl_RX12_87 mi_yX12_at (rv_33 _ _) hcl_12 Z hl rfl rfl ⟨Nat.le_of_ble_eq_true rfl, Nat.le_of_ble_eq_true rfl⟩ rfl rfl (Nat.le_of_ble_eq_true rfl) dX12_canSides_82 (fun H locs Z => ?_)
          clear hc32
          refine lv_ineg hx hb dX12_canSides_85 ?_
          refine lv_i2l hx hb dX12_canSides_86 rfl ?_
          refine lv_iconst (v := (1 : Int32)) hx hb dX12_canSides_87 (by decide) ?_
          obtain ⟨σ36, hc34, h27⟩ := db1_s h26
          clear h26
          refine cV_V [.long ((-r28).toInt64), .long ((-r30).toInt64), .long ((-r32).toInt64), .long ((-r34).toInt64), .int (1 : Int32)] [] B mx_yX12_lays (c_fMM_lays l X _ ((-r28).toInt64) ((-r30).toInt64) ((-r32).toInt64) ((-r34).toInt64) (1 : Int32) σ16 σ36 hc34) kl_RX12_83 mi_yX12_lays (rv_33 _ _) hcl_12 Z hl rfl rfl ⟨Nat.le_of_ble_eq_true rfl, Nat.le_of_ble_eq_true rfl⟩ rfl rfl (Nat.le_of_ble_eq_true rfl) dX12_canSides_88 (fun H locs Z => ?_)
          clear hc34
          refine lv_goto (tgt := 114) hx hb dX12_canSides_91 (by decide) ?_
          refine lv_iinc (v := x3 + (1 : Int32)) (lv' := [(3, .int (x3 + (1 : Int32))), (2, .int x17), (4, .int x14), (0, .ref (X.2.1 33))]) hx hb dX12_canSides_114 hl (k := 3) rfl (by rfl) (by decide) rfl (fun ls hl => ?_)
          refine lv_goto (tgt := 9) hx hb dX12_canSides_117 (by decide) ?_
          exact ih7 x17 (x3 + (1 : Int32)) σ36 _ _ _ Z (lv_sub hl [3, 1, 0] rfl) h27
  exact lL9 FU a1 (0 : Int32) σ1 _ _ _ Z (lv_sub hl [2, 1, 0] rfl) h5
theorem dX12_sides_0 : decode cX12_sides 0 = .ok (.aload_n 0, 1) := by decide +kernel
theorem dX12_sides_1 : decode cX12_sides 1 = .ok (.iload_n 1, 1) := by decide +kernel
theorem dX12_sides_2 : decode cX12_sides 2 = .ok (.invokevirtual 183, 3) := by decide +kernel
theorem dX12_sides_5 : decode cX12_sides 5 = .ok (.ifCond .eq 11, 3) := by decide +kernel
theorem dX12_sides_8 : decode cX12_sides 8 = .ok (.iload_n 1, 1) := by decide +kernel
theorem dX12_sides_9 : decode cX12_sides 9 = .ok (.invokestatic 278, 3) := by decide +kernel
theorem dX12_sides_12 : decode cX12_sides 12 = .ok (.iconst 5, 1) := by decide +kernel
theorem dX12_sides_13 : decode cX12_sides 13 = .ok (.if_icmp .le 10, 3) := by decide +kernel
theorem dX12_sides_16 : decode cX12_sides 16 = .ok (.aload_n 0, 1) := by decide +kernel
theorem dX12_sides_17 : decode cX12_sides 17 = .ok (.ldc 63, 2) := by decide +kernel
theorem dX12_sides_19 : decode cX12_sides 19 = .ok (.invokevirtual 168, 3) := by decide +kernel
theorem dX12_sides_22 : decode cX12_sides 22 = .ok (.ireturn, 1) := by decide +kernel
theorem dX12_sides_23 : decode cX12_sides 23 = .ok (.aload_n 0, 1) := by decide +kernel
theorem dX12_sides_24 : decode cX12_sides 24 = .ok (.iload_n 1, 1) := by decide +kernel
theorem dX12_sides_25 : decode cX12_sides 25 = .ok (.invokevirtual 281, 3) := by decide +kernel
theorem dX12_sides_28 : decode cX12_sides 28 = .ok (.iconst 0, 1) := by decide +kernel
theorem dX12_sides_29 : decode cX12_sides 29 = .ok (.istore_n 2, 1) := by decide +kernel
theorem dX12_sides_30 : decode cX12_sides 30 = .ok (.iconst 0, 1) := by decide +kernel
theorem dX12_sides_31 : decode cX12_sides 31 = .ok (.istore_n 3, 1) := by decide +kernel
theorem dX12_sides_32 : decode cX12_sides 32 = .ok (.iload_n 3, 1) := by decide +kernel
theorem dX12_sides_33 : decode cX12_sides 33 = .ok (.aload_n 0, 1) := by decide +kernel
theorem dX12_sides_34 : decode cX12_sides 34 = .ok (.invokevirtual 284, 3) := by decide +kernel
theorem dX12_sides_37 : decode cX12_sides 37 = .ok (.if_icmp .ge 25, 3) := by decide +kernel
theorem dX12_sides_40 : decode cX12_sides 40 = .ok (.iload_n 2, 1) := by decide +kernel
theorem dX12_sides_41 : decode cX12_sides 41 = .ok (.aload_n 0, 1) := by decide +kernel
theorem dX12_sides_42 : decode cX12_sides 42 = .ok (.iload_n 3, 1) := by decide +kernel
theorem dX12_sides_43 : decode cX12_sides 43 = .ok (.invokevirtual 287, 3) := by decide +kernel
theorem dX12_sides_46 : decode cX12_sides 46 = .ok (.ifCond .eq 7, 3) := by decide +kernel
theorem dX12_sides_49 : decode cX12_sides 49 = .ok (.iconst 1, 1) := by decide +kernel
theorem dX12_sides_50 : decode cX12_sides 50 = .ok (.goto 4, 3) := by decide +kernel
theorem dX12_sides_53 : decode cX12_sides 53 = .ok (.iconst 0, 1) := by decide +kernel
theorem dX12_sides_54 : decode cX12_sides 54 = .ok (.iadd, 1) := by decide +kernel
theorem dX12_sides_55 : decode cX12_sides 55 = .ok (.istore_n 2, 1) := by decide +kernel
theorem dX12_sides_56 : decode cX12_sides 56 = .ok (.iinc 3 1, 3) := by decide +kernel
theorem dX12_sides_59 : decode cX12_sides 59 = .ok (.goto (-27), 3) := by decide +kernel
theorem dX12_sides_62 : decode cX12_sides 62 = .ok (.iload_n 2, 1) := by decide +kernel
theorem dX12_sides_63 : decode cX12_sides 63 = .ok (.ireturn, 1) := by decide +kernel
def rm_fMM_sides : Room := { frames := 6, cells := 0, slots := 0, locals := 192 }
set_option maxHeartbeats 4000000 in
set_option maxRecDepth 100000 in
theorem c_fMM_sides (l : Launch) (X : eX) (sz : Nat) (a1 : Int32) (σ : sT) (rz : Int32) (σz : sT) (h0 : fMM_sides a1 σ = some (rz, σz)) : ctI l yX12_sides cX12_sides 4 (some .int) rm_fMM_sides [.ref (X.2.1 33), .int a1] (wM X) (tM X) (aM X) X sz σ rz σz := by
  refine ct_of (by decide +kernel) (Nat.le_of_ble_eq_true rfl) ?_
  intro p e s m args below meth c ls hz B hl Z
  have B : Bd p s m args meth c RX12 cX12_sides 4 (some .int) := B
  have hl : lv_has ls 4 [(0, .ref (X.2.1 33)), (1, .int a1)] := hl
  have hx := B.1
  have hb := B.2.1
  unfold fMM_sides at h0
  refine lv_aload_n hx hb dX12_sides_0 rfl (lv_at hl 0 rfl) ?_
  refine lv_iload_n hx hb dX12_sides_1 rfl (lv_at hl 1 rfl) ?_
  obtain ⟨r2, hc0, h1⟩ := db1_s h0
  clear h0
  refine cV_I [.int a1] [] B mx_yX12_isSet (c_fMM_isSet l X _ a1 σ r2 hc0) kl_RX12_183 mi_yX12_isSet (rv_33 _ _) hcl_12 Z hl rfl rfl ⟨Nat.le_of_ble_eq_true rfl, Nat.le_of_ble_eq_true rfl⟩ rfl rfl (Nat.le_of_ble_eq_true rfl) dX12_sides_2 (fun H locs Z => ?_)
  clear hc0
  obtain ⟨J3, eJ3, h4⟩ := dlt_s h1
  clear h1
  have kJ3 : ∀ (H : Heap) (locs : List Loc) (ls : Array Slot), Wd (wM X) (tM X) (aM X) X s σ H locs → lv_has ls 4 [(0, .ref (X.2.1 33))] → J3 () = some (rz, σz) → W p l e rm_fMM_sides s m args below meth c H locs 0 0 (MQ below (va_Qi (fun a u => a = rz ∧ u = σz) (poW (wM X) (tM X) (aM X) X sz) (aA (aM X) sz)) args s 0 0 (aA (aM X) sz)) (F0 m 16 ls []) := by
    intro  H locs ls Z hl h2
    rw [eJ3] at h2
    refine lv_aload_n hx hb dX12_sides_16 rfl (lv_at hl 0 rfl) ?_
    refine lv_ldc hx hb B.2.2.2.1 (B.2.2.2.2.1 _ kc_RX12_63) dX12_sides_17 ?_
    obtain ⟨r5, σ6, hc3, h3⟩ := db2_s h2
    clear h2
    refine cV_I [.int (-1000002 : Int32)] [] B mx_yX12_refuses (c_fMM_refuses l X _ (-1000002 : Int32) σ r5 σ6 hc3) kl_RX12_168 mi_yX12_refuses (rv_33 _ _) hcl_12 Z hl rfl rfl ⟨Nat.le_of_ble_eq_true rfl, Nat.le_of_ble_eq_true rfl⟩ rfl rfl (Nat.le_of_ble_eq_true rfl) dX12_sides_19 (fun H locs Z => ?_)
    clear hc3
    exact reI B Z rfl hz h3 dX12_sides_22
  clear eJ3
  refine lv_if_eq (tgt := 16) hx hb dX12_sides_5 (by decide) (fun c7 => ?_) (fun c7 => ?_)
  · have h5 := dit h4 c7
    clear h4
    exact kJ3  _ _ _ Z (lv_sub hl [0] rfl) h5
  · have h6 := dif h4 c7
    clear h4
    refine lv_iload_n hx hb dX12_sides_8 rfl (lv_at hl 1 rfl) ?_
    obtain ⟨r9, hc7, h7⟩ := db1_s h6
    clear h6
    refine cS_I [.int a1] [] B mx_yX12_ones (c_fMM_ones l X _ a1 σ r9 hc7) kl_RX12_278 ks_yX12_ones Z hl rfl rfl ⟨Nat.le_of_ble_eq_true rfl, Nat.le_of_ble_eq_true rfl⟩ rfl rfl (Nat.le_of_ble_eq_true rfl) dX12_sides_9 (fun H locs Z => ?_)
    clear hc7
    refine lv_iconst (v := (5 : Int32)) hx hb dX12_sides_12 (by decide) ?_
    refine lv_icmp_le (tgt := 23) hx hb dX12_sides_13 (by decide) (fun c10 => ?_) (fun c10 => ?_)
    · have h8 := dit h7 c10
      clear h7
      refine lv_aload_n hx hb dX12_sides_23 rfl (lv_at hl 0 rfl) ?_
      refine lv_iload_n hx hb dX12_sides_24 rfl (lv_at hl 1 rfl) ?_
      obtain ⟨σ12, hc10, h9⟩ := db1_s h8
      clear h8
      refine cV_V [.int a1] [] B mx_yX12_laysSides (c_fMM_laysSides l X _ a1 σ σ12 hc10) kl_RX12_281 mi_yX12_laysSides (rv_33 _ _) hcl_12 Z hl rfl rfl ⟨Nat.le_of_ble_eq_true rfl, Nat.le_of_ble_eq_true rfl⟩ rfl rfl (Nat.le_of_ble_eq_true rfl) dX12_sides_25 (fun H locs Z => ?_)
      clear hc10
      refine lv_iconst (v := (0 : Int32)) hx hb dX12_sides_28 (by decide) ?_
      refine lv_istore_n (lv' := [(2, .int (0 : Int32)), (0, .ref (X.2.1 33)), (1, .int a1)]) hx hb dX12_sides_29 rfl hl (by decide) rfl (fun ls hl => ?_)
      refine lv_iconst (v := (0 : Int32)) hx hb dX12_sides_30 (by decide) ?_
      refine lv_istore_n (lv' := [(3, .int (0 : Int32)), (2, .int (0 : Int32)), (0, .ref (X.2.1 33)), (1, .int a1)]) hx hb dX12_sides_31 rfl hl (by decide) rfl (fun ls hl => ?_)
      have lL32 : ∀ (n : Nat), ∀ (x13 : Int32) (x14 : Int32) (σ15 : sT) (H : Heap) (locs : List Loc) (ls : Array Slot), Wd (wM X) (tM X) (aM X) X s σ15 H locs → lv_has ls 4 [(0, .ref (X.2.1 33)), (2, .int x13), (3, .int x14)] → fMM_sides_L32 n x13 x14 σ15 = some (rz, σz) → W p l e rm_fMM_sides s m args below meth c H locs 0 0 (MQ below (va_Qi (fun a u => a = rz ∧ u = σz) (poW (wM X) (tM X) (aM X) X sz) (aA (aM X) sz)) args s 0 0 (aA (aM X) sz)) (F0 m 32 ls []) := by
        intro n
        induction n with
        | zero =>
          intro x13 x14 σ15 H locs ls Z hl h
          exact nomatch (show (none : Option (Int32 × sT)) = some _ from h)
        | succ n16 ih19 =>
          intro x13 x14 σ15 H locs ls Z hl h10
          unfold fMM_sides_L32 at h10
          refine lv_iload_n hx hb dX12_sides_32 rfl (lv_at hl 2 rfl) ?_
          refine lv_aload_n hx hb dX12_sides_33 rfl (lv_at hl 0 rfl) ?_
          obtain ⟨r18, hc16, h11⟩ := db1_s h10
          clear h10
          refine cV_I [] [.int x14] B mx_yX12_many (c_fMM_many l X _ σ15 r18 hc16) kl_RX12_284 mi_yX12_many (rv_33 _ _) hcl_12 Z hl rfl rfl ⟨Nat.le_of_ble_eq_true rfl, Nat.le_of_ble_eq_true rfl⟩ rfl rfl (Nat.le_of_ble_eq_true rfl) dX12_sides_34 (fun H locs Z => ?_)
          clear hc16
          refine lv_icmp_ge (tgt := 62) hx hb dX12_sides_37 (by decide) (fun c19 => ?_) (fun c19 => ?_)
          · have h12 := dit h11 c19
            clear h11
            refine lv_iload_n hx hb dX12_sides_62 rfl (lv_at hl 1 rfl) ?_
            exact reI B Z rfl hz h12 dX12_sides_63
          · have h13 := dif h11 c19
            clear h11
            refine lv_iload_n hx hb dX12_sides_40 rfl (lv_at hl 1 rfl) ?_
            refine lv_aload_n hx hb dX12_sides_41 rfl (lv_at hl 0 rfl) ?_
            refine lv_iload_n hx hb dX12_sides_42 rfl (lv_at hl 2 rfl) ?_
            obtain ⟨r21, σ22, hc19, h14⟩ := db2_s h13
            clear h13
            refine cV_I [.int x14] [.int x13] B mx_yX12_canSides (c_fMM_canSides l X _ x14 σ15 r21 σ22 hc19) kl_RX12_287 mi_yX12_canSides (rv_33 _ _) hcl_12 Z hl rfl rfl ⟨Nat.le_of_ble_eq_true rfl, Nat.le_of_ble_eq_true rfl⟩ rfl rfl (Nat.le_of_ble_eq_true rfl) dX12_sides_43 (fun H locs Z => ?_)
            clear hc19
            refine lv_if_eq (tgt := 53) hx hb dX12_sides_46 (by decide) (fun c23 => ?_) (fun c23 => ?_)
            · have h15 := dit h14 c23
              clear h14
              refine lv_iconst (v := (0 : Int32)) hx hb dX12_sides_53 (by decide) ?_
              refine lv_iadd hx hb dX12_sides_54 ?_
              refine lv_topi (fun x24 ex24 => ?_)
              have h16 := dlt_e ex24 h15
              clear ex24 h15
              refine lv_istore_n (lv' := [(2, .int x24), (0, .ref (X.2.1 33)), (3, .int x14)]) hx hb dX12_sides_55 rfl hl (by decide) rfl (fun ls hl => ?_)
              refine lv_iinc (v := x14 + (1 : Int32)) (lv' := [(3, .int (x14 + (1 : Int32))), (2, .int x24), (0, .ref (X.2.1 33))]) hx hb dX12_sides_56 hl (k := 2) rfl (by rfl) (by decide) rfl (fun ls hl => ?_)
              refine lv_goto (tgt := 32) hx hb dX12_sides_59 (by decide) ?_
              exact ih19 x24 (x14 + (1 : Int32)) σ22 _ _ _ Z (lv_sub hl [2, 1, 0] rfl) h16
            · have h17 := dif h14 c23
              clear h14
              refine lv_iconst (v := (1 : Int32)) hx hb dX12_sides_49 (by decide) ?_
              refine lv_goto (tgt := 54) hx hb dX12_sides_50 (by decide) ?_
              refine lv_iadd hx hb dX12_sides_54 ?_
              refine lv_topi (fun x25 ex25 => ?_)
              have h18 := dlt_e ex25 h17
              clear ex25 h17
              refine lv_istore_n (lv' := [(2, .int x25), (0, .ref (X.2.1 33)), (3, .int x14)]) hx hb dX12_sides_55 rfl hl (by decide) rfl (fun ls hl => ?_)
              refine lv_iinc (v := x14 + (1 : Int32)) (lv' := [(3, .int (x14 + (1 : Int32))), (2, .int x25), (0, .ref (X.2.1 33))]) hx hb dX12_sides_56 hl (k := 2) rfl (by rfl) (by decide) rfl (fun ls hl => ?_)
              refine lv_goto (tgt := 32) hx hb dX12_sides_59 (by decide) ?_
              exact ih19 x25 (x14 + (1 : Int32)) σ22 _ _ _ Z (lv_sub hl [2, 1, 0] rfl) h18
      exact lL32 FU (0 : Int32) (0 : Int32) σ12 _ _ _ Z (lv_sub hl [2, 1, 0] rfl) h9
    · have h19 := dif h7 c10
      clear h7
      exact kJ3  _ _ _ Z (lv_sub hl [0] rfl) h19
theorem dX12_says_0 : decode cX12_says 0 = .ok (.aload_n 0, 1) := by decide +kernel
theorem dX12_says_1 : decode cX12_says 1 = .ok (.getfield 47, 3) := by decide +kernel
theorem dX12_says_4 : decode cX12_says 4 = .ok (.aload_n 0, 1) := by decide +kernel
theorem dX12_says_5 : decode cX12_says 5 = .ok (.getfield 300, 3) := by decide +kernel
theorem dX12_says_8 : decode cX12_says 8 = .ok (.iload_n 1, 1) := by decide +kernel
theorem dX12_says_9 : decode cX12_says 9 = .ok (.iastore, 1) := by decide +kernel
theorem dX12_says_10 : decode cX12_says 10 = .ok (.aload_n 0, 1) := by decide +kernel
theorem dX12_says_11 : decode cX12_says 11 = .ok (.dup, 1) := by decide +kernel
theorem dX12_says_12 : decode cX12_says 12 = .ok (.getfield 300, 3) := by decide +kernel
theorem dX12_says_15 : decode cX12_says 15 = .ok (.iconst 1, 1) := by decide +kernel
theorem dX12_says_16 : decode cX12_says 16 = .ok (.iadd, 1) := by decide +kernel
theorem dX12_says_17 : decode cX12_says 17 = .ok (.putfield 300, 3) := by decide +kernel
theorem dX12_says_20 : decode cX12_says 20 = .ok (.return_, 1) := by decide +kernel
def rm_fMM_says : Room := { frames := 1, cells := 0, slots := 0, locals := 60 }
set_option maxHeartbeats 4000000 in
set_option maxRecDepth 100000 in
theorem c_fMM_says (l : Launch) (X : eX) (sz : Nat) (a1 : Int32) (σ : sT) (σz : sT) (h0 : fMM_says a1 σ = some σz) : ctV l yX12_says cX12_says 2 none rm_fMM_says [.ref (X.2.1 33), .int a1] (wM X) (tM X) (aM X) X sz σ σz := by
  refine ct_of (by decide +kernel) (Nat.le_of_ble_eq_true rfl) ?_
  intro p e s m args below meth c ls hz B hl Z
  have B : Bd p s m args meth c RX12 cX12_says 2 none := B
  have hl : lv_has ls 2 [(0, .ref (X.2.1 33)), (1, .int a1)] := hl
  have hx := B.1
  have hb := B.2.1
  unfold fMM_says at h0
  refine lv_aload_n hx hb dX12_says_0 rfl (lv_at hl 0 rfl) ?_
  refine g_33_28 B Z kf_RX12_47 dX12_says_1 ?_
  refine lv_aload_n hx hb dX12_says_4 rfl (lv_at hl 0 rfl) ?_
  refine g_33_29 B Z kf_RX12_300 dX12_says_5 ?_
  refine lv_iload_n hx hb dX12_says_8 rfl (lv_at hl 1 rfl) ?_
  obtain ⟨z1, h1⟩ := dck_s h0
  clear h0
  refine st_46 B Z z1 dX12_says_9 (fun H locs Z => ?_)
  obtain ⟨σ2, eσ2, h2⟩ := dlt_s h1
  clear h1
  replace Z := Wd.eq eσ2 Z
  clear eσ2
  refine lv_aload_n hx hb dX12_says_10 rfl (lv_at hl 0 rfl) ?_
  refine lv_dup hx hb dX12_says_11 rfl ?_
  refine g_33_29 B Z kf_RX12_300 dX12_says_12 ?_
  refine lv_iconst (v := (1 : Int32)) hx hb dX12_says_15 (by decide) ?_
  refine lv_iadd hx hb dX12_says_16 ?_
  refine s_33_29 B Z kf_RX12_300 dX12_says_17 (fun H locs Z => ?_)
  obtain ⟨σ3, eσ3, h3⟩ := dlt_s h2
  clear h2
  replace Z := Wd.eq eσ3 Z
  clear eσ3
  exact reV B Z hz h3 dX12_says_20
theorem dX12_saysWaiting_0 : decode cX12_saysWaiting 0 = .ok (.aload_n 0, 1) := by decide +kernel
theorem dX12_saysWaiting_1 : decode cX12_saysWaiting 1 = .ok (.dup, 1) := by decide +kernel
theorem dX12_saysWaiting_2 : decode cX12_saysWaiting 2 = .ok (.getfield 303, 3) := by decide +kernel
theorem dX12_saysWaiting_5 : decode cX12_saysWaiting 5 = .ok (.iconst 1, 1) := by decide +kernel
theorem dX12_saysWaiting_6 : decode cX12_saysWaiting 6 = .ok (.isub, 1) := by decide +kernel
theorem dX12_saysWaiting_7 : decode cX12_saysWaiting 7 = .ok (.putfield 303, 3) := by decide +kernel
theorem dX12_saysWaiting_10 : decode cX12_saysWaiting 10 = .ok (.aload_n 0, 1) := by decide +kernel
theorem dX12_saysWaiting_11 : decode cX12_saysWaiting 11 = .ok (.aload_n 0, 1) := by decide +kernel
theorem dX12_saysWaiting_12 : decode cX12_saysWaiting 12 = .ok (.getfield 50, 3) := by decide +kernel
theorem dX12_saysWaiting_15 : decode cX12_saysWaiting 15 = .ok (.aload_n 0, 1) := by decide +kernel
theorem dX12_saysWaiting_16 : decode cX12_saysWaiting 16 = .ok (.getfield 303, 3) := by decide +kernel
theorem dX12_saysWaiting_19 : decode cX12_saysWaiting 19 = .ok (.iaload, 1) := by decide +kernel
theorem dX12_saysWaiting_20 : decode cX12_saysWaiting 20 = .ok (.ineg, 1) := by decide +kernel
theorem dX12_saysWaiting_21 : decode cX12_saysWaiting 21 = .ok (.invokevirtual 306, 3) := by decide +kernel
theorem dX12_saysWaiting_24 : decode cX12_saysWaiting 24 = .ok (.return_, 1) := by decide +kernel
def rm_fMM_saysWaiting : Room := { frames := 2, cells := 0, slots := 0, locals := 81 }
set_option maxHeartbeats 4000000 in
set_option maxRecDepth 100000 in
theorem c_fMM_saysWaiting (l : Launch) (X : eX) (sz : Nat)  (σ : sT) (σz : sT) (h0 : fMM_saysWaiting σ = some σz) : ctV l yX12_saysWaiting cX12_saysWaiting 1 none rm_fMM_saysWaiting [.ref (X.2.1 33)] (wM X) (tM X) (aM X) X sz σ σz := by
  refine ct_of (by decide +kernel) (Nat.le_of_ble_eq_true rfl) ?_
  intro p e s m args below meth c ls hz B hl Z
  have B : Bd p s m args meth c RX12 cX12_saysWaiting 1 none := B
  have hl : lv_has ls 1 [(0, .ref (X.2.1 33))] := hl
  have hx := B.1
  have hb := B.2.1
  unfold fMM_saysWaiting at h0
  refine lv_aload_n hx hb dX12_saysWaiting_0 rfl (lv_at hl 0 rfl) ?_
  refine lv_dup hx hb dX12_saysWaiting_1 rfl ?_
  refine g_33_31 B Z kf_RX12_303 dX12_saysWaiting_2 ?_
  refine lv_iconst (v := (1 : Int32)) hx hb dX12_saysWaiting_5 (by decide) ?_
  refine lv_isub hx hb dX12_saysWaiting_6 ?_
  refine s_33_31 B Z kf_RX12_303 dX12_saysWaiting_7 (fun H locs Z => ?_)
  obtain ⟨σ1, eσ1, h1⟩ := dlt_s h0
  clear h0
  replace Z := Wd.eq eσ1 Z
  clear eσ1
  refine lv_aload_n hx hb dX12_saysWaiting_10 rfl (lv_at hl 0 rfl) ?_
  refine lv_aload_n hx hb dX12_saysWaiting_11 rfl (lv_at hl 0 rfl) ?_
  refine g_33_30 B Z kf_RX12_50 dX12_saysWaiting_12 ?_
  refine lv_aload_n hx hb dX12_saysWaiting_15 rfl (lv_at hl 0 rfl) ?_
  refine g_33_31 B Z kf_RX12_303 dX12_saysWaiting_16 ?_
  obtain ⟨z2, h2⟩ := dck_s h1
  clear h1
  refine ld_47 B Z z2 dX12_saysWaiting_19 ?_
  refine lv_ineg hx hb dX12_saysWaiting_20 ?_
  obtain ⟨σ4, hc2, h3⟩ := db1_s h2
  clear h2
  refine cV_V [.int (-(σ1.1 47 (σ1.1 33 31).toNatClampNeg))] [] B mx_yX12_says (c_fMM_says l X _ (-(σ1.1 47 (σ1.1 33 31).toNatClampNeg)) σ1 σ4 hc2) kl_RX12_306 mi_yX12_says (rv_33 _ _) hcl_12 Z hl rfl rfl ⟨Nat.le_of_ble_eq_true rfl, Nat.le_of_ble_eq_true rfl⟩ rfl rfl (Nat.le_of_ble_eq_true rfl) dX12_saysWaiting_21 (fun H locs Z => ?_)
  clear hc2
  exact reV B Z hz h3 dX12_saysWaiting_24
theorem dX12_here_0 : decode cX12_here 0 = .ok (.aload_n 0, 1) := by decide +kernel
theorem dX12_here_1 : decode cX12_here 1 = .ok (.getfield 290, 3) := by decide +kernel
theorem dX12_here_4 : decode cX12_here 4 = .ok (.aload_n 0, 1) := by decide +kernel
theorem dX12_here_5 : decode cX12_here 5 = .ok (.getfield 293, 3) := by decide +kernel
theorem dX12_here_8 : decode cX12_here 8 = .ok (.if_icmp .ge 30, 3) := by decide +kernel
theorem dX12_here_11 : decode cX12_here 11 = .ok (.aload_n 0, 1) := by decide +kernel
theorem dX12_here_12 : decode cX12_here 12 = .ok (.getfield 44, 3) := by decide +kernel
theorem dX12_here_15 : decode cX12_here 15 = .ok (.aload_n 0, 1) := by decide +kernel
theorem dX12_here_16 : decode cX12_here 16 = .ok (.getfield 290, 3) := by decide +kernel
theorem dX12_here_19 : decode cX12_here 19 = .ok (.iaload, 1) := by decide +kernel
theorem dX12_here_20 : decode cX12_here 20 = .ok (.bipush 32, 2) := by decide +kernel
theorem dX12_here_22 : decode cX12_here 22 = .ok (.if_icmp .ne 16, 3) := by decide +kernel
theorem dX12_here_25 : decode cX12_here 25 = .ok (.aload_n 0, 1) := by decide +kernel
theorem dX12_here_26 : decode cX12_here 26 = .ok (.dup, 1) := by decide +kernel
theorem dX12_here_27 : decode cX12_here 27 = .ok (.getfield 290, 3) := by decide +kernel
theorem dX12_here_30 : decode cX12_here 30 = .ok (.iconst 1, 1) := by decide +kernel
theorem dX12_here_31 : decode cX12_here 31 = .ok (.iadd, 1) := by decide +kernel
theorem dX12_here_32 : decode cX12_here 32 = .ok (.putfield 290, 3) := by decide +kernel
theorem dX12_here_35 : decode cX12_here 35 = .ok (.goto (-35), 3) := by decide +kernel
theorem dX12_here_38 : decode cX12_here 38 = .ok (.aload_n 0, 1) := by decide +kernel
theorem dX12_here_39 : decode cX12_here 39 = .ok (.getfield 290, 3) := by decide +kernel
theorem dX12_here_42 : decode cX12_here 42 = .ok (.aload_n 0, 1) := by decide +kernel
theorem dX12_here_43 : decode cX12_here 43 = .ok (.getfield 293, 3) := by decide +kernel
theorem dX12_here_46 : decode cX12_here 46 = .ok (.if_icmp .ge 15, 3) := by decide +kernel
theorem dX12_here_49 : decode cX12_here 49 = .ok (.aload_n 0, 1) := by decide +kernel
theorem dX12_here_50 : decode cX12_here 50 = .ok (.getfield 44, 3) := by decide +kernel
theorem dX12_here_53 : decode cX12_here 53 = .ok (.aload_n 0, 1) := by decide +kernel
theorem dX12_here_54 : decode cX12_here 54 = .ok (.getfield 290, 3) := by decide +kernel
theorem dX12_here_57 : decode cX12_here 57 = .ok (.iaload, 1) := by decide +kernel
theorem dX12_here_58 : decode cX12_here 58 = .ok (.goto 4, 3) := by decide +kernel
theorem dX12_here_61 : decode cX12_here 61 = .ok (.iconst (-1), 1) := by decide +kernel
theorem dX12_here_62 : decode cX12_here 62 = .ok (.ireturn, 1) := by decide +kernel
def rm_fMM_here : Room := { frames := 1, cells := 0, slots := 0, locals := 60 }
set_option maxHeartbeats 4000000 in
set_option maxRecDepth 100000 in
theorem c_fMM_here (l : Launch) (X : eX) (sz : Nat)  (σ : sT) (rz : Int32) (σz : sT) (h0 : fMM_here σ = some (rz, σz)) : ctI l yX12_here cX12_here 1 (some .int) rm_fMM_here [.ref (X.2.1 33)] (wM X) (tM X) (aM X) X sz σ rz σz := by
  refine ct_of (by decide +kernel) (Nat.le_of_ble_eq_true rfl) ?_
  intro p e s m args below meth c ls hz B hl Z
  have B : Bd p s m args meth c RX12 cX12_here 1 (some .int) := B
  have hl : lv_has ls 1 [(0, .ref (X.2.1 33))] := hl
  have hx := B.1
  have hb := B.2.1
  unfold fMM_here at h0
  obtain ⟨K3, eK3, h5⟩ := dlt_s h0
  clear h0
  have kK3 : ∀ (σ2 : sT) (H : Heap) (locs : List Loc) (ls : Array Slot), Wd (wM X) (tM X) (aM X) X s σ2 H locs → lv_has ls 1 [(0, .ref (X.2.1 33))] → K3 σ2 = some (rz, σz) → W p l e rm_fMM_here s m args below meth c H locs 0 0 (MQ below (va_Qi (fun a u => a = rz ∧ u = σz) (poW (wM X) (tM X) (aM X) X sz) (aA (aM X) sz)) args s 0 0 (aA (aM X) sz)) (F0 m 38 ls []) := by
    intro σ2 H locs ls Z hl h1
    rw [eK3] at h1
    refine lv_aload_n hx hb dX12_here_38 rfl (lv_at hl 0 rfl) ?_
    refine g_33_27 B Z kf_RX12_290 dX12_here_39 ?_
    refine lv_aload_n hx hb dX12_here_42 rfl (lv_at hl 0 rfl) ?_
    refine g_33_26 B Z kf_RX12_293 dX12_here_43 ?_
    refine lv_icmp_ge (tgt := 61) hx hb dX12_here_46 (by decide) (fun c4 => ?_) (fun c4 => ?_)
    · have h2 := dit h1 c4
      clear h1
      refine lv_iconst (v := (-1 : Int32)) hx hb dX12_here_61 (by decide) ?_
      exact reI B Z rfl hz h2 dX12_here_62
    · have h3 := dif h1 c4
      clear h1
      refine lv_aload_n hx hb dX12_here_49 rfl (lv_at hl 0 rfl) ?_
      refine g_33_25 B Z kf_RX12_44 dX12_here_50 ?_
      refine lv_aload_n hx hb dX12_here_53 rfl (lv_at hl 0 rfl) ?_
      refine g_33_27 B Z kf_RX12_290 dX12_here_54 ?_
      obtain ⟨z5, h4⟩ := dck_s h3
      clear h3
      refine ld_45 B Z z5 dX12_here_57 ?_
      refine lv_goto (tgt := 62) hx hb dX12_here_58 (by decide) ?_
      exact reI B Z rfl hz h4 dX12_here_62
  clear eK3
  have lL0 : ∀ (n : Nat), ∀ (σ1 : sT) (H : Heap) (locs : List Loc) (ls : Array Slot), Wd (wM X) (tM X) (aM X) X s σ1 H locs → lv_has ls 1 [(0, .ref (X.2.1 33))] → fMM_here_L0 K3 n σ1 = some (rz, σz) → W p l e rm_fMM_here s m args below meth c H locs 0 0 (MQ below (va_Qi (fun a u => a = rz ∧ u = σz) (poW (wM X) (tM X) (aM X) X sz) (aA (aM X) sz)) args s 0 0 (aA (aM X) sz)) (F0 m 0 ls []) := by
    intro n
    induction n with
    | zero =>
      intro σ1 H locs ls Z hl h
      exact nomatch (show (none : Option (Int32 × sT)) = some _ from h)
    | succ n6 ih0 =>
      intro σ1 H locs ls Z hl h6
      unfold fMM_here_L0 at h6
      refine lv_aload_n hx hb dX12_here_0 rfl (lv_at hl 0 rfl) ?_
      refine g_33_27 B Z kf_RX12_290 dX12_here_1 ?_
      refine lv_aload_n hx hb dX12_here_4 rfl (lv_at hl 0 rfl) ?_
      refine g_33_26 B Z kf_RX12_293 dX12_here_5 ?_
      refine lv_icmp_ge (tgt := 38) hx hb dX12_here_8 (by decide) (fun c7 => ?_) (fun c7 => ?_)
      · have h7 := dit h6 c7
        clear h6
        exact kK3 σ1 _ _ _ Z (lv_sub hl [0] rfl) h7
      · have h8 := dif h6 c7
        clear h6
        refine lv_aload_n hx hb dX12_here_11 rfl (lv_at hl 0 rfl) ?_
        refine g_33_25 B Z kf_RX12_44 dX12_here_12 ?_
        refine lv_aload_n hx hb dX12_here_15 rfl (lv_at hl 0 rfl) ?_
        refine g_33_27 B Z kf_RX12_290 dX12_here_16 ?_
        obtain ⟨z8, h9⟩ := dck_s h8
        clear h8
        refine ld_45 B Z z8 dX12_here_19 ?_
        refine lv_bipush (v := (32 : Int32)) hx hb dX12_here_20 (by decide) ?_
        refine lv_icmp_ne (tgt := 38) hx hb dX12_here_22 (by decide) (fun c9 => ?_) (fun c9 => ?_)
        · have h10 := dif h9 c9
          clear h9
          exact kK3 σ1 _ _ _ Z (lv_sub hl [0] rfl) h10
        · have h11 := dit h9 c9
          clear h9
          refine lv_aload_n hx hb dX12_here_25 rfl (lv_at hl 0 rfl) ?_
          refine lv_dup hx hb dX12_here_26 rfl ?_
          refine g_33_27 B Z kf_RX12_290 dX12_here_27 ?_
          refine lv_iconst (v := (1 : Int32)) hx hb dX12_here_30 (by decide) ?_
          refine lv_iadd hx hb dX12_here_31 ?_
          refine s_33_27 B Z kf_RX12_290 dX12_here_32 (fun H locs Z => ?_)
          obtain ⟨σ10, eσ10, h12⟩ := dlt_s h11
          clear h11
          replace Z := Wd.eq eσ10 Z
          clear eσ10
          refine lv_goto (tgt := 0) hx hb dX12_here_35 (by decide) ?_
          exact ih0 σ10 _ _ _ Z (lv_sub hl [0] rfl) h12
  exact lL0 FU σ _ _ _ Z (lv_sub hl [0] rfl) h5
theorem dX12_waitsFor_0 : decode cX12_waitsFor 0 = .ok (.aload_n 0, 1) := by decide +kernel
theorem dX12_waitsFor_1 : decode cX12_waitsFor 1 = .ok (.getfield 50, 3) := by decide +kernel
theorem dX12_waitsFor_4 : decode cX12_waitsFor 4 = .ok (.aload_n 0, 1) := by decide +kernel
theorem dX12_waitsFor_5 : decode cX12_waitsFor 5 = .ok (.getfield 303, 3) := by decide +kernel
theorem dX12_waitsFor_8 : decode cX12_waitsFor 8 = .ok (.iload_n 1, 1) := by decide +kernel
theorem dX12_waitsFor_9 : decode cX12_waitsFor 9 = .ok (.iastore, 1) := by decide +kernel
theorem dX12_waitsFor_10 : decode cX12_waitsFor 10 = .ok (.aload_n 0, 1) := by decide +kernel
theorem dX12_waitsFor_11 : decode cX12_waitsFor 11 = .ok (.dup, 1) := by decide +kernel
theorem dX12_waitsFor_12 : decode cX12_waitsFor 12 = .ok (.getfield 303, 3) := by decide +kernel
theorem dX12_waitsFor_15 : decode cX12_waitsFor 15 = .ok (.iconst 1, 1) := by decide +kernel
theorem dX12_waitsFor_16 : decode cX12_waitsFor 16 = .ok (.iadd, 1) := by decide +kernel
theorem dX12_waitsFor_17 : decode cX12_waitsFor 17 = .ok (.putfield 303, 3) := by decide +kernel
theorem dX12_waitsFor_20 : decode cX12_waitsFor 20 = .ok (.return_, 1) := by decide +kernel
def rm_fMM_waitsFor : Room := { frames := 1, cells := 0, slots := 0, locals := 60 }
set_option maxHeartbeats 4000000 in
set_option maxRecDepth 100000 in
theorem c_fMM_waitsFor (l : Launch) (X : eX) (sz : Nat) (a1 : Int32) (σ : sT) (σz : sT) (h0 : fMM_waitsFor a1 σ = some σz) : ctV l yX12_waitsFor cX12_waitsFor 2 none rm_fMM_waitsFor [.ref (X.2.1 33), .int a1] (wM X) (tM X) (aM X) X sz σ σz := by
  refine ct_of (by decide +kernel) (Nat.le_of_ble_eq_true rfl) ?_
  intro p e s m args below meth c ls hz B hl Z
  have B : Bd p s m args meth c RX12 cX12_waitsFor 2 none := B
  have hl : lv_has ls 2 [(0, .ref (X.2.1 33)), (1, .int a1)] := hl
  have hx := B.1
  have hb := B.2.1
  unfold fMM_waitsFor at h0
  refine lv_aload_n hx hb dX12_waitsFor_0 rfl (lv_at hl 0 rfl) ?_
  refine g_33_30 B Z kf_RX12_50 dX12_waitsFor_1 ?_
  refine lv_aload_n hx hb dX12_waitsFor_4 rfl (lv_at hl 0 rfl) ?_
  refine g_33_31 B Z kf_RX12_303 dX12_waitsFor_5 ?_
  refine lv_iload_n hx hb dX12_waitsFor_8 rfl (lv_at hl 1 rfl) ?_
  obtain ⟨z1, h1⟩ := dck_s h0
  clear h0
  refine st_47 B Z z1 dX12_waitsFor_9 (fun H locs Z => ?_)
  obtain ⟨σ2, eσ2, h2⟩ := dlt_s h1
  clear h1
  replace Z := Wd.eq eσ2 Z
  clear eσ2
  refine lv_aload_n hx hb dX12_waitsFor_10 rfl (lv_at hl 0 rfl) ?_
  refine lv_dup hx hb dX12_waitsFor_11 rfl ?_
  refine g_33_31 B Z kf_RX12_303 dX12_waitsFor_12 ?_
  refine lv_iconst (v := (1 : Int32)) hx hb dX12_waitsFor_15 (by decide) ?_
  refine lv_iadd hx hb dX12_waitsFor_16 ?_
  refine s_33_31 B Z kf_RX12_303 dX12_waitsFor_17 (fun H locs Z => ?_)
  obtain ⟨σ3, eσ3, h3⟩ := dlt_s h2
  clear h2
  replace Z := Wd.eq eσ3 Z
  clear eσ3
  exact reV B Z hz h3 dX12_waitsFor_20
