theorem dX12_bound_0 : decode cX12_bound 0 = .ok (.aload_n 0, 1) := by decide +kernel
theorem dX12_bound_1 : decode cX12_bound 1 = .ok (.iload_n 1, 1) := by decide +kernel
theorem dX12_bound_2 : decode cX12_bound 2 = .ok (.invokevirtual 183, 3) := by decide +kernel
theorem dX12_bound_5 : decode cX12_bound 5 = .ok (.ifCond .eq 38, 3) := by decide +kernel
theorem dX12_bound_8 : decode cX12_bound 8 = .ok (.iload_n 2, 1) := by decide +kernel
theorem dX12_bound_9 : decode cX12_bound 9 = .ok (.i2l, 1) := by decide +kernel
theorem dX12_bound_10 : decode cX12_bound 10 = .ok (.lconst 0, 1) := by decide +kernel
theorem dX12_bound_11 : decode cX12_bound 11 = .ok (.ldc2_w 162, 3) := by decide +kernel
theorem dX12_bound_14 : decode cX12_bound 14 = .ok (.invokestatic 68, 3) := by decide +kernel
theorem dX12_bound_17 : decode cX12_bound 17 = .ok (.ifCond .eq 26, 3) := by decide +kernel
theorem dX12_bound_20 : decode cX12_bound 20 = .ok (.iload_n 3, 1) := by decide +kernel
theorem dX12_bound_21 : decode cX12_bound 21 = .ok (.i2l, 1) := by decide +kernel
theorem dX12_bound_22 : decode cX12_bound 22 = .ok (.lconst 0, 1) := by decide +kernel
theorem dX12_bound_23 : decode cX12_bound 23 = .ok (.lconst 1, 1) := by decide +kernel
theorem dX12_bound_24 : decode cX12_bound 24 = .ok (.invokestatic 68, 3) := by decide +kernel
theorem dX12_bound_27 : decode cX12_bound 27 = .ok (.ifCond .eq 16, 3) := by decide +kernel
theorem dX12_bound_30 : decode cX12_bound 30 = .ok (.iload 4, 2) := by decide +kernel
theorem dX12_bound_32 : decode cX12_bound 32 = .ok (.i2l, 1) := by decide +kernel
theorem dX12_bound_33 : decode cX12_bound 33 = .ok (.lconst 0, 1) := by decide +kernel
theorem dX12_bound_34 : decode cX12_bound 34 = .ok (.ldc2_w 162, 3) := by decide +kernel
theorem dX12_bound_37 : decode cX12_bound 37 = .ok (.invokestatic 68, 3) := by decide +kernel
theorem dX12_bound_40 : decode cX12_bound 40 = .ok (.ifCond .ne 11, 3) := by decide +kernel
theorem dX12_bound_43 : decode cX12_bound 43 = .ok (.aload_n 0, 1) := by decide +kernel
theorem dX12_bound_44 : decode cX12_bound 44 = .ok (.ldc 63, 2) := by decide +kernel
theorem dX12_bound_46 : decode cX12_bound 46 = .ok (.invokevirtual 168, 3) := by decide +kernel
theorem dX12_bound_49 : decode cX12_bound 49 = .ok (.i2l, 1) := by decide +kernel
theorem dX12_bound_50 : decode cX12_bound 50 = .ok (.lreturn, 1) := by decide +kernel
theorem dX12_bound_51 : decode cX12_bound 51 = .ok (.aload_n 0, 1) := by decide +kernel
theorem dX12_bound_52 : decode cX12_bound 52 = .ok (.iload_n 1, 1) := by decide +kernel
theorem dX12_bound_53 : decode cX12_bound 53 = .ok (.invokevirtual 147, 3) := by decide +kernel
theorem dX12_bound_56 : decode cX12_bound 56 = .ok (.aload_n 0, 1) := by decide +kernel
theorem dX12_bound_57 : decode cX12_bound 57 = .ok (.iload_n 2, 1) := by decide +kernel
theorem dX12_bound_58 : decode cX12_bound 58 = .ok (.invokevirtual 143, 3) := by decide +kernel
theorem dX12_bound_61 : decode cX12_bound 61 = .ok (.aload_n 0, 1) := by decide +kernel
theorem dX12_bound_62 : decode cX12_bound 62 = .ok (.getfield 110, 3) := by decide +kernel
theorem dX12_bound_65 : decode cX12_bound 65 = .ok (.ifCond .ne 11, 3) := by decide +kernel
theorem dX12_bound_68 : decode cX12_bound 68 = .ok (.aload_n 0, 1) := by decide +kernel
theorem dX12_bound_69 : decode cX12_bound 69 = .ok (.ldc 201, 2) := by decide +kernel
theorem dX12_bound_71 : decode cX12_bound 71 = .ok (.invokevirtual 168, 3) := by decide +kernel
theorem dX12_bound_74 : decode cX12_bound 74 = .ok (.i2l, 1) := by decide +kernel
theorem dX12_bound_75 : decode cX12_bound 75 = .ok (.lreturn, 1) := by decide +kernel
theorem dX12_bound_76 : decode cX12_bound 76 = .ok (.iload_n 3, 1) := by decide +kernel
theorem dX12_bound_77 : decode cX12_bound 77 = .ok (.iconst 1, 1) := by decide +kernel
theorem dX12_bound_78 : decode cX12_bound 78 = .ok (.if_icmp .ne 10, 3) := by decide +kernel
theorem dX12_bound_81 : decode cX12_bound 81 = .ok (.aload_n 0, 1) := by decide +kernel
theorem dX12_bound_82 : decode cX12_bound 82 = .ok (.getfield 120, 3) := by decide +kernel
theorem dX12_bound_85 : decode cX12_bound 85 = .ok (.goto 7, 3) := by decide +kernel
theorem dX12_bound_88 : decode cX12_bound 88 = .ok (.aload_n 0, 1) := by decide +kernel
theorem dX12_bound_89 : decode cX12_bound 89 = .ok (.getfield 129, 3) := by decide +kernel
theorem dX12_bound_92 : decode cX12_bound 92 = .ok (.lstore 5, 2) := by decide +kernel
theorem dX12_bound_94 : decode cX12_bound 94 = .ok (.iload_n 3, 1) := by decide +kernel
theorem dX12_bound_95 : decode cX12_bound 95 = .ok (.iconst 1, 1) := by decide +kernel
theorem dX12_bound_96 : decode cX12_bound 96 = .ok (.if_icmp .ne 10, 3) := by decide +kernel
theorem dX12_bound_99 : decode cX12_bound 99 = .ok (.aload_n 0, 1) := by decide +kernel
theorem dX12_bound_100 : decode cX12_bound 100 = .ok (.getfield 114, 3) := by decide +kernel
theorem dX12_bound_103 : decode cX12_bound 103 = .ok (.goto 7, 3) := by decide +kernel
theorem dX12_bound_106 : decode cX12_bound 106 = .ok (.aload_n 0, 1) := by decide +kernel
theorem dX12_bound_107 : decode cX12_bound 107 = .ok (.getfield 126, 3) := by decide +kernel
theorem dX12_bound_110 : decode cX12_bound 110 = .ok (.lstore 7, 2) := by decide +kernel
theorem dX12_bound_112 : decode cX12_bound 112 = .ok (.lload 7, 2) := by decide +kernel
theorem dX12_bound_114 : decode cX12_bound 114 = .ok (.lconst 0, 1) := by decide +kernel
theorem dX12_bound_115 : decode cX12_bound 115 = .ok (.lcmp, 1) := by decide +kernel
theorem dX12_bound_116 : decode cX12_bound 116 = .ok (.ifCond .ne 7, 3) := by decide +kernel
theorem dX12_bound_119 : decode cX12_bound 119 = .ok (.ldc2_w 202, 3) := by decide +kernel
theorem dX12_bound_122 : decode cX12_bound 122 = .ok (.lreturn, 1) := by decide +kernel
theorem dX12_bound_123 : decode cX12_bound 123 = .ok (.lload 5, 2) := by decide +kernel
theorem dX12_bound_125 : decode cX12_bound 125 = .ok (.lload 7, 2) := by decide +kernel
theorem dX12_bound_127 : decode cX12_bound 127 = .ok (.invokestatic 204, 3) := by decide +kernel
theorem dX12_bound_130 : decode cX12_bound 130 = .ok (.lstore 9, 2) := by decide +kernel
theorem dX12_bound_132 : decode cX12_bound 132 = .ok (.iload_n 3, 1) := by decide +kernel
theorem dX12_bound_133 : decode cX12_bound 133 = .ok (.iconst 1, 1) := by decide +kernel
theorem dX12_bound_134 : decode cX12_bound 134 = .ok (.if_icmp .ne 10, 3) := by decide +kernel
theorem dX12_bound_137 : decode cX12_bound 137 = .ok (.aload_n 0, 1) := by decide +kernel
theorem dX12_bound_138 : decode cX12_bound 138 = .ok (.getfield 123, 3) := by decide +kernel
theorem dX12_bound_141 : decode cX12_bound 141 = .ok (.goto 7, 3) := by decide +kernel
theorem dX12_bound_144 : decode cX12_bound 144 = .ok (.aload_n 0, 1) := by decide +kernel
theorem dX12_bound_145 : decode cX12_bound 145 = .ok (.getfield 132, 3) := by decide +kernel
theorem dX12_bound_148 : decode cX12_bound 148 = .ok (.istore 11, 2) := by decide +kernel
theorem dX12_bound_150 : decode cX12_bound 150 = .ok (.iload 4, 2) := by decide +kernel
theorem dX12_bound_152 : decode cX12_bound 152 = .ok (.ifCond .ne 11, 3) := by decide +kernel
theorem dX12_bound_155 : decode cX12_bound 155 = .ok (.lload 5, 2) := by decide +kernel
theorem dX12_bound_157 : decode cX12_bound 157 = .ok (.lload 9, 2) := by decide +kernel
theorem dX12_bound_159 : decode cX12_bound 159 = .ok (.ldiv, 1) := by decide +kernel
theorem dX12_bound_160 : decode cX12_bound 160 = .ok (.goto 27, 3) := by decide +kernel
theorem dX12_bound_163 : decode cX12_bound 163 = .ok (.iload 4, 2) := by decide +kernel
theorem dX12_bound_165 : decode cX12_bound 165 = .ok (.iconst 1, 1) := by decide +kernel
theorem dX12_bound_166 : decode cX12_bound 166 = .ok (.if_icmp .ne 11, 3) := by decide +kernel
theorem dX12_bound_169 : decode cX12_bound 169 = .ok (.lload 7, 2) := by decide +kernel
theorem dX12_bound_171 : decode cX12_bound 171 = .ok (.lload 9, 2) := by decide +kernel
theorem dX12_bound_173 : decode cX12_bound 173 = .ok (.ldiv, 1) := by decide +kernel
theorem dX12_bound_174 : decode cX12_bound 174 = .ok (.goto 13, 3) := by decide +kernel
theorem dX12_bound_177 : decode cX12_bound 177 = .ok (.iload 11, 2) := by decide +kernel
theorem dX12_bound_179 : decode cX12_bound 179 = .ok (.ifCond .eq 7, 3) := by decide +kernel
theorem dX12_bound_182 : decode cX12_bound 182 = .ok (.lconst 0, 1) := by decide +kernel
theorem dX12_bound_183 : decode cX12_bound 183 = .ok (.goto 4, 3) := by decide +kernel
theorem dX12_bound_186 : decode cX12_bound 186 = .ok (.lconst 1, 1) := by decide +kernel
theorem dX12_bound_187 : decode cX12_bound 187 = .ok (.lreturn, 1) := by decide +kernel
def rm_fMM_bound : Room := { frames := 5, cells := 0, slots := 0, locals := 163 }
set_option maxHeartbeats 4000000 in
set_option maxRecDepth 100000 in
theorem c_fMM_bound (l : Launch) (X : eX) (sz : Nat) (a1 : Int32) (a2 : Int32) (a3 : Int32) (a4 : Int32) (σ : sT) (rz : Int64) (σz : sT) (h0 : fMM_bound a1 a2 a3 a4 σ = some (rz, σz)) : ctL l yX12_bound cX12_bound 12 (some .long) rm_fMM_bound [.ref (X.2.1 33), .int a1, .int a2, .int a3, .int a4] (wM X) (tM X) (aM X) X sz σ rz σz := by
  refine ct_of (by decide +kernel) (Nat.le_of_ble_eq_true rfl) ?_
  intro p e s m args below meth c ls hz B hl Z
  have B : Bd p s m args meth c RX12 cX12_bound 12 (some .long) := B
  have hl : lv_has ls 12 [(0, .ref (X.2.1 33)), (1, .int a1), (2, .int a2), (3, .int a3), (4, .int a4)] := hl
  have hx := B.1
  have hb := B.2.1
  unfold fMM_bound at h0
  refine lv_aload_n hx hb dX12_bound_0 rfl (lv_at hl 0 rfl) ?_
  refine lv_iload_n hx hb dX12_bound_1 rfl (lv_at hl 1 rfl) ?_
  obtain ⟨r2, hc0, h1⟩ := db1_s h0
  clear h0
  refine cV_I [.int a1] [] B mx_yX12_isSet (c_fMM_isSet l X _ a1 σ r2 hc0) kl_RX12_183 mi_yX12_isSet (rv_33 _ _) hcl_12 Z hl rfl rfl ⟨Nat.le_of_ble_eq_true rfl, Nat.le_of_ble_eq_true rfl⟩ rfl rfl (Nat.le_of_ble_eq_true rfl) dX12_bound_2 (fun H locs Z => ?_)
  clear hc0
  obtain ⟨J3, eJ3, h4⟩ := dlt_s h1
  clear h1
  have kJ3 : ∀ (H : Heap) (locs : List Loc) (ls : Array Slot), Wd (wM X) (tM X) (aM X) X s σ H locs → lv_has ls 12 [(0, .ref (X.2.1 33))] → J3 () = some (rz, σz) → W p l e rm_fMM_bound s m args below meth c H locs 0 0 (MQ below (va_Ql (fun a u => a = rz ∧ u = σz) (poW (wM X) (tM X) (aM X) X sz) (aA (aM X) sz)) args s 0 0 (aA (aM X) sz)) (F0 m 43 ls []) := by
    intro  H locs ls Z hl h2
    rw [eJ3] at h2
    refine lv_aload_n hx hb dX12_bound_43 rfl (lv_at hl 0 rfl) ?_
    refine lv_ldc hx hb B.2.2.2.1 (B.2.2.2.2.1 _ kc_RX12_63) dX12_bound_44 ?_
    obtain ⟨r5, σ6, hc3, h3⟩ := db2_s h2
    clear h2
    refine cV_I [.int (-1000002 : Int32)] [] B mx_yX12_refuses (c_fMM_refuses l X _ (-1000002 : Int32) σ r5 σ6 hc3) kl_RX12_168 mi_yX12_refuses (rv_33 _ _) hcl_12 Z hl rfl rfl ⟨Nat.le_of_ble_eq_true rfl, Nat.le_of_ble_eq_true rfl⟩ rfl rfl (Nat.le_of_ble_eq_true rfl) dX12_bound_46 (fun H locs Z => ?_)
    clear hc3
    refine lv_i2l hx hb dX12_bound_49 rfl ?_
    exact reL B Z hz h3 dX12_bound_50
  clear eJ3
  refine lv_if_eq (tgt := 43) hx hb dX12_bound_5 (by decide) (fun c7 => ?_) (fun c7 => ?_)
  · have h5 := dit h4 c7
    clear h4
    exact kJ3  _ _ _ Z (lv_sub hl [0] rfl) h5
  · have h6 := dif h4 c7
    clear h4
    refine lv_iload_n hx hb dX12_bound_8 rfl (lv_at hl 2 rfl) ?_
    refine lv_i2l hx hb dX12_bound_9 rfl ?_
    refine lv_lconst (v := (0 : Int64)) hx hb dX12_bound_10 (by decide) ?_
    refine lv_ldc2 hx hb B.2.2.2.1 (B.2.2.2.2.1 _ kc_RX12_162) dX12_bound_11 ?_
    obtain ⟨r9, hc7, h7⟩ := db1_s h6
    clear h6
    refine cS_I [.long a2.toInt64, .long (0 : Int64), .long (2 : Int64)] [] B mx_yX12_in (c_fMM_in l X _ a2.toInt64 (0 : Int64) (2 : Int64) σ r9 hc7) kl_RX12_68 ks_yX12_in Z hl rfl rfl ⟨Nat.le_of_ble_eq_true rfl, Nat.le_of_ble_eq_true rfl⟩ rfl rfl (Nat.le_of_ble_eq_true rfl) dX12_bound_14 (fun H locs Z => ?_)
    clear hc7
    refine lv_if_eq (tgt := 43) hx hb dX12_bound_17 (by decide) (fun c10 => ?_) (fun c10 => ?_)
    · have h8 := dit h7 c10
      clear h7
      exact kJ3  _ _ _ Z (lv_sub hl [0] rfl) h8
    · have h9 := dif h7 c10
      clear h7
      refine lv_iload_n hx hb dX12_bound_20 rfl (lv_at hl 3 rfl) ?_
      refine lv_i2l hx hb dX12_bound_21 rfl ?_
      refine lv_lconst (v := (0 : Int64)) hx hb dX12_bound_22 (by decide) ?_
      refine lv_lconst (v := (1 : Int64)) hx hb dX12_bound_23 (by decide) ?_
      obtain ⟨r12, hc10, h10⟩ := db1_s h9
      clear h9
      refine cS_I [.long a3.toInt64, .long (0 : Int64), .long (1 : Int64)] [] B mx_yX12_in (c_fMM_in l X _ a3.toInt64 (0 : Int64) (1 : Int64) σ r12 hc10) kl_RX12_68 ks_yX12_in Z hl rfl rfl ⟨Nat.le_of_ble_eq_true rfl, Nat.le_of_ble_eq_true rfl⟩ rfl rfl (Nat.le_of_ble_eq_true rfl) dX12_bound_24 (fun H locs Z => ?_)
      clear hc10
      refine lv_if_eq (tgt := 43) hx hb dX12_bound_27 (by decide) (fun c13 => ?_) (fun c13 => ?_)
      · have h11 := dit h10 c13
        clear h10
        exact kJ3  _ _ _ Z (lv_sub hl [0] rfl) h11
      · have h12 := dif h10 c13
        clear h10
        refine lv_iload hx hb dX12_bound_30 (lv_at hl 4 rfl) ?_
        refine lv_i2l hx hb dX12_bound_32 rfl ?_
        refine lv_lconst (v := (0 : Int64)) hx hb dX12_bound_33 (by decide) ?_
        refine lv_ldc2 hx hb B.2.2.2.1 (B.2.2.2.2.1 _ kc_RX12_162) dX12_bound_34 ?_
        obtain ⟨r15, hc13, h13⟩ := db1_s h12
        clear h12
        refine cS_I [.long a4.toInt64, .long (0 : Int64), .long (2 : Int64)] [] B mx_yX12_in (c_fMM_in l X _ a4.toInt64 (0 : Int64) (2 : Int64) σ r15 hc13) kl_RX12_68 ks_yX12_in Z hl rfl rfl ⟨Nat.le_of_ble_eq_true rfl, Nat.le_of_ble_eq_true rfl⟩ rfl rfl (Nat.le_of_ble_eq_true rfl) dX12_bound_37 (fun H locs Z => ?_)
        clear hc13
        refine lv_if_ne (tgt := 51) hx hb dX12_bound_40 (by decide) (fun c16 => ?_) (fun c16 => ?_)
        · have h14 := dif h13 c16
          clear h13
          refine lv_aload_n hx hb dX12_bound_51 rfl (lv_at hl 0 rfl) ?_
          refine lv_iload_n hx hb dX12_bound_52 rfl (lv_at hl 1 rfl) ?_
          obtain ⟨σ18, hc16, h15⟩ := db1_s h14
          clear h14
          refine cV_V [.int a1] [] B mx_yX12_laysSet (c_fMM_laysSet l X _ a1 σ σ18 hc16) kl_RX12_147 mi_yX12_laysSet (rv_33 _ _) hcl_12 Z hl rfl rfl ⟨Nat.le_of_ble_eq_true rfl, Nat.le_of_ble_eq_true rfl⟩ rfl rfl (Nat.le_of_ble_eq_true rfl) dX12_bound_53 (fun H locs Z => ?_)
          clear hc16
          refine lv_aload_n hx hb dX12_bound_56 rfl (lv_at hl 0 rfl) ?_
          refine lv_iload_n hx hb dX12_bound_57 rfl (lv_at hl 2 rfl) ?_
          obtain ⟨σ20, hc18, h16⟩ := db1_s h15
          clear h15
          refine cV_V [.int a2] [] B mx_yX12_solves (c_fMM_solves l X _ a2 σ18 σ20 hc18) kl_RX12_143 mi_yX12_solves (rv_33 _ _) hcl_12 Z hl rfl rfl ⟨Nat.le_of_ble_eq_true rfl, Nat.le_of_ble_eq_true rfl⟩ rfl rfl (Nat.le_of_ble_eq_true rfl) dX12_bound_58 (fun H locs Z => ?_)
          clear hc18
          refine lv_aload_n hx hb dX12_bound_61 rfl (lv_at hl 0 rfl) ?_
          refine g_33_8 B Z kf_RX12_110 dX12_bound_62 ?_
          refine lv_if_ne (tgt := 76) hx hb dX12_bound_65 (by decide) (fun c21 => ?_) (fun c21 => ?_)
          · have h17 := dif h16 c21
            clear h16
            refine lv_iload_n hx hb dX12_bound_76 rfl (lv_at hl 3 rfl) ?_
            refine lv_iconst (v := (1 : Int32)) hx hb dX12_bound_77 (by decide) ?_
            obtain ⟨J23, eJ23, h38⟩ := dlt_s h17
            clear h17
            have kJ23 : ∀ (x22 : Int64) (H : Heap) (locs : List Loc) (ls : Array Slot), Wd (wM X) (tM X) (aM X) X s σ20 H locs → lv_has ls 12 [(0, .ref (X.2.1 33)), (3, .int a3), (4, .int a4)] → J23 x22 = some (rz, σz) → W p l e rm_fMM_bound s m args below meth c H locs 0 0 (MQ below (va_Ql (fun a u => a = rz ∧ u = σz) (poW (wM X) (tM X) (aM X) X sz) (aA (aM X) sz)) args s 0 0 (aA (aM X) sz)) (F0 m 92 ls [.long x22]) := by
              intro x22 H locs ls Z hl h18
              rw [eJ23] at h18
              refine lv_lstore (lv' := [(5, .long x22), (0, .ref (X.2.1 33)), (3, .int a3), (4, .int a4)]) hx hb dX12_bound_92 hl (by decide) rfl (fun ls hl => ?_)
              refine lv_iload_n hx hb dX12_bound_94 rfl (lv_at hl 2 rfl) ?_
              refine lv_iconst (v := (1 : Int32)) hx hb dX12_bound_95 (by decide) ?_
              obtain ⟨J25, eJ25, h35⟩ := dlt_s h18
              clear h18
              have kJ25 : ∀ (x24 : Int64) (H : Heap) (locs : List Loc) (ls : Array Slot), Wd (wM X) (tM X) (aM X) X s σ20 H locs → lv_has ls 12 [(0, .ref (X.2.1 33)), (3, .int a3), (4, .int a4), (5, .long x22)] → J25 x24 = some (rz, σz) → W p l e rm_fMM_bound s m args below meth c H locs 0 0 (MQ below (va_Ql (fun a u => a = rz ∧ u = σz) (poW (wM X) (tM X) (aM X) X sz) (aA (aM X) sz)) args s 0 0 (aA (aM X) sz)) (F0 m 110 ls [.long x24]) := by
                intro x24 H locs ls Z hl h19
                rw [eJ25] at h19
                refine lv_lstore (lv' := [(7, .long x24), (0, .ref (X.2.1 33)), (3, .int a3), (4, .int a4), (5, .long x22)]) hx hb dX12_bound_110 hl (by decide) rfl (fun ls hl => ?_)
                refine lv_lload hx hb dX12_bound_112 (lv_at hl 0 rfl) ?_
                refine lv_lconst (v := (0 : Int64)) hx hb dX12_bound_114 (by decide) ?_
                refine W.lcmp hx hb dX12_bound_115 ?_
                refine lv_if_ne (tgt := 123) hx hb dX12_bound_116 (by decide) (fun c26 => ?_) (fun c26 => ?_)
                · have h20 := dif h19 c26
                  clear h19
                  refine lv_lload hx hb dX12_bound_123 (lv_at hl 4 rfl) ?_
                  refine lv_lload hx hb dX12_bound_125 (lv_at hl 0 rfl) ?_
                  obtain ⟨r28, hc26, h21⟩ := db1_s h20
                  clear h20
                  refine cS_L [.long x22, .long x24] [] B mx_yX12_divisor (c_fMM_divisor l X _ x22 x24 σ20 r28 hc26) kl_RX12_204 ks_yX12_divisor Z hl rfl rfl ⟨Nat.le_of_ble_eq_true rfl, Nat.le_of_ble_eq_true rfl⟩ rfl rfl (Nat.le_of_ble_eq_true rfl) dX12_bound_127 (fun H locs Z => ?_)
                  clear hc26
                  refine lv_lstore (lv' := [(9, .long r28), (7, .long x24), (0, .ref (X.2.1 33)), (3, .int a3), (4, .int a4), (5, .long x22)]) hx hb dX12_bound_130 hl (by decide) rfl (fun ls hl => ?_)
                  refine lv_iload_n hx hb dX12_bound_132 rfl (lv_at hl 3 rfl) ?_
                  refine lv_iconst (v := (1 : Int32)) hx hb dX12_bound_133 (by decide) ?_
                  obtain ⟨J30, eJ30, h31⟩ := dlt_s h21
                  clear h21
                  have kJ30 : ∀ (x29 : Int32) (H : Heap) (locs : List Loc) (ls : Array Slot), Wd (wM X) (tM X) (aM X) X s σ20 H locs → lv_has ls 12 [(4, .int a4), (5, .long x22), (7, .long x24), (9, .long r28)] → J30 x29 = some (rz, σz) → W p l e rm_fMM_bound s m args below meth c H locs 0 0 (MQ below (va_Ql (fun a u => a = rz ∧ u = σz) (poW (wM X) (tM X) (aM X) X sz) (aA (aM X) sz)) args s 0 0 (aA (aM X) sz)) (F0 m 148 ls [.int x29]) := by
                    intro x29 H locs ls Z hl h22
                    rw [eJ30] at h22
                    refine lv_istore (lv' := [(11, .int x29), (4, .int a4), (5, .long x22), (7, .long x24), (9, .long r28)]) hx hb dX12_bound_148 hl (by decide) rfl (fun ls hl => ?_)
                    refine lv_iload hx hb dX12_bound_150 (lv_at hl 1 rfl) ?_
                    refine lv_if_ne (tgt := 163) hx hb dX12_bound_152 (by decide) (fun c31 => ?_) (fun c31 => ?_)
                    · have h23 := dif h22 c31
                      clear h22
                      refine lv_iload hx hb dX12_bound_163 (lv_at hl 1 rfl) ?_
                      refine lv_iconst (v := (1 : Int32)) hx hb dX12_bound_165 (by decide) ?_
                      refine lv_icmp_ne (tgt := 177) hx hb dX12_bound_166 (by decide) (fun c32 => ?_) (fun c32 => ?_)
                      · have h24 := dif h23 c32
                        clear h23
                        refine lv_iload hx hb dX12_bound_177 (lv_at hl 0 rfl) ?_
                        refine lv_if_eq (tgt := 186) hx hb dX12_bound_179 (by decide) (fun c33 => ?_) (fun c33 => ?_)
                        · have h25 := dit h24 c33
                          clear h24
                          refine lv_lconst (v := (1 : Int64)) hx hb dX12_bound_186 (by decide) ?_
                          exact reL B Z hz h25 dX12_bound_187
                        · have h26 := dif h24 c33
                          clear h24
                          refine lv_lconst (v := (0 : Int64)) hx hb dX12_bound_182 (by decide) ?_
                          refine lv_goto (tgt := 187) hx hb dX12_bound_183 (by decide) ?_
                          exact reL B Z hz h26 dX12_bound_187
                      · have h27 := dit h23 c32
                        clear h23
                        refine lv_lload hx hb dX12_bound_169 (lv_at hl 3 rfl) ?_
                        refine lv_lload hx hb dX12_bound_171 (lv_at hl 4 rfl) ?_
                        obtain ⟨z34, h28⟩ := dck_s h27
                        clear h27
                        refine lv_ldiv hx hb dX12_bound_173 (okE_s z34) ?_
                        refine lv_goto (tgt := 187) hx hb dX12_bound_174 (by decide) ?_
                        exact reL B Z hz h28 dX12_bound_187
                    · have h29 := dit h22 c31
                      clear h22
                      refine lv_lload hx hb dX12_bound_155 (lv_at hl 2 rfl) ?_
                      refine lv_lload hx hb dX12_bound_157 (lv_at hl 4 rfl) ?_
                      obtain ⟨z35, h30⟩ := dck_s h29
                      clear h29
                      refine lv_ldiv hx hb dX12_bound_159 (okE_s z35) ?_
                      refine lv_goto (tgt := 187) hx hb dX12_bound_160 (by decide) ?_
                      exact reL B Z hz h30 dX12_bound_187
                  clear eJ30
                  refine lv_icmp_ne (tgt := 144) hx hb dX12_bound_134 (by decide) (fun c36 => ?_) (fun c36 => ?_)
                  · have h32 := dif h31 c36
                    clear h31
                    refine lv_aload_n hx hb dX12_bound_144 rfl (lv_at hl 2 rfl) ?_
                    refine g_33_11 B Z kf_RX12_132 dX12_bound_145 ?_
                    exact kJ30 (σ20.1 33 11) _ _ _ Z (lv_sub hl [4, 5, 1, 0] rfl) h32
                  · have h33 := dit h31 c36
                    clear h31
                    refine lv_aload_n hx hb dX12_bound_137 rfl (lv_at hl 2 rfl) ?_
                    refine g_33_14 B Z kf_RX12_123 dX12_bound_138 ?_
                    refine lv_goto (tgt := 148) hx hb dX12_bound_141 (by decide) ?_
                    exact kJ30 (σ20.1 33 14) _ _ _ Z (lv_sub hl [4, 5, 1, 0] rfl) h33
                · have h34 := dit h19 c26
                  clear h19
                  refine lv_ldc2 hx hb B.2.2.2.1 (B.2.2.2.2.1 _ kc_RX12_202) dX12_bound_119 ?_
                  exact reL B Z hz h34 dX12_bound_122
              clear eJ25
              refine lv_icmp_ne (tgt := 106) hx hb dX12_bound_96 (by decide) (fun c37 => ?_) (fun c37 => ?_)
              · have h36 := dif h35 c37
                clear h35
                refine lv_aload_n hx hb dX12_bound_106 rfl (lv_at hl 1 rfl) ?_
                refine g_33_10 B Z kf_RX12_126 dX12_bound_107 ?_
                exact kJ25 (σ20.2 33 10) _ _ _ Z (lv_sub hl [1, 2, 3, 0] rfl) h36
              · have h37 := dit h35 c37
                clear h35
                refine lv_aload_n hx hb dX12_bound_99 rfl (lv_at hl 1 rfl) ?_
                refine g_33_13 B Z kf_RX12_114 dX12_bound_100 ?_
                refine lv_goto (tgt := 110) hx hb dX12_bound_103 (by decide) ?_
                exact kJ25 (σ20.2 33 13) _ _ _ Z (lv_sub hl [1, 2, 3, 0] rfl) h37
            clear eJ23
            refine lv_icmp_ne (tgt := 88) hx hb dX12_bound_78 (by decide) (fun c38 => ?_) (fun c38 => ?_)
            · have h39 := dif h38 c38
              clear h38
              refine lv_aload_n hx hb dX12_bound_88 rfl (lv_at hl 0 rfl) ?_
              refine g_33_9 B Z kf_RX12_129 dX12_bound_89 ?_
              exact kJ23 (σ20.2 33 9) _ _ _ Z (lv_sub hl [0, 3, 4] rfl) h39
            · have h40 := dit h38 c38
              clear h38
              refine lv_aload_n hx hb dX12_bound_81 rfl (lv_at hl 0 rfl) ?_
              refine g_33_12 B Z kf_RX12_120 dX12_bound_82 ?_
              refine lv_goto (tgt := 92) hx hb dX12_bound_85 (by decide) ?_
              exact kJ23 (σ20.2 33 12) _ _ _ Z (lv_sub hl [0, 3, 4] rfl) h40
          · have h41 := dit h16 c21
            clear h16
            refine lv_aload_n hx hb dX12_bound_68 rfl (lv_at hl 0 rfl) ?_
            refine lv_ldc hx hb B.2.2.2.1 (B.2.2.2.2.1 _ kc_RX12_201) dX12_bound_69 ?_
            obtain ⟨r40, σ41, hc38, h42⟩ := db2_s h41
            clear h41
            refine cV_I [.int (-1000003 : Int32)] [] B mx_yX12_refuses (c_fMM_refuses l X _ (-1000003 : Int32) σ20 r40 σ41 hc38) kl_RX12_168 mi_yX12_refuses (rv_33 _ _) hcl_12 Z hl rfl rfl ⟨Nat.le_of_ble_eq_true rfl, Nat.le_of_ble_eq_true rfl⟩ rfl rfl (Nat.le_of_ble_eq_true rfl) dX12_bound_71 (fun H locs Z => ?_)
            clear hc38
            refine lv_i2l hx hb dX12_bound_74 rfl ?_
            exact reL B Z hz h42 dX12_bound_75
        · have h43 := dit h13 c16
          clear h13
          exact kJ3  _ _ _ Z (lv_sub hl [0] rfl) h43
theorem dX12_canNot_0 : decode cX12_canNot 0 = .ok (.aload_n 0, 1) := by decide +kernel
theorem dX12_canNot_1 : decode cX12_canNot 1 = .ok (.iload_n 1, 1) := by decide +kernel
theorem dX12_canNot_2 : decode cX12_canNot 2 = .ok (.invokevirtual 147, 3) := by decide +kernel
theorem dX12_canNot_5 : decode cX12_canNot 5 = .ok (.iload_n 3, 1) := by decide +kernel
theorem dX12_canNot_6 : decode cX12_canNot 6 = .ok (.ifCond .eq 44, 3) := by decide +kernel
theorem dX12_canNot_9 : decode cX12_canNot 9 = .ok (.aload_n 0, 1) := by decide +kernel
theorem dX12_canNot_10 : decode cX12_canNot 10 = .ok (.aload_n 0, 1) := by decide +kernel
theorem dX12_canNot_11 : decode cX12_canNot 11 = .ok (.iload_n 2, 1) := by decide +kernel
theorem dX12_canNot_12 : decode cX12_canNot 12 = .ok (.iconst 0, 1) := by decide +kernel
theorem dX12_canNot_13 : decode cX12_canNot 13 = .ok (.invokevirtual 87, 3) := by decide +kernel
theorem dX12_canNot_16 : decode cX12_canNot 16 = .ok (.ineg, 1) := by decide +kernel
theorem dX12_canNot_17 : decode cX12_canNot 17 = .ok (.i2l, 1) := by decide +kernel
theorem dX12_canNot_18 : decode cX12_canNot 18 = .ok (.aload_n 0, 1) := by decide +kernel
theorem dX12_canNot_19 : decode cX12_canNot 19 = .ok (.iload_n 2, 1) := by decide +kernel
theorem dX12_canNot_20 : decode cX12_canNot 20 = .ok (.iconst 1, 1) := by decide +kernel
theorem dX12_canNot_21 : decode cX12_canNot 21 = .ok (.invokevirtual 87, 3) := by decide +kernel
theorem dX12_canNot_24 : decode cX12_canNot 24 = .ok (.ineg, 1) := by decide +kernel
theorem dX12_canNot_25 : decode cX12_canNot 25 = .ok (.i2l, 1) := by decide +kernel
theorem dX12_canNot_26 : decode cX12_canNot 26 = .ok (.aload_n 0, 1) := by decide +kernel
theorem dX12_canNot_27 : decode cX12_canNot 27 = .ok (.iload_n 2, 1) := by decide +kernel
theorem dX12_canNot_28 : decode cX12_canNot 28 = .ok (.iconst 2, 1) := by decide +kernel
theorem dX12_canNot_29 : decode cX12_canNot 29 = .ok (.invokevirtual 87, 3) := by decide +kernel
theorem dX12_canNot_32 : decode cX12_canNot 32 = .ok (.ineg, 1) := by decide +kernel
theorem dX12_canNot_33 : decode cX12_canNot 33 = .ok (.i2l, 1) := by decide +kernel
theorem dX12_canNot_34 : decode cX12_canNot 34 = .ok (.aload_n 0, 1) := by decide +kernel
theorem dX12_canNot_35 : decode cX12_canNot 35 = .ok (.iload_n 2, 1) := by decide +kernel
theorem dX12_canNot_36 : decode cX12_canNot 36 = .ok (.iconst 4, 1) := by decide +kernel
theorem dX12_canNot_37 : decode cX12_canNot 37 = .ok (.invokevirtual 87, 3) := by decide +kernel
theorem dX12_canNot_40 : decode cX12_canNot 40 = .ok (.ineg, 1) := by decide +kernel
theorem dX12_canNot_41 : decode cX12_canNot 41 = .ok (.i2l, 1) := by decide +kernel
theorem dX12_canNot_42 : decode cX12_canNot 42 = .ok (.iload 4, 2) := by decide +kernel
theorem dX12_canNot_44 : decode cX12_canNot 44 = .ok (.invokevirtual 83, 3) := by decide +kernel
theorem dX12_canNot_47 : decode cX12_canNot 47 = .ok (.goto 37, 3) := by decide +kernel
theorem dX12_canNot_50 : decode cX12_canNot 50 = .ok (.aload_n 0, 1) := by decide +kernel
theorem dX12_canNot_51 : decode cX12_canNot 51 = .ok (.aload_n 0, 1) := by decide +kernel
theorem dX12_canNot_52 : decode cX12_canNot 52 = .ok (.iload_n 2, 1) := by decide +kernel
theorem dX12_canNot_53 : decode cX12_canNot 53 = .ok (.iconst 0, 1) := by decide +kernel
theorem dX12_canNot_54 : decode cX12_canNot 54 = .ok (.invokevirtual 87, 3) := by decide +kernel
theorem dX12_canNot_57 : decode cX12_canNot 57 = .ok (.i2l, 1) := by decide +kernel
theorem dX12_canNot_58 : decode cX12_canNot 58 = .ok (.aload_n 0, 1) := by decide +kernel
theorem dX12_canNot_59 : decode cX12_canNot 59 = .ok (.iload_n 2, 1) := by decide +kernel
theorem dX12_canNot_60 : decode cX12_canNot 60 = .ok (.iconst 1, 1) := by decide +kernel
theorem dX12_canNot_61 : decode cX12_canNot 61 = .ok (.invokevirtual 87, 3) := by decide +kernel
theorem dX12_canNot_64 : decode cX12_canNot 64 = .ok (.i2l, 1) := by decide +kernel
theorem dX12_canNot_65 : decode cX12_canNot 65 = .ok (.aload_n 0, 1) := by decide +kernel
theorem dX12_canNot_66 : decode cX12_canNot 66 = .ok (.iload_n 2, 1) := by decide +kernel
theorem dX12_canNot_67 : decode cX12_canNot 67 = .ok (.iconst 2, 1) := by decide +kernel
theorem dX12_canNot_68 : decode cX12_canNot 68 = .ok (.invokevirtual 87, 3) := by decide +kernel
theorem dX12_canNot_71 : decode cX12_canNot 71 = .ok (.i2l, 1) := by decide +kernel
theorem dX12_canNot_72 : decode cX12_canNot 72 = .ok (.aload_n 0, 1) := by decide +kernel
theorem dX12_canNot_73 : decode cX12_canNot 73 = .ok (.iload_n 2, 1) := by decide +kernel
theorem dX12_canNot_74 : decode cX12_canNot 74 = .ok (.iconst 4, 1) := by decide +kernel
theorem dX12_canNot_75 : decode cX12_canNot 75 = .ok (.invokevirtual 87, 3) := by decide +kernel
theorem dX12_canNot_78 : decode cX12_canNot 78 = .ok (.i2l, 1) := by decide +kernel
theorem dX12_canNot_79 : decode cX12_canNot 79 = .ok (.iload 4, 2) := by decide +kernel
theorem dX12_canNot_81 : decode cX12_canNot 81 = .ok (.invokevirtual 83, 3) := by decide +kernel
theorem dX12_canNot_84 : decode cX12_canNot 84 = .ok (.aload_n 0, 1) := by decide +kernel
theorem dX12_canNot_85 : decode cX12_canNot 85 = .ok (.invokevirtual 150, 3) := by decide +kernel
theorem dX12_canNot_88 : decode cX12_canNot 88 = .ok (.ireturn, 1) := by decide +kernel
def rm_fMM_canNot : Room := { frames := 5, cells := 0, slots := 0, locals := 168 }
set_option maxHeartbeats 4000000 in
set_option maxRecDepth 100000 in
theorem c_fMM_canNot (l : Launch) (X : eX) (sz : Nat) (a1 : Int32) (a2 : Int32) (a3 : Int32) (a4 : Int32) (σ : sT) (rz : Int32) (σz : sT) (h0 : fMM_canNot a1 a2 a3 a4 σ = some (rz, σz)) : ctI l yX12_canNot cX12_canNot 5 (some .boolean) rm_fMM_canNot [.ref (X.2.1 33), .int a1, .int a2, .int a3, .int a4] (wM X) (tM X) (aM X) X sz σ rz σz := by
  refine ct_of (by decide +kernel) (Nat.le_of_ble_eq_true rfl) ?_
  intro p e s m args below meth c ls hz B hl Z
  have B : Bd p s m args meth c RX12 cX12_canNot 5 (some .boolean) := B
  have hl : lv_has ls 5 [(0, .ref (X.2.1 33)), (1, .int a1), (2, .int a2), (3, .int a3), (4, .int a4)] := hl
  have hx := B.1
  have hb := B.2.1
  unfold fMM_canNot at h0
  refine lv_aload_n hx hb dX12_canNot_0 rfl (lv_at hl 0 rfl) ?_
  refine lv_iload_n hx hb dX12_canNot_1 rfl (lv_at hl 1 rfl) ?_
  obtain ⟨σ2, hc0, h1⟩ := db1_s h0
  clear h0
  refine cV_V [.int a1] [] B mx_yX12_laysSet (c_fMM_laysSet l X _ a1 σ σ2 hc0) kl_RX12_147 mi_yX12_laysSet (rv_33 _ _) hcl_12 Z hl rfl rfl ⟨Nat.le_of_ble_eq_true rfl, Nat.le_of_ble_eq_true rfl⟩ rfl rfl (Nat.le_of_ble_eq_true rfl) dX12_canNot_2 (fun H locs Z => ?_)
  clear hc0
  refine lv_iload_n hx hb dX12_canNot_5 rfl (lv_at hl 3 rfl) ?_
  obtain ⟨J4, eJ4, h5⟩ := dlt_s h1
  clear h1
  have kJ4 : ∀ (σ3 : sT) (H : Heap) (locs : List Loc) (ls : Array Slot), Wd (wM X) (tM X) (aM X) X s σ3 H locs → lv_has ls 5 [(0, .ref (X.2.1 33))] → J4 σ3 = some (rz, σz) → W p l e rm_fMM_canNot s m args below meth c H locs 0 0 (MQ below (va_Qi (fun a u => a = rz ∧ u = σz) (poW (wM X) (tM X) (aM X) X sz) (aA (aM X) sz)) args s 0 0 (aA (aM X) sz)) (F0 m 84 ls []) := by
    intro σ3 H locs ls Z hl h2
    rw [eJ4] at h2
    refine lv_aload_n hx hb dX12_canNot_84 rfl (lv_at hl 0 rfl) ?_
    obtain ⟨r6, σ7, hc4, h3⟩ := db2_s h2
    clear h2
    refine cV_I [] [] B mx_yX12_canLaid (c_fMM_canLaid l X _ σ3 r6 σ7 hc4) kl_RX12_150 mi_yX12_canLaid (rv_33 _ _) hcl_12 Z hl rfl rfl ⟨Nat.le_of_ble_eq_true rfl, Nat.le_of_ble_eq_true rfl⟩ rfl rfl (Nat.le_of_ble_eq_true rfl) dX12_canNot_85 (fun H locs Z => ?_)
    clear hc4
    obtain ⟨z8, h4⟩ := dck_s h3
    clear h3
    exact reI B Z (okZ_n z8) hz h4 dX12_canNot_88
  clear eJ4
  refine lv_if_eq (tgt := 50) hx hb dX12_canNot_6 (by decide) (fun c9 => ?_) (fun c9 => ?_)
  · have h6 := dit h5 c9
    clear h5
    refine lv_aload_n hx hb dX12_canNot_50 rfl (lv_at hl 0 rfl) ?_
    refine lv_aload_n hx hb dX12_canNot_51 rfl (lv_at hl 0 rfl) ?_
    refine lv_iload_n hx hb dX12_canNot_52 rfl (lv_at hl 2 rfl) ?_
    refine lv_iconst (v := (0 : Int32)) hx hb dX12_canNot_53 (by decide) ?_
    obtain ⟨r11, hc9, h7⟩ := db1_s h6
    clear h6
    refine cV_I [.int a2, .int (0 : Int32)] [.ref (X.2.1 33)] B mx_yX12_at (c_fMM_at l X _ a2 (0 : Int32) σ2 r11 hc9) kl_RX12_87 mi_yX12_at (rv_33 _ _) hcl_12 Z hl rfl rfl ⟨Nat.le_of_ble_eq_true rfl, Nat.le_of_ble_eq_true rfl⟩ rfl rfl (Nat.le_of_ble_eq_true rfl) dX12_canNot_54 (fun H locs Z => ?_)
    clear hc9
    refine lv_i2l hx hb dX12_canNot_57 rfl ?_
    refine lv_aload_n hx hb dX12_canNot_58 rfl (lv_at hl 0 rfl) ?_
    refine lv_iload_n hx hb dX12_canNot_59 rfl (lv_at hl 2 rfl) ?_
    refine lv_iconst (v := (1 : Int32)) hx hb dX12_canNot_60 (by decide) ?_
    obtain ⟨r13, hc11, h8⟩ := db1_s h7
    clear h7
    refine cV_I [.int a2, .int (1 : Int32)] [.long r11.toInt64, .ref (X.2.1 33)] B mx_yX12_at (c_fMM_at l X _ a2 (1 : Int32) σ2 r13 hc11) kl_RX12_87 mi_yX12_at (rv_33 _ _) hcl_12 Z hl rfl rfl ⟨Nat.le_of_ble_eq_true rfl, Nat.le_of_ble_eq_true rfl⟩ rfl rfl (Nat.le_of_ble_eq_true rfl) dX12_canNot_61 (fun H locs Z => ?_)
    clear hc11
    refine lv_i2l hx hb dX12_canNot_64 rfl ?_
    refine lv_aload_n hx hb dX12_canNot_65 rfl (lv_at hl 0 rfl) ?_
    refine lv_iload_n hx hb dX12_canNot_66 rfl (lv_at hl 2 rfl) ?_
    refine lv_iconst (v := (2 : Int32)) hx hb dX12_canNot_67 (by decide) ?_
    obtain ⟨r15, hc13, h9⟩ := db1_s h8
    clear h8
    refine cV_I [.int a2, .int (2 : Int32)] [.long r13.toInt64, .long r11.toInt64, .ref (X.2.1 33)] B mx_yX12_at (c_fMM_at l X _ a2 (2 : Int32) σ2 r15 hc13) kl_RX12_87 mi_yX12_at (rv_33 _ _) hcl_12 Z hl rfl rfl ⟨Nat.le_of_ble_eq_true rfl, Nat.le_of_ble_eq_true rfl⟩ rfl rfl (Nat.le_of_ble_eq_true rfl) dX12_canNot_68 (fun H locs Z => ?_)
    clear hc13
    refine lv_i2l hx hb dX12_canNot_71 rfl ?_
    refine lv_aload_n hx hb dX12_canNot_72 rfl (lv_at hl 0 rfl) ?_
    refine lv_iload_n hx hb dX12_canNot_73 rfl (lv_at hl 2 rfl) ?_
    refine lv_iconst (v := (4 : Int32)) hx hb dX12_canNot_74 (by decide) ?_
    obtain ⟨r17, hc15, h10⟩ := db1_s h9
    clear h9
    refine cV_I [.int a2, .int (4 : Int32)] [.long r15.toInt64, .long r13.toInt64, .long r11.toInt64, .ref (X.2.1 33)] B mx_yX12_at (c_fMM_at l X _ a2 (4 : Int32) σ2 r17 hc15) kl_RX12_87 mi_yX12_at (rv_33 _ _) hcl_12 Z hl rfl rfl ⟨Nat.le_of_ble_eq_true rfl, Nat.le_of_ble_eq_true rfl⟩ rfl rfl (Nat.le_of_ble_eq_true rfl) dX12_canNot_75 (fun H locs Z => ?_)
    clear hc15
    refine lv_i2l hx hb dX12_canNot_78 rfl ?_
    refine lv_iload hx hb dX12_canNot_79 (lv_at hl 4 rfl) ?_
    obtain ⟨σ19, hc17, h11⟩ := db1_s h10
    clear h10
    refine cV_V [.long r11.toInt64, .long r13.toInt64, .long r15.toInt64, .long r17.toInt64, .int a4] [] B mx_yX12_lays (c_fMM_lays l X _ r11.toInt64 r13.toInt64 r15.toInt64 r17.toInt64 a4 σ2 σ19 hc17) kl_RX12_83 mi_yX12_lays (rv_33 _ _) hcl_12 Z hl rfl rfl ⟨Nat.le_of_ble_eq_true rfl, Nat.le_of_ble_eq_true rfl⟩ rfl rfl (Nat.le_of_ble_eq_true rfl) dX12_canNot_81 (fun H locs Z => ?_)
    clear hc17
    exact kJ4 σ19 _ _ _ Z (lv_sub hl [0] rfl) h11
  · have h12 := dif h5 c9
    clear h5
    refine lv_aload_n hx hb dX12_canNot_9 rfl (lv_at hl 0 rfl) ?_
    refine lv_aload_n hx hb dX12_canNot_10 rfl (lv_at hl 0 rfl) ?_
    refine lv_iload_n hx hb dX12_canNot_11 rfl (lv_at hl 2 rfl) ?_
    refine lv_iconst (v := (0 : Int32)) hx hb dX12_canNot_12 (by decide) ?_
    obtain ⟨r21, hc19, h13⟩ := db1_s h12
    clear h12
    refine cV_I [.int a2, .int (0 : Int32)] [.ref (X.2.1 33)] B mx_yX12_at (c_fMM_at l X _ a2 (0 : Int32) σ2 r21 hc19) kl_RX12_87 mi_yX12_at (rv_33 _ _) hcl_12 Z hl rfl rfl ⟨Nat.le_of_ble_eq_true rfl, Nat.le_of_ble_eq_true rfl⟩ rfl rfl (Nat.le_of_ble_eq_true rfl) dX12_canNot_13 (fun H locs Z => ?_)
    clear hc19
    refine lv_ineg hx hb dX12_canNot_16 ?_
    refine lv_i2l hx hb dX12_canNot_17 rfl ?_
    refine lv_aload_n hx hb dX12_canNot_18 rfl (lv_at hl 0 rfl) ?_
    refine lv_iload_n hx hb dX12_canNot_19 rfl (lv_at hl 2 rfl) ?_
    refine lv_iconst (v := (1 : Int32)) hx hb dX12_canNot_20 (by decide) ?_
    obtain ⟨r23, hc21, h14⟩ := db1_s h13
    clear h13
    refine cV_I [.int a2, .int (1 : Int32)] [.long ((-r21).toInt64), .ref (X.2.1 33)] B mx_yX12_at (c_fMM_at l X _ a2 (1 : Int32) σ2 r23 hc21) kl_RX12_87 mi_yX12_at (rv_33 _ _) hcl_12 Z hl rfl rfl ⟨Nat.le_of_ble_eq_true rfl, Nat.le_of_ble_eq_true rfl⟩ rfl rfl (Nat.le_of_ble_eq_true rfl) dX12_canNot_21 (fun H locs Z => ?_)
    clear hc21
    refine lv_ineg hx hb dX12_canNot_24 ?_
    refine lv_i2l hx hb dX12_canNot_25 rfl ?_
    refine lv_aload_n hx hb dX12_canNot_26 rfl (lv_at hl 0 rfl) ?_
    refine lv_iload_n hx hb dX12_canNot_27 rfl (lv_at hl 2 rfl) ?_
    refine lv_iconst (v := (2 : Int32)) hx hb dX12_canNot_28 (by decide) ?_
    obtain ⟨r25, hc23, h15⟩ := db1_s h14
    clear h14
    refine cV_I [.int a2, .int (2 : Int32)] [.long ((-r23).toInt64), .long ((-r21).toInt64), .ref (X.2.1 33)] B mx_yX12_at (c_fMM_at l X _ a2 (2 : Int32) σ2 r25 hc23) kl_RX12_87 mi_yX12_at (rv_33 _ _) hcl_12 Z hl rfl rfl ⟨Nat.le_of_ble_eq_true rfl, Nat.le_of_ble_eq_true rfl⟩ rfl rfl (Nat.le_of_ble_eq_true rfl) dX12_canNot_29 (fun H locs Z => ?_)
    clear hc23
    refine lv_ineg hx hb dX12_canNot_32 ?_
    refine lv_i2l hx hb dX12_canNot_33 rfl ?_
    refine lv_aload_n hx hb dX12_canNot_34 rfl (lv_at hl 0 rfl) ?_
    refine lv_iload_n hx hb dX12_canNot_35 rfl (lv_at hl 2 rfl) ?_
    refine lv_iconst (v := (4 : Int32)) hx hb dX12_canNot_36 (by decide) ?_
    obtain ⟨r27, hc25, h16⟩ := db1_s h15
    clear h15
    refine cV_I [.int a2, .int (4 : Int32)] [.long ((-r25).toInt64), .long ((-r23).toInt64), .long ((-r21).toInt64), .ref (X.2.1 33)] B mx_yX12_at (c_fMM_at l X _ a2 (4 : Int32) σ2 r27 hc25) kl_RX12_87 mi_yX12_at (rv_33 _ _) hcl_12 Z hl rfl rfl ⟨Nat.le_of_ble_eq_true rfl, Nat.le_of_ble_eq_true rfl⟩ rfl rfl (Nat.le_of_ble_eq_true rfl) dX12_canNot_37 (fun H locs Z => ?_)
    clear hc25
    refine lv_ineg hx hb dX12_canNot_40 ?_
    refine lv_i2l hx hb dX12_canNot_41 rfl ?_
    refine lv_iload hx hb dX12_canNot_42 (lv_at hl 4 rfl) ?_
    obtain ⟨σ29, hc27, h17⟩ := db1_s h16
    clear h16
    refine cV_V [.long ((-r21).toInt64), .long ((-r23).toInt64), .long ((-r25).toInt64), .long ((-r27).toInt64), .int a4] [] B mx_yX12_lays (c_fMM_lays l X _ ((-r21).toInt64) ((-r23).toInt64) ((-r25).toInt64) ((-r27).toInt64) a4 σ2 σ29 hc27) kl_RX12_83 mi_yX12_lays (rv_33 _ _) hcl_12 Z hl rfl rfl ⟨Nat.le_of_ble_eq_true rfl, Nat.le_of_ble_eq_true rfl⟩ rfl rfl (Nat.le_of_ble_eq_true rfl) dX12_canNot_44 (fun H locs Z => ?_)
    clear hc27
    refine lv_goto (tgt := 84) hx hb dX12_canNot_47 (by decide) ?_
    exact kJ4 σ29 _ _ _ Z (lv_sub hl [0] rfl) h17
theorem dX12_bringsRow_0 : decode cX12_bringsRow 0 = .ok (.aload_n 0, 1) := by decide +kernel
theorem dX12_bringsRow_1 : decode cX12_bringsRow 1 = .ok (.iload_n 2, 1) := by decide +kernel
theorem dX12_bringsRow_2 : decode cX12_bringsRow 2 = .ok (.iconst 3, 1) := by decide +kernel
theorem dX12_bringsRow_3 : decode cX12_bringsRow 3 = .ok (.invokevirtual 87, 3) := by decide +kernel
theorem dX12_bringsRow_6 : decode cX12_bringsRow 6 = .ok (.istore_n 3, 1) := by decide +kernel
theorem dX12_bringsRow_7 : decode cX12_bringsRow 7 = .ok (.aload_n 0, 1) := by decide +kernel
theorem dX12_bringsRow_8 : decode cX12_bringsRow 8 = .ok (.iload_n 1, 1) := by decide +kernel
theorem dX12_bringsRow_9 : decode cX12_bringsRow 9 = .ok (.iload_n 2, 1) := by decide +kernel
theorem dX12_bringsRow_10 : decode cX12_bringsRow 10 = .ok (.iconst 1, 1) := by decide +kernel
theorem dX12_bringsRow_11 : decode cX12_bringsRow 11 = .ok (.iload_n 3, 1) := by decide +kernel
theorem dX12_bringsRow_12 : decode cX12_bringsRow 12 = .ok (.ifCond .eq 7, 3) := by decide +kernel
theorem dX12_bringsRow_15 : decode cX12_bringsRow 15 = .ok (.iconst 1, 1) := by decide +kernel
theorem dX12_bringsRow_16 : decode cX12_bringsRow 16 = .ok (.goto 4, 3) := by decide +kernel
theorem dX12_bringsRow_19 : decode cX12_bringsRow 19 = .ok (.iconst 0, 1) := by decide +kernel
theorem dX12_bringsRow_20 : decode cX12_bringsRow 20 = .ok (.invokevirtual 208, 3) := by decide +kernel
theorem dX12_bringsRow_23 : decode cX12_bringsRow 23 = .ok (.ifCond .ne 7, 3) := by decide +kernel
theorem dX12_bringsRow_26 : decode cX12_bringsRow 26 = .ok (.iconst 1, 1) := by decide +kernel
theorem dX12_bringsRow_27 : decode cX12_bringsRow 27 = .ok (.goto 4, 3) := by decide +kernel
theorem dX12_bringsRow_30 : decode cX12_bringsRow 30 = .ok (.iconst 0, 1) := by decide +kernel
theorem dX12_bringsRow_31 : decode cX12_bringsRow 31 = .ok (.istore 4, 2) := by decide +kernel
theorem dX12_bringsRow_33 : decode cX12_bringsRow 33 = .ok (.iload 4, 2) := by decide +kernel
theorem dX12_bringsRow_35 : decode cX12_bringsRow 35 = .ok (.ifCond .eq 23, 3) := by decide +kernel
theorem dX12_bringsRow_38 : decode cX12_bringsRow 38 = .ok (.iload_n 3, 1) := by decide +kernel
theorem dX12_bringsRow_39 : decode cX12_bringsRow 39 = .ok (.iconst 2, 1) := by decide +kernel
theorem dX12_bringsRow_40 : decode cX12_bringsRow 40 = .ok (.if_icmp .ne 14, 3) := by decide +kernel
theorem dX12_bringsRow_43 : decode cX12_bringsRow 43 = .ok (.aload_n 0, 1) := by decide +kernel
theorem dX12_bringsRow_44 : decode cX12_bringsRow 44 = .ok (.iload_n 1, 1) := by decide +kernel
theorem dX12_bringsRow_45 : decode cX12_bringsRow 45 = .ok (.iload_n 2, 1) := by decide +kernel
theorem dX12_bringsRow_46 : decode cX12_bringsRow 46 = .ok (.iconst 0, 1) := by decide +kernel
theorem dX12_bringsRow_47 : decode cX12_bringsRow 47 = .ok (.iconst 1, 1) := by decide +kernel
theorem dX12_bringsRow_48 : decode cX12_bringsRow 48 = .ok (.invokevirtual 208, 3) := by decide +kernel
theorem dX12_bringsRow_51 : decode cX12_bringsRow 51 = .ok (.ifCond .ne 7, 3) := by decide +kernel
theorem dX12_bringsRow_54 : decode cX12_bringsRow 54 = .ok (.iconst 1, 1) := by decide +kernel
theorem dX12_bringsRow_55 : decode cX12_bringsRow 55 = .ok (.goto 4, 3) := by decide +kernel
theorem dX12_bringsRow_58 : decode cX12_bringsRow 58 = .ok (.iconst 0, 1) := by decide +kernel
theorem dX12_bringsRow_59 : decode cX12_bringsRow 59 = .ok (.ireturn, 1) := by decide +kernel
def rm_fMM_bringsRow : Room := { frames := 6, cells := 0, slots := 0, locals := 192 }
set_option maxHeartbeats 4000000 in
set_option maxRecDepth 100000 in
theorem c_fMM_bringsRow (l : Launch) (X : eX) (sz : Nat) (a1 : Int32) (a2 : Int32) (σ : sT) (rz : Int32) (σz : sT) (h0 : fMM_bringsRow a1 a2 σ = some (rz, σz)) : ctI l yX12_bringsRow cX12_bringsRow 5 (some .boolean) rm_fMM_bringsRow [.ref (X.2.1 33), .int a1, .int a2] (wM X) (tM X) (aM X) X sz σ rz σz := by
  refine ct_of (by decide +kernel) (Nat.le_of_ble_eq_true rfl) ?_
  intro p e s m args below meth c ls hz B hl Z
  have B : Bd p s m args meth c RX12 cX12_bringsRow 5 (some .boolean) := B
  have hl : lv_has ls 5 [(0, .ref (X.2.1 33)), (1, .int a1), (2, .int a2)] := hl
  have hx := B.1
  have hb := B.2.1
  unfold fMM_bringsRow at h0
  refine lv_aload_n hx hb dX12_bringsRow_0 rfl (lv_at hl 0 rfl) ?_
  refine lv_iload_n hx hb dX12_bringsRow_1 rfl (lv_at hl 2 rfl) ?_
  refine lv_iconst (v := (3 : Int32)) hx hb dX12_bringsRow_2 (by decide) ?_
  obtain ⟨r2, hc0, h1⟩ := db1_s h0
  clear h0
  refine cV_I [.int a2, .int (3 : Int32)] [] B mx_yX12_at (c_fMM_at l X _ a2 (3 : Int32) σ r2 hc0) kl_RX12_87 mi_yX12_at (rv_33 _ _) hcl_12 Z hl rfl rfl ⟨Nat.le_of_ble_eq_true rfl, Nat.le_of_ble_eq_true rfl⟩ rfl rfl (Nat.le_of_ble_eq_true rfl) dX12_bringsRow_3 (fun H locs Z => ?_)
  clear hc0
  refine lv_istore_n (lv' := [(3, .int r2), (0, .ref (X.2.1 33)), (1, .int a1), (2, .int a2)]) hx hb dX12_bringsRow_6 rfl hl (by decide) rfl (fun ls hl => ?_)
  refine lv_aload_n hx hb dX12_bringsRow_7 rfl (lv_at hl 1 rfl) ?_
  refine lv_iload_n hx hb dX12_bringsRow_8 rfl (lv_at hl 2 rfl) ?_
  refine lv_iload_n hx hb dX12_bringsRow_9 rfl (lv_at hl 3 rfl) ?_
  refine lv_iconst (v := (1 : Int32)) hx hb dX12_bringsRow_10 (by decide) ?_
  refine lv_iload_n hx hb dX12_bringsRow_11 rfl (lv_at hl 0 rfl) ?_
  obtain ⟨J7, eJ7, h15⟩ := dlt_s h1
  clear h1
  have kJ7 : ∀ (x3 : Int32) (x4 : Int32) (x5 : Int32) (x6 : Int32) (H : Heap) (locs : List Loc) (ls : Array Slot), Wd (wM X) (tM X) (aM X) X s σ H locs → lv_has ls 5 [(0, .ref (X.2.1 33)), (1, .int a1), (2, .int a2), (3, .int r2)] → J7 x3 x4 x5 x6 = some (rz, σz) → W p l e rm_fMM_bringsRow s m args below meth c H locs 0 0 (MQ below (va_Qi (fun a u => a = rz ∧ u = σz) (poW (wM X) (tM X) (aM X) X sz) (aA (aM X) sz)) args s 0 0 (aA (aM X) sz)) (F0 m 20 ls [.int x6, .int x5, .int x4, .int x3, .ref (X.2.1 33)]) := by
    intro x3 x4 x5 x6 H locs ls Z hl h2
    rw [eJ7] at h2
    obtain ⟨r9, σ10, hc7, h3⟩ := db2_s h2
    clear h2
    refine cV_I [.int x3, .int x4, .int x5, .int x6] [] B mx_yX12_canNot (c_fMM_canNot l X _ x3 x4 x5 x6 σ r9 σ10 hc7) kl_RX12_208 mi_yX12_canNot (rv_33 _ _) hcl_12 Z hl rfl rfl ⟨Nat.le_of_ble_eq_true rfl, Nat.le_of_ble_eq_true rfl⟩ rfl rfl (Nat.le_of_ble_eq_true rfl) dX12_bringsRow_20 (fun H locs Z => ?_)
    clear hc7
    obtain ⟨J12, eJ12, h12⟩ := dlt_s h3
    clear h3
    have kJ12 : ∀ (x11 : Int32) (H : Heap) (locs : List Loc) (ls : Array Slot), Wd (wM X) (tM X) (aM X) X s σ10 H locs → lv_has ls 5 [(0, .ref (X.2.1 33)), (1, .int a1), (2, .int a2), (3, .int r2)] → J12 x11 = some (rz, σz) → W p l e rm_fMM_bringsRow s m args below meth c H locs 0 0 (MQ below (va_Qi (fun a u => a = rz ∧ u = σz) (poW (wM X) (tM X) (aM X) X sz) (aA (aM X) sz)) args s 0 0 (aA (aM X) sz)) (F0 m 31 ls [.int x11]) := by
      intro x11 H locs ls Z hl h4
      rw [eJ12] at h4
      refine lv_istore (lv' := [(4, .int x11), (0, .ref (X.2.1 33)), (1, .int a1), (2, .int a2), (3, .int r2)]) hx hb dX12_bringsRow_31 hl (by decide) rfl (fun ls hl => ?_)
      refine lv_iload hx hb dX12_bringsRow_33 (lv_at hl 0 rfl) ?_
      refine lv_if_eq (tgt := 58) hx hb dX12_bringsRow_35 (by decide) (fun c13 => ?_) (fun c13 => ?_)
      · have h5 := dit h4 c13
        clear h4
        refine lv_iconst (v := (0 : Int32)) hx hb dX12_bringsRow_58 (by decide) ?_
        exact reI B Z rfl hz h5 dX12_bringsRow_59
      · have h6 := dif h4 c13
        clear h4
        refine lv_iload_n hx hb dX12_bringsRow_38 rfl (lv_at hl 4 rfl) ?_
        refine lv_iconst (v := (2 : Int32)) hx hb dX12_bringsRow_39 (by decide) ?_
        refine lv_icmp_ne (tgt := 54) hx hb dX12_bringsRow_40 (by decide) (fun c14 => ?_) (fun c14 => ?_)
        · have h7 := dif h6 c14
          clear h6
          refine lv_iconst (v := (1 : Int32)) hx hb dX12_bringsRow_54 (by decide) ?_
          refine lv_goto (tgt := 59) hx hb dX12_bringsRow_55 (by decide) ?_
          exact reI B Z rfl hz h7 dX12_bringsRow_59
        · have h8 := dit h6 c14
          clear h6
          refine lv_aload_n hx hb dX12_bringsRow_43 rfl (lv_at hl 1 rfl) ?_
          refine lv_iload_n hx hb dX12_bringsRow_44 rfl (lv_at hl 2 rfl) ?_
          refine lv_iload_n hx hb dX12_bringsRow_45 rfl (lv_at hl 3 rfl) ?_
          refine lv_iconst (v := (0 : Int32)) hx hb dX12_bringsRow_46 (by decide) ?_
          refine lv_iconst (v := (1 : Int32)) hx hb dX12_bringsRow_47 (by decide) ?_
          obtain ⟨r16, σ17, hc14, h9⟩ := db2_s h8
          clear h8
          refine cV_I [.int a1, .int a2, .int (0 : Int32), .int (1 : Int32)] [] B mx_yX12_canNot (c_fMM_canNot l X _ a1 a2 (0 : Int32) (1 : Int32) σ10 r16 σ17 hc14) kl_RX12_208 mi_yX12_canNot (rv_33 _ _) hcl_12 Z hl rfl rfl ⟨Nat.le_of_ble_eq_true rfl, Nat.le_of_ble_eq_true rfl⟩ rfl rfl (Nat.le_of_ble_eq_true rfl) dX12_bringsRow_48 (fun H locs Z => ?_)
          clear hc14
          refine lv_if_ne (tgt := 58) hx hb dX12_bringsRow_51 (by decide) (fun c18 => ?_) (fun c18 => ?_)
          · have h10 := dif h9 c18
            clear h9
            refine lv_iconst (v := (0 : Int32)) hx hb dX12_bringsRow_58 (by decide) ?_
            exact reI B Z rfl hz h10 dX12_bringsRow_59
          · have h11 := dit h9 c18
            clear h9
            refine lv_iconst (v := (1 : Int32)) hx hb dX12_bringsRow_54 (by decide) ?_
            refine lv_goto (tgt := 59) hx hb dX12_bringsRow_55 (by decide) ?_
            exact reI B Z rfl hz h11 dX12_bringsRow_59
    clear eJ12
    refine lv_if_ne (tgt := 30) hx hb dX12_bringsRow_23 (by decide) (fun c19 => ?_) (fun c19 => ?_)
    · have h13 := dif h12 c19
      clear h12
      refine lv_iconst (v := (0 : Int32)) hx hb dX12_bringsRow_30 (by decide) ?_
      exact kJ12 (0 : Int32) _ _ _ Z (lv_sub hl [0, 1, 2, 3] rfl) h13
    · have h14 := dit h12 c19
      clear h12
      refine lv_iconst (v := (1 : Int32)) hx hb dX12_bringsRow_26 (by decide) ?_
      refine lv_goto (tgt := 31) hx hb dX12_bringsRow_27 (by decide) ?_
      exact kJ12 (1 : Int32) _ _ _ Z (lv_sub hl [0, 1, 2, 3] rfl) h14
  clear eJ7
  refine lv_if_eq (tgt := 19) hx hb dX12_bringsRow_12 (by decide) (fun c20 => ?_) (fun c20 => ?_)
  · have h16 := dit h15 c20
    clear h15
    refine lv_iconst (v := (0 : Int32)) hx hb dX12_bringsRow_19 (by decide) ?_
    exact kJ7 a1 a2 (1 : Int32) (0 : Int32) _ _ _ Z (lv_sub hl [1, 2, 3, 0] rfl) h16
  · have h17 := dif h15 c20
    clear h15
    refine lv_iconst (v := (1 : Int32)) hx hb dX12_bringsRow_15 (by decide) ?_
    refine lv_goto (tgt := 20) hx hb dX12_bringsRow_16 (by decide) ?_
    exact kJ7 a1 a2 (1 : Int32) (1 : Int32) _ _ _ Z (lv_sub hl [1, 2, 3, 0] rfl) h17
theorem dX12_brings_0 : decode cX12_brings 0 = .ok (.aload_n 0, 1) := by decide +kernel
theorem dX12_brings_1 : decode cX12_brings 1 = .ok (.iload_n 1, 1) := by decide +kernel
theorem dX12_brings_2 : decode cX12_brings 2 = .ok (.invokevirtual 183, 3) := by decide +kernel
theorem dX12_brings_5 : decode cX12_brings 5 = .ok (.ifCond .eq 28, 3) := by decide +kernel
theorem dX12_brings_8 : decode cX12_brings 8 = .ok (.aload_n 0, 1) := by decide +kernel
theorem dX12_brings_9 : decode cX12_brings 9 = .ok (.iload_n 2, 1) := by decide +kernel
theorem dX12_brings_10 : decode cX12_brings 10 = .ok (.invokevirtual 180, 3) := by decide +kernel
theorem dX12_brings_13 : decode cX12_brings 13 = .ok (.ifCond .eq 20, 3) := by decide +kernel
theorem dX12_brings_16 : decode cX12_brings 16 = .ok (.aload_n 0, 1) := by decide +kernel
theorem dX12_brings_17 : decode cX12_brings 17 = .ok (.iload_n 1, 1) := by decide +kernel
theorem dX12_brings_18 : decode cX12_brings 18 = .ok (.iload_n 2, 1) := by decide +kernel
theorem dX12_brings_19 : decode cX12_brings 19 = .ok (.invokevirtual 212, 3) := by decide +kernel
theorem dX12_brings_22 : decode cX12_brings 22 = .ok (.ifCond .eq 7, 3) := by decide +kernel
theorem dX12_brings_25 : decode cX12_brings 25 = .ok (.iconst 1, 1) := by decide +kernel
theorem dX12_brings_26 : decode cX12_brings 26 = .ok (.goto 13, 3) := by decide +kernel
theorem dX12_brings_29 : decode cX12_brings 29 = .ok (.iconst 0, 1) := by decide +kernel
theorem dX12_brings_30 : decode cX12_brings 30 = .ok (.goto 9, 3) := by decide +kernel
theorem dX12_brings_33 : decode cX12_brings 33 = .ok (.aload_n 0, 1) := by decide +kernel
theorem dX12_brings_34 : decode cX12_brings 34 = .ok (.ldc 63, 2) := by decide +kernel
theorem dX12_brings_36 : decode cX12_brings 36 = .ok (.invokevirtual 168, 3) := by decide +kernel
theorem dX12_brings_39 : decode cX12_brings 39 = .ok (.ireturn, 1) := by decide +kernel
def rm_fMM_brings : Room := { frames := 7, cells := 0, slots := 0, locals := 216 }
set_option maxHeartbeats 4000000 in
set_option maxRecDepth 100000 in
theorem c_fMM_brings (l : Launch) (X : eX) (sz : Nat) (a1 : Int32) (a2 : Int32) (σ : sT) (rz : Int32) (σz : sT) (h0 : fMM_brings a1 a2 σ = some (rz, σz)) : ctI l yX12_brings cX12_brings 3 (some .int) rm_fMM_brings [.ref (X.2.1 33), .int a1, .int a2] (wM X) (tM X) (aM X) X sz σ rz σz := by
  refine ct_of (by decide +kernel) (Nat.le_of_ble_eq_true rfl) ?_
  intro p e s m args below meth c ls hz B hl Z
  have B : Bd p s m args meth c RX12 cX12_brings 3 (some .int) := B
  have hl : lv_has ls 3 [(0, .ref (X.2.1 33)), (1, .int a1), (2, .int a2)] := hl
  have hx := B.1
  have hb := B.2.1
  unfold fMM_brings at h0
  refine lv_aload_n hx hb dX12_brings_0 rfl (lv_at hl 0 rfl) ?_
  refine lv_iload_n hx hb dX12_brings_1 rfl (lv_at hl 1 rfl) ?_
  obtain ⟨r2, hc0, h1⟩ := db1_s h0
  clear h0
  refine cV_I [.int a1] [] B mx_yX12_isSet (c_fMM_isSet l X _ a1 σ r2 hc0) kl_RX12_183 mi_yX12_isSet (rv_33 _ _) hcl_12 Z hl rfl rfl ⟨Nat.le_of_ble_eq_true rfl, Nat.le_of_ble_eq_true rfl⟩ rfl rfl (Nat.le_of_ble_eq_true rfl) dX12_brings_2 (fun H locs Z => ?_)
  clear hc0
  obtain ⟨J3, eJ3, h4⟩ := dlt_s h1
  clear h1
  have kJ3 : ∀ (H : Heap) (locs : List Loc) (ls : Array Slot), Wd (wM X) (tM X) (aM X) X s σ H locs → lv_has ls 3 [(0, .ref (X.2.1 33))] → J3 () = some (rz, σz) → W p l e rm_fMM_brings s m args below meth c H locs 0 0 (MQ below (va_Qi (fun a u => a = rz ∧ u = σz) (poW (wM X) (tM X) (aM X) X sz) (aA (aM X) sz)) args s 0 0 (aA (aM X) sz)) (F0 m 33 ls []) := by
    intro  H locs ls Z hl h2
    rw [eJ3] at h2
    refine lv_aload_n hx hb dX12_brings_33 rfl (lv_at hl 0 rfl) ?_
    refine lv_ldc hx hb B.2.2.2.1 (B.2.2.2.2.1 _ kc_RX12_63) dX12_brings_34 ?_
    obtain ⟨r5, σ6, hc3, h3⟩ := db2_s h2
    clear h2
    refine cV_I [.int (-1000002 : Int32)] [] B mx_yX12_refuses (c_fMM_refuses l X _ (-1000002 : Int32) σ r5 σ6 hc3) kl_RX12_168 mi_yX12_refuses (rv_33 _ _) hcl_12 Z hl rfl rfl ⟨Nat.le_of_ble_eq_true rfl, Nat.le_of_ble_eq_true rfl⟩ rfl rfl (Nat.le_of_ble_eq_true rfl) dX12_brings_36 (fun H locs Z => ?_)
    clear hc3
    exact reI B Z rfl hz h3 dX12_brings_39
  clear eJ3
  refine lv_if_eq (tgt := 33) hx hb dX12_brings_5 (by decide) (fun c7 => ?_) (fun c7 => ?_)
  · have h5 := dit h4 c7
    clear h4
    exact kJ3  _ _ _ Z (lv_sub hl [0] rfl) h5
  · have h6 := dif h4 c7
    clear h4
    refine lv_aload_n hx hb dX12_brings_8 rfl (lv_at hl 0 rfl) ?_
    refine lv_iload_n hx hb dX12_brings_9 rfl (lv_at hl 2 rfl) ?_
    obtain ⟨r9, hc7, h7⟩ := db1_s h6
    clear h6
    refine cV_I [.int a2] [] B mx_yX12_isRow (c_fMM_isRow l X _ a2 σ r9 hc7) kl_RX12_180 mi_yX12_isRow (rv_33 _ _) hcl_12 Z hl rfl rfl ⟨Nat.le_of_ble_eq_true rfl, Nat.le_of_ble_eq_true rfl⟩ rfl rfl (Nat.le_of_ble_eq_true rfl) dX12_brings_10 (fun H locs Z => ?_)
    clear hc7
    refine lv_if_eq (tgt := 33) hx hb dX12_brings_13 (by decide) (fun c10 => ?_) (fun c10 => ?_)
    · have h8 := dit h7 c10
      clear h7
      exact kJ3  _ _ _ Z (lv_sub hl [0] rfl) h8
    · have h9 := dif h7 c10
      clear h7
      refine lv_aload_n hx hb dX12_brings_16 rfl (lv_at hl 0 rfl) ?_
      refine lv_iload_n hx hb dX12_brings_17 rfl (lv_at hl 1 rfl) ?_
      refine lv_iload_n hx hb dX12_brings_18 rfl (lv_at hl 2 rfl) ?_
      obtain ⟨r12, σ13, hc10, h10⟩ := db2_s h9
      clear h9
      refine cV_I [.int a1, .int a2] [] B mx_yX12_bringsRow (c_fMM_bringsRow l X _ a1 a2 σ r12 σ13 hc10) kl_RX12_212 mi_yX12_bringsRow (rv_33 _ _) hcl_12 Z hl rfl rfl ⟨Nat.le_of_ble_eq_true rfl, Nat.le_of_ble_eq_true rfl⟩ rfl rfl (Nat.le_of_ble_eq_true rfl) dX12_brings_19 (fun H locs Z => ?_)
      clear hc10
      refine lv_if_eq (tgt := 29) hx hb dX12_brings_22 (by decide) (fun c14 => ?_) (fun c14 => ?_)
      · have h11 := dit h10 c14
        clear h10
        refine lv_iconst (v := (0 : Int32)) hx hb dX12_brings_29 (by decide) ?_
        refine lv_goto (tgt := 39) hx hb dX12_brings_30 (by decide) ?_
        exact reI B Z rfl hz h11 dX12_brings_39
      · have h12 := dif h10 c14
        clear h10
        refine lv_iconst (v := (1 : Int32)) hx hb dX12_brings_25 (by decide) ?_
        refine lv_goto (tgt := 39) hx hb dX12_brings_26 (by decide) ?_
        exact reI B Z rfl hz h12 dX12_brings_39
theorem dX12_spare_0 : decode cX12_spare 0 = .ok (.aload_n 0, 1) := by decide +kernel
theorem dX12_spare_1 : decode cX12_spare 1 = .ok (.iload_n 1, 1) := by decide +kernel
theorem dX12_spare_2 : decode cX12_spare 2 = .ok (.invokevirtual 183, 3) := by decide +kernel
theorem dX12_spare_5 : decode cX12_spare 5 = .ok (.ifCond .ne 10, 3) := by decide +kernel
theorem dX12_spare_8 : decode cX12_spare 8 = .ok (.aload_n 0, 1) := by decide +kernel
theorem dX12_spare_9 : decode cX12_spare 9 = .ok (.ldc 63, 2) := by decide +kernel
theorem dX12_spare_11 : decode cX12_spare 11 = .ok (.invokevirtual 168, 3) := by decide +kernel
theorem dX12_spare_14 : decode cX12_spare 14 = .ok (.ireturn, 1) := by decide +kernel
theorem dX12_spare_15 : decode cX12_spare 15 = .ok (.iconst 0, 1) := by decide +kernel
theorem dX12_spare_16 : decode cX12_spare 16 = .ok (.istore_n 2, 1) := by decide +kernel
theorem dX12_spare_17 : decode cX12_spare 17 = .ok (.iconst 0, 1) := by decide +kernel
theorem dX12_spare_18 : decode cX12_spare 18 = .ok (.istore_n 3, 1) := by decide +kernel
theorem dX12_spare_19 : decode cX12_spare 19 = .ok (.iload_n 3, 1) := by decide +kernel
theorem dX12_spare_20 : decode cX12_spare 20 = .ok (.aload_n 0, 1) := by decide +kernel
theorem dX12_spare_21 : decode cX12_spare 21 = .ok (.getfield 7, 3) := by decide +kernel
theorem dX12_spare_24 : decode cX12_spare 24 = .ok (.iconst 0, 1) := by decide +kernel
theorem dX12_spare_25 : decode cX12_spare 25 = .ok (.iaload, 1) := by decide +kernel
theorem dX12_spare_26 : decode cX12_spare 26 = .ok (.if_icmp .ge 42, 3) := by decide +kernel
theorem dX12_spare_29 : decode cX12_spare 29 = .ok (.iload_n 2, 1) := by decide +kernel
theorem dX12_spare_30 : decode cX12_spare 30 = .ok (.iload_n 1, 1) := by decide +kernel
theorem dX12_spare_31 : decode cX12_spare 31 = .ok (.iload_n 3, 1) := by decide +kernel
theorem dX12_spare_32 : decode cX12_spare 32 = .ok (.invokestatic 95, 3) := by decide +kernel
theorem dX12_spare_35 : decode cX12_spare 35 = .ok (.ifCond .eq 24, 3) := by decide +kernel
theorem dX12_spare_38 : decode cX12_spare 38 = .ok (.aload_n 0, 1) := by decide +kernel
theorem dX12_spare_39 : decode cX12_spare 39 = .ok (.iload_n 1, 1) := by decide +kernel
theorem dX12_spare_40 : decode cX12_spare 40 = .ok (.iconst 1, 1) := by decide +kernel
theorem dX12_spare_41 : decode cX12_spare 41 = .ok (.iload_n 3, 1) := by decide +kernel
theorem dX12_spare_42 : decode cX12_spare 42 = .ok (.ishl, 1) := by decide +kernel
theorem dX12_spare_43 : decode cX12_spare 43 = .ok (.iconst (-1), 1) := by decide +kernel
theorem dX12_spare_44 : decode cX12_spare 44 = .ok (.ixor, 1) := by decide +kernel
theorem dX12_spare_45 : decode cX12_spare 45 = .ok (.iand, 1) := by decide +kernel
theorem dX12_spare_46 : decode cX12_spare 46 = .ok (.iload_n 3, 1) := by decide +kernel
theorem dX12_spare_47 : decode cX12_spare 47 = .ok (.invokevirtual 212, 3) := by decide +kernel
theorem dX12_spare_50 : decode cX12_spare 50 = .ok (.ifCond .eq 9, 3) := by decide +kernel
theorem dX12_spare_53 : decode cX12_spare 53 = .ok (.iconst 1, 1) := by decide +kernel
theorem dX12_spare_54 : decode cX12_spare 54 = .ok (.iload_n 3, 1) := by decide +kernel
theorem dX12_spare_55 : decode cX12_spare 55 = .ok (.ishl, 1) := by decide +kernel
theorem dX12_spare_56 : decode cX12_spare 56 = .ok (.goto 4, 3) := by decide +kernel
theorem dX12_spare_59 : decode cX12_spare 59 = .ok (.iconst 0, 1) := by decide +kernel
theorem dX12_spare_60 : decode cX12_spare 60 = .ok (.ior, 1) := by decide +kernel
theorem dX12_spare_61 : decode cX12_spare 61 = .ok (.istore_n 2, 1) := by decide +kernel
theorem dX12_spare_62 : decode cX12_spare 62 = .ok (.iinc 3 1, 3) := by decide +kernel
theorem dX12_spare_65 : decode cX12_spare 65 = .ok (.goto (-46), 3) := by decide +kernel
theorem dX12_spare_68 : decode cX12_spare 68 = .ok (.iload_n 2, 1) := by decide +kernel
theorem dX12_spare_69 : decode cX12_spare 69 = .ok (.ireturn, 1) := by decide +kernel
def rm_fMM_spare : Room := { frames := 7, cells := 0, slots := 0, locals := 216 }
set_option maxHeartbeats 4000000 in
set_option maxRecDepth 100000 in
theorem c_fMM_spare (l : Launch) (X : eX) (sz : Nat) (a1 : Int32) (σ : sT) (rz : Int32) (σz : sT) (h0 : fMM_spare a1 σ = some (rz, σz)) : ctI l yX12_spare cX12_spare 4 (some .int) rm_fMM_spare [.ref (X.2.1 33), .int a1] (wM X) (tM X) (aM X) X sz σ rz σz := by
  refine ct_of (by decide +kernel) (Nat.le_of_ble_eq_true rfl) ?_
  intro p e s m args below meth c ls hz B hl Z
  have B : Bd p s m args meth c RX12 cX12_spare 4 (some .int) := B
  have hl : lv_has ls 4 [(0, .ref (X.2.1 33)), (1, .int a1)] := hl
  have hx := B.1
  have hb := B.2.1
  unfold fMM_spare at h0
  refine lv_aload_n hx hb dX12_spare_0 rfl (lv_at hl 0 rfl) ?_
  refine lv_iload_n hx hb dX12_spare_1 rfl (lv_at hl 1 rfl) ?_
  obtain ⟨r2, hc0, h1⟩ := db1_s h0
  clear h0
  refine cV_I [.int a1] [] B mx_yX12_isSet (c_fMM_isSet l X _ a1 σ r2 hc0) kl_RX12_183 mi_yX12_isSet (rv_33 _ _) hcl_12 Z hl rfl rfl ⟨Nat.le_of_ble_eq_true rfl, Nat.le_of_ble_eq_true rfl⟩ rfl rfl (Nat.le_of_ble_eq_true rfl) dX12_spare_2 (fun H locs Z => ?_)
  clear hc0
  refine lv_if_ne (tgt := 15) hx hb dX12_spare_5 (by decide) (fun c3 => ?_) (fun c3 => ?_)
  · have h2 := dif h1 c3
    clear h1
    refine lv_iconst (v := (0 : Int32)) hx hb dX12_spare_15 (by decide) ?_
    refine lv_istore_n (lv' := [(2, .int (0 : Int32)), (0, .ref (X.2.1 33)), (1, .int a1)]) hx hb dX12_spare_16 rfl hl (by decide) rfl (fun ls hl => ?_)
    refine lv_iconst (v := (0 : Int32)) hx hb dX12_spare_17 (by decide) ?_
    refine lv_istore_n (lv' := [(3, .int (0 : Int32)), (2, .int (0 : Int32)), (0, .ref (X.2.1 33)), (1, .int a1)]) hx hb dX12_spare_18 rfl hl (by decide) rfl (fun ls hl => ?_)
    have lL19 : ∀ (n : Nat), ∀ (x4 : Int32) (x5 : Int32) (σ6 : sT) (H : Heap) (locs : List Loc) (ls : Array Slot), Wd (wM X) (tM X) (aM X) X s σ6 H locs → lv_has ls 4 [(0, .ref (X.2.1 33)), (1, .int a1), (2, .int x4), (3, .int x5)] → fMM_spare_L19 a1 n x4 x5 σ6 = some (rz, σz) → W p l e rm_fMM_spare s m args below meth c H locs 0 0 (MQ below (va_Qi (fun a u => a = rz ∧ u = σz) (poW (wM X) (tM X) (aM X) X sz) (aA (aM X) sz)) args s 0 0 (aA (aM X) sz)) (F0 m 19 ls []) := by
      intro n
      induction n with
      | zero =>
        intro x4 x5 σ6 H locs ls Z hl h
        exact nomatch (show (none : Option (Int32 × sT)) = some _ from h)
      | succ n7 ih12 =>
        intro x4 x5 σ6 H locs ls Z hl h3
        unfold fMM_spare_L19 at h3
        refine lv_iload_n hx hb dX12_spare_19 rfl (lv_at hl 3 rfl) ?_
        refine lv_aload_n hx hb dX12_spare_20 rfl (lv_at hl 0 rfl) ?_
        refine g_33_0 B Z kf_RX12_7 dX12_spare_21 ?_
        refine lv_iconst (v := (0 : Int32)) hx hb dX12_spare_24 (by decide) ?_
        obtain ⟨z8, h4⟩ := dck_s h3
        clear h3
        refine ld_34 B Z z8 dX12_spare_25 ?_
        refine lv_icmp_ge (tgt := 68) hx hb dX12_spare_26 (by decide) (fun c9 => ?_) (fun c9 => ?_)
        · have h5 := dit h4 c9
          clear h4
          refine lv_iload_n hx hb dX12_spare_68 rfl (lv_at hl 2 rfl) ?_
          exact reI B Z rfl hz h5 dX12_spare_69
        · have h6 := dif h4 c9
          clear h4
          refine lv_iload_n hx hb dX12_spare_29 rfl (lv_at hl 2 rfl) ?_
          refine lv_iload_n hx hb dX12_spare_30 rfl (lv_at hl 1 rfl) ?_
          refine lv_iload_n hx hb dX12_spare_31 rfl (lv_at hl 3 rfl) ?_
          obtain ⟨r11, hc9, h7⟩ := db1_s h6
          clear h6
          refine cS_I [.int a1, .int x5] [.int x4] B mx_yX12_has (c_fMM_has l X _ a1 x5 σ6 r11 hc9) kl_RX12_95 ks_yX12_has Z hl rfl rfl ⟨Nat.le_of_ble_eq_true rfl, Nat.le_of_ble_eq_true rfl⟩ rfl rfl (Nat.le_of_ble_eq_true rfl) dX12_spare_32 (fun H locs Z => ?_)
          clear hc9
          refine lv_if_eq (tgt := 59) hx hb dX12_spare_35 (by decide) (fun c12 => ?_) (fun c12 => ?_)
          · have h8 := dit h7 c12
            clear h7
            refine lv_iconst (v := (0 : Int32)) hx hb dX12_spare_59 (by decide) ?_
            refine lv_ior hx hb dX12_spare_60 ?_
            refine lv_topi (fun x13 ex13 => ?_)
            have h9 := dlt_e ex13 h8
            clear ex13 h8
            refine lv_istore_n (lv' := [(2, .int x13), (0, .ref (X.2.1 33)), (1, .int a1), (3, .int x5)]) hx hb dX12_spare_61 rfl hl (by decide) rfl (fun ls hl => ?_)
            refine lv_iinc (v := x5 + (1 : Int32)) (lv' := [(3, .int (x5 + (1 : Int32))), (2, .int x13), (0, .ref (X.2.1 33)), (1, .int a1)]) hx hb dX12_spare_62 hl (k := 3) rfl (by rfl) (by decide) rfl (fun ls hl => ?_)
            refine lv_goto (tgt := 19) hx hb dX12_spare_65 (by decide) ?_
            exact ih12 x13 (x5 + (1 : Int32)) σ6 _ _ _ Z (lv_sub hl [2, 3, 1, 0] rfl) h9
          · have h10 := dif h7 c12
            clear h7
            refine lv_aload_n hx hb dX12_spare_38 rfl (lv_at hl 0 rfl) ?_
            refine lv_iload_n hx hb dX12_spare_39 rfl (lv_at hl 1 rfl) ?_
            refine lv_iconst (v := (1 : Int32)) hx hb dX12_spare_40 (by decide) ?_
            refine lv_iload_n hx hb dX12_spare_41 rfl (lv_at hl 3 rfl) ?_
            refine lv_ishl hx hb dX12_spare_42 ?_
            refine lv_iconst (v := (-1 : Int32)) hx hb dX12_spare_43 (by decide) ?_
            refine lv_ixor hx hb dX12_spare_44 ?_
            refine lv_iand hx hb dX12_spare_45 ?_
            refine lv_iload_n hx hb dX12_spare_46 rfl (lv_at hl 3 rfl) ?_
            obtain ⟨r15, σ16, hc13, h11⟩ := db2_s h10
            clear h10
            refine cV_I [.int (a1 &&& (((1 : Int32) <<< (x5 &&& 31)) ^^^ (-1 : Int32))), .int x5] [.int x4] B mx_yX12_bringsRow (c_fMM_bringsRow l X _ (a1 &&& (((1 : Int32) <<< (x5 &&& 31)) ^^^ (-1 : Int32))) x5 σ6 r15 σ16 hc13) kl_RX12_212 mi_yX12_bringsRow (rv_33 _ _) hcl_12 Z hl rfl rfl ⟨Nat.le_of_ble_eq_true rfl, Nat.le_of_ble_eq_true rfl⟩ rfl rfl (Nat.le_of_ble_eq_true rfl) dX12_spare_47 (fun H locs Z => ?_)
            clear hc13
            refine lv_if_eq (tgt := 59) hx hb dX12_spare_50 (by decide) (fun c17 => ?_) (fun c17 => ?_)
            · have h12 := dit h11 c17
              clear h11
              refine lv_iconst (v := (0 : Int32)) hx hb dX12_spare_59 (by decide) ?_
              refine lv_ior hx hb dX12_spare_60 ?_
              refine lv_topi (fun x18 ex18 => ?_)
              have h13 := dlt_e ex18 h12
              clear ex18 h12
              refine lv_istore_n (lv' := [(2, .int x18), (0, .ref (X.2.1 33)), (1, .int a1), (3, .int x5)]) hx hb dX12_spare_61 rfl hl (by decide) rfl (fun ls hl => ?_)
              refine lv_iinc (v := x5 + (1 : Int32)) (lv' := [(3, .int (x5 + (1 : Int32))), (2, .int x18), (0, .ref (X.2.1 33)), (1, .int a1)]) hx hb dX12_spare_62 hl (k := 3) rfl (by rfl) (by decide) rfl (fun ls hl => ?_)
              refine lv_goto (tgt := 19) hx hb dX12_spare_65 (by decide) ?_
              exact ih12 x18 (x5 + (1 : Int32)) σ16 _ _ _ Z (lv_sub hl [2, 3, 1, 0] rfl) h13
            · have h14 := dif h11 c17
              clear h11
              refine lv_iconst (v := (1 : Int32)) hx hb dX12_spare_53 (by decide) ?_
              refine lv_iload_n hx hb dX12_spare_54 rfl (lv_at hl 3 rfl) ?_
              refine lv_ishl hx hb dX12_spare_55 ?_
              refine lv_goto (tgt := 60) hx hb dX12_spare_56 (by decide) ?_
              refine lv_ior hx hb dX12_spare_60 ?_
              refine lv_topi (fun x19 ex19 => ?_)
              have h15 := dlt_e ex19 h14
              clear ex19 h14
              refine lv_istore_n (lv' := [(2, .int x19), (0, .ref (X.2.1 33)), (1, .int a1), (3, .int x5)]) hx hb dX12_spare_61 rfl hl (by decide) rfl (fun ls hl => ?_)
              refine lv_iinc (v := x5 + (1 : Int32)) (lv' := [(3, .int (x5 + (1 : Int32))), (2, .int x19), (0, .ref (X.2.1 33)), (1, .int a1)]) hx hb dX12_spare_62 hl (k := 3) rfl (by rfl) (by decide) rfl (fun ls hl => ?_)
              refine lv_goto (tgt := 19) hx hb dX12_spare_65 (by decide) ?_
              exact ih12 x19 (x5 + (1 : Int32)) σ16 _ _ _ Z (lv_sub hl [2, 3, 1, 0] rfl) h15
    exact lL19 FU (0 : Int32) (0 : Int32) σ _ _ _ Z (lv_sub hl [2, 3, 1, 0] rfl) h2
  · have h16 := dit h1 c3
    clear h1
    refine lv_aload_n hx hb dX12_spare_8 rfl (lv_at hl 0 rfl) ?_
    refine lv_ldc hx hb B.2.2.2.1 (B.2.2.2.2.1 _ kc_RX12_63) dX12_spare_9 ?_
    obtain ⟨r21, σ22, hc19, h17⟩ := db2_s h16
    clear h16
    refine cV_I [.int (-1000002 : Int32)] [] B mx_yX12_refuses (c_fMM_refuses l X _ (-1000002 : Int32) σ r21 σ22 hc19) kl_RX12_168 mi_yX12_refuses (rv_33 _ _) hcl_12 Z hl rfl rfl ⟨Nat.le_of_ble_eq_true rfl, Nat.le_of_ble_eq_true rfl⟩ rfl rfl (Nat.le_of_ble_eq_true rfl) dX12_spare_11 (fun H locs Z => ?_)
    clear hc19
    exact reI B Z rfl hz h17 dX12_spare_14
theorem dX12_bringsAll_0 : decode cX12_bringsAll 0 = .ok (.iconst 1, 1) := by decide +kernel
theorem dX12_bringsAll_1 : decode cX12_bringsAll 1 = .ok (.istore_n 3, 1) := by decide +kernel
theorem dX12_bringsAll_2 : decode cX12_bringsAll 2 = .ok (.iconst 0, 1) := by decide +kernel
theorem dX12_bringsAll_3 : decode cX12_bringsAll 3 = .ok (.istore 4, 2) := by decide +kernel
theorem dX12_bringsAll_5 : decode cX12_bringsAll 5 = .ok (.iload 4, 2) := by decide +kernel
theorem dX12_bringsAll_7 : decode cX12_bringsAll 7 = .ok (.bipush 12, 2) := by decide +kernel
theorem dX12_bringsAll_9 : decode cX12_bringsAll 9 = .ok (.if_icmp .ge 38, 3) := by decide +kernel
theorem dX12_bringsAll_12 : decode cX12_bringsAll 12 = .ok (.iload_n 3, 1) := by decide +kernel
theorem dX12_bringsAll_13 : decode cX12_bringsAll 13 = .ok (.ifCond .eq 26, 3) := by decide +kernel
theorem dX12_bringsAll_16 : decode cX12_bringsAll 16 = .ok (.iload_n 2, 1) := by decide +kernel
theorem dX12_bringsAll_17 : decode cX12_bringsAll 17 = .ok (.iload 4, 2) := by decide +kernel
theorem dX12_bringsAll_19 : decode cX12_bringsAll 19 = .ok (.invokestatic 95, 3) := by decide +kernel
theorem dX12_bringsAll_22 : decode cX12_bringsAll 22 = .ok (.ifCond .eq 13, 3) := by decide +kernel
theorem dX12_bringsAll_25 : decode cX12_bringsAll 25 = .ok (.aload_n 0, 1) := by decide +kernel
theorem dX12_bringsAll_26 : decode cX12_bringsAll 26 = .ok (.iload_n 1, 1) := by decide +kernel
theorem dX12_bringsAll_27 : decode cX12_bringsAll 27 = .ok (.iload 4, 2) := by decide +kernel
theorem dX12_bringsAll_29 : decode cX12_bringsAll 29 = .ok (.invokevirtual 212, 3) := by decide +kernel
theorem dX12_bringsAll_32 : decode cX12_bringsAll 32 = .ok (.ifCond .eq 7, 3) := by decide +kernel
theorem dX12_bringsAll_35 : decode cX12_bringsAll 35 = .ok (.iconst 1, 1) := by decide +kernel
theorem dX12_bringsAll_36 : decode cX12_bringsAll 36 = .ok (.goto 4, 3) := by decide +kernel
theorem dX12_bringsAll_39 : decode cX12_bringsAll 39 = .ok (.iconst 0, 1) := by decide +kernel
theorem dX12_bringsAll_40 : decode cX12_bringsAll 40 = .ok (.istore_n 3, 1) := by decide +kernel
theorem dX12_bringsAll_41 : decode cX12_bringsAll 41 = .ok (.iinc 4 1, 3) := by decide +kernel
theorem dX12_bringsAll_44 : decode cX12_bringsAll 44 = .ok (.goto (-39), 3) := by decide +kernel
theorem dX12_bringsAll_47 : decode cX12_bringsAll 47 = .ok (.iload_n 3, 1) := by decide +kernel
theorem dX12_bringsAll_48 : decode cX12_bringsAll 48 = .ok (.ireturn, 1) := by decide +kernel
def rm_fMM_bringsAll : Room := { frames := 7, cells := 0, slots := 0, locals := 216 }
set_option maxHeartbeats 4000000 in
set_option maxRecDepth 100000 in
theorem c_fMM_bringsAll (l : Launch) (X : eX) (sz : Nat) (a1 : Int32) (a2 : Int32) (σ : sT) (rz : Int32) (σz : sT) (h0 : fMM_bringsAll a1 a2 σ = some (rz, σz)) : ctI l yX12_bringsAll cX12_bringsAll 5 (some .boolean) rm_fMM_bringsAll [.ref (X.2.1 33), .int a1, .int a2] (wM X) (tM X) (aM X) X sz σ rz σz := by
  refine ct_of (by decide +kernel) (Nat.le_of_ble_eq_true rfl) ?_
  intro p e s m args below meth c ls hz B hl Z
  have B : Bd p s m args meth c RX12 cX12_bringsAll 5 (some .boolean) := B
  have hl : lv_has ls 5 [(0, .ref (X.2.1 33)), (1, .int a1), (2, .int a2)] := hl
  have hx := B.1
  have hb := B.2.1
  unfold fMM_bringsAll at h0
  refine lv_iconst (v := (1 : Int32)) hx hb dX12_bringsAll_0 (by decide) ?_
  refine lv_istore_n (lv' := [(3, .int (1 : Int32)), (0, .ref (X.2.1 33)), (1, .int a1), (2, .int a2)]) hx hb dX12_bringsAll_1 rfl hl (by decide) rfl (fun ls hl => ?_)
  refine lv_iconst (v := (0 : Int32)) hx hb dX12_bringsAll_2 (by decide) ?_
  refine lv_istore (lv' := [(4, .int (0 : Int32)), (3, .int (1 : Int32)), (0, .ref (X.2.1 33)), (1, .int a1), (2, .int a2)]) hx hb dX12_bringsAll_3 hl (by decide) rfl (fun ls hl => ?_)
  have lL5 : ∀ (n : Nat), ∀ (x1 : Int32) (x2 : Int32) (σ3 : sT) (H : Heap) (locs : List Loc) (ls : Array Slot), Wd (wM X) (tM X) (aM X) X s σ3 H locs → lv_has ls 5 [(0, .ref (X.2.1 33)), (1, .int a1), (2, .int a2), (3, .int x1), (4, .int x2)] → fMM_bringsAll_L5 a1 a2 n x1 x2 σ3 = some (rz, σz) → W p l e rm_fMM_bringsAll s m args below meth c H locs 0 0 (MQ below (va_Qi (fun a u => a = rz ∧ u = σz) (poW (wM X) (tM X) (aM X) X sz) (aA (aM X) sz)) args s 0 0 (aA (aM X) sz)) (F0 m 5 ls []) := by
    intro n
    induction n with
    | zero =>
      intro x1 x2 σ3 H locs ls Z hl h
      exact nomatch (show (none : Option (Int32 × sT)) = some _ from h)
    | succ n4 ih4 =>
      intro x1 x2 σ3 H locs ls Z hl h1
      unfold fMM_bringsAll_L5 at h1
      refine lv_iload hx hb dX12_bringsAll_5 (lv_at hl 4 rfl) ?_
      refine lv_bipush (v := (12 : Int32)) hx hb dX12_bringsAll_7 (by decide) ?_
      refine lv_icmp_ge (tgt := 47) hx hb dX12_bringsAll_9 (by decide) (fun c5 => ?_) (fun c5 => ?_)
      · have h2 := dit h1 c5
        clear h1
        refine lv_iload_n hx hb dX12_bringsAll_47 rfl (lv_at hl 3 rfl) ?_
        obtain ⟨z6, h3⟩ := dck_s h2
        clear h2
        exact reI B Z (okZ_n z6) hz h3 dX12_bringsAll_48
      · have h4 := dif h1 c5
        clear h1
        refine lv_iload_n hx hb dX12_bringsAll_12 rfl (lv_at hl 3 rfl) ?_
        refine lv_if_eq (tgt := 39) hx hb dX12_bringsAll_13 (by decide) (fun c7 => ?_) (fun c7 => ?_)
        · have h5 := dit h4 c7
          clear h4
          refine lv_iconst (v := (0 : Int32)) hx hb dX12_bringsAll_39 (by decide) ?_
          refine lv_istore_n (lv' := [(3, .int (0 : Int32)), (0, .ref (X.2.1 33)), (1, .int a1), (2, .int a2), (4, .int x2)]) hx hb dX12_bringsAll_40 rfl hl (by decide) rfl (fun ls hl => ?_)
          refine lv_iinc (v := x2 + (1 : Int32)) (lv' := [(4, .int (x2 + (1 : Int32))), (3, .int (0 : Int32)), (0, .ref (X.2.1 33)), (1, .int a1), (2, .int a2)]) hx hb dX12_bringsAll_41 hl (k := 4) rfl (by rfl) (by decide) rfl (fun ls hl => ?_)
          refine lv_goto (tgt := 5) hx hb dX12_bringsAll_44 (by decide) ?_
          exact ih4 (0 : Int32) (x2 + (1 : Int32)) σ3 _ _ _ Z (lv_sub hl [2, 3, 4, 1, 0] rfl) h5
        · have h6 := dif h4 c7
          clear h4
          refine lv_iload_n hx hb dX12_bringsAll_16 rfl (lv_at hl 2 rfl) ?_
          refine lv_iload hx hb dX12_bringsAll_17 (lv_at hl 4 rfl) ?_
          obtain ⟨r9, hc7, h7⟩ := db1_s h6
          clear h6
          refine cS_I [.int a2, .int x2] [] B mx_yX12_has (c_fMM_has l X _ a2 x2 σ3 r9 hc7) kl_RX12_95 ks_yX12_has Z hl rfl rfl ⟨Nat.le_of_ble_eq_true rfl, Nat.le_of_ble_eq_true rfl⟩ rfl rfl (Nat.le_of_ble_eq_true rfl) dX12_bringsAll_19 (fun H locs Z => ?_)
          clear hc7
          refine lv_if_eq (tgt := 35) hx hb dX12_bringsAll_22 (by decide) (fun c10 => ?_) (fun c10 => ?_)
          · have h8 := dit h7 c10
            clear h7
            refine lv_iconst (v := (1 : Int32)) hx hb dX12_bringsAll_35 (by decide) ?_
            refine lv_goto (tgt := 40) hx hb dX12_bringsAll_36 (by decide) ?_
            refine lv_istore_n (lv' := [(3, .int (1 : Int32)), (0, .ref (X.2.1 33)), (1, .int a1), (2, .int a2), (4, .int x2)]) hx hb dX12_bringsAll_40 rfl hl (by decide) rfl (fun ls hl => ?_)
            refine lv_iinc (v := x2 + (1 : Int32)) (lv' := [(4, .int (x2 + (1 : Int32))), (3, .int (1 : Int32)), (0, .ref (X.2.1 33)), (1, .int a1), (2, .int a2)]) hx hb dX12_bringsAll_41 hl (k := 4) rfl (by rfl) (by decide) rfl (fun ls hl => ?_)
            refine lv_goto (tgt := 5) hx hb dX12_bringsAll_44 (by decide) ?_
            exact ih4 (1 : Int32) (x2 + (1 : Int32)) σ3 _ _ _ Z (lv_sub hl [2, 3, 4, 1, 0] rfl) h8
          · have h9 := dif h7 c10
            clear h7
            refine lv_aload_n hx hb dX12_bringsAll_25 rfl (lv_at hl 0 rfl) ?_
            refine lv_iload_n hx hb dX12_bringsAll_26 rfl (lv_at hl 1 rfl) ?_
            refine lv_iload hx hb dX12_bringsAll_27 (lv_at hl 4 rfl) ?_
            obtain ⟨r12, σ13, hc10, h10⟩ := db2_s h9
            clear h9
            refine cV_I [.int a1, .int x2] [] B mx_yX12_bringsRow (c_fMM_bringsRow l X _ a1 x2 σ3 r12 σ13 hc10) kl_RX12_212 mi_yX12_bringsRow (rv_33 _ _) hcl_12 Z hl rfl rfl ⟨Nat.le_of_ble_eq_true rfl, Nat.le_of_ble_eq_true rfl⟩ rfl rfl (Nat.le_of_ble_eq_true rfl) dX12_bringsAll_29 (fun H locs Z => ?_)
            clear hc10
            refine lv_if_eq (tgt := 39) hx hb dX12_bringsAll_32 (by decide) (fun c14 => ?_) (fun c14 => ?_)
            · have h11 := dit h10 c14
              clear h10
              refine lv_iconst (v := (0 : Int32)) hx hb dX12_bringsAll_39 (by decide) ?_
              refine lv_istore_n (lv' := [(3, .int (0 : Int32)), (0, .ref (X.2.1 33)), (1, .int a1), (2, .int a2), (4, .int x2)]) hx hb dX12_bringsAll_40 rfl hl (by decide) rfl (fun ls hl => ?_)
              refine lv_iinc (v := x2 + (1 : Int32)) (lv' := [(4, .int (x2 + (1 : Int32))), (3, .int (0 : Int32)), (0, .ref (X.2.1 33)), (1, .int a1), (2, .int a2)]) hx hb dX12_bringsAll_41 hl (k := 4) rfl (by rfl) (by decide) rfl (fun ls hl => ?_)
              refine lv_goto (tgt := 5) hx hb dX12_bringsAll_44 (by decide) ?_
              exact ih4 (0 : Int32) (x2 + (1 : Int32)) σ13 _ _ _ Z (lv_sub hl [2, 3, 4, 1, 0] rfl) h11
            · have h12 := dif h10 c14
              clear h10
              refine lv_iconst (v := (1 : Int32)) hx hb dX12_bringsAll_35 (by decide) ?_
              refine lv_goto (tgt := 40) hx hb dX12_bringsAll_36 (by decide) ?_
              refine lv_istore_n (lv' := [(3, .int (1 : Int32)), (0, .ref (X.2.1 33)), (1, .int a1), (2, .int a2), (4, .int x2)]) hx hb dX12_bringsAll_40 rfl hl (by decide) rfl (fun ls hl => ?_)
              refine lv_iinc (v := x2 + (1 : Int32)) (lv' := [(4, .int (x2 + (1 : Int32))), (3, .int (1 : Int32)), (0, .ref (X.2.1 33)), (1, .int a1), (2, .int a2)]) hx hb dX12_bringsAll_41 hl (k := 4) rfl (by rfl) (by decide) rfl (fun ls hl => ?_)
              refine lv_goto (tgt := 5) hx hb dX12_bringsAll_44 (by decide) ?_
              exact ih4 (1 : Int32) (x2 + (1 : Int32)) σ13 _ _ _ Z (lv_sub hl [2, 3, 4, 1, 0] rfl) h12
  exact lL5 FU (1 : Int32) (0 : Int32) σ _ _ _ Z (lv_sub hl [2, 3, 4, 1, 0] rfl) h0
theorem dX12_same_0 : decode cX12_same 0 = .ok (.aload_n 0, 1) := by decide +kernel
theorem dX12_same_1 : decode cX12_same 1 = .ok (.iload_n 1, 1) := by decide +kernel
theorem dX12_same_2 : decode cX12_same 2 = .ok (.invokevirtual 183, 3) := by decide +kernel
theorem dX12_same_5 : decode cX12_same 5 = .ok (.ifCond .eq 11, 3) := by decide +kernel
theorem dX12_same_8 : decode cX12_same 8 = .ok (.aload_n 0, 1) := by decide +kernel
theorem dX12_same_9 : decode cX12_same 9 = .ok (.iload_n 2, 1) := by decide +kernel
theorem dX12_same_10 : decode cX12_same 10 = .ok (.invokevirtual 183, 3) := by decide +kernel
theorem dX12_same_13 : decode cX12_same 13 = .ok (.ifCond .ne 10, 3) := by decide +kernel
theorem dX12_same_16 : decode cX12_same 16 = .ok (.aload_n 0, 1) := by decide +kernel
theorem dX12_same_17 : decode cX12_same 17 = .ok (.ldc 63, 2) := by decide +kernel
theorem dX12_same_19 : decode cX12_same 19 = .ok (.invokevirtual 168, 3) := by decide +kernel
theorem dX12_same_22 : decode cX12_same 22 = .ok (.ireturn, 1) := by decide +kernel
theorem dX12_same_23 : decode cX12_same 23 = .ok (.aload_n 0, 1) := by decide +kernel
theorem dX12_same_24 : decode cX12_same 24 = .ok (.iload_n 1, 1) := by decide +kernel
theorem dX12_same_25 : decode cX12_same 25 = .ok (.iload_n 2, 1) := by decide +kernel
theorem dX12_same_26 : decode cX12_same 26 = .ok (.invokevirtual 215, 3) := by decide +kernel
theorem dX12_same_29 : decode cX12_same 29 = .ok (.ifCond .eq 16, 3) := by decide +kernel
theorem dX12_same_32 : decode cX12_same 32 = .ok (.aload_n 0, 1) := by decide +kernel
theorem dX12_same_33 : decode cX12_same 33 = .ok (.iload_n 2, 1) := by decide +kernel
theorem dX12_same_34 : decode cX12_same 34 = .ok (.iload_n 1, 1) := by decide +kernel
theorem dX12_same_35 : decode cX12_same 35 = .ok (.invokevirtual 215, 3) := by decide +kernel
theorem dX12_same_38 : decode cX12_same 38 = .ok (.ifCond .eq 7, 3) := by decide +kernel
theorem dX12_same_41 : decode cX12_same 41 = .ok (.iconst 1, 1) := by decide +kernel
theorem dX12_same_42 : decode cX12_same 42 = .ok (.goto 4, 3) := by decide +kernel
theorem dX12_same_45 : decode cX12_same 45 = .ok (.iconst 0, 1) := by decide +kernel
theorem dX12_same_46 : decode cX12_same 46 = .ok (.ireturn, 1) := by decide +kernel
def rm_fMM_same : Room := { frames := 8, cells := 0, slots := 0, locals := 240 }
set_option maxHeartbeats 4000000 in
set_option maxRecDepth 100000 in
theorem c_fMM_same (l : Launch) (X : eX) (sz : Nat) (a1 : Int32) (a2 : Int32) (σ : sT) (rz : Int32) (σz : sT) (h0 : fMM_same a1 a2 σ = some (rz, σz)) : ctI l yX12_same cX12_same 3 (some .int) rm_fMM_same [.ref (X.2.1 33), .int a1, .int a2] (wM X) (tM X) (aM X) X sz σ rz σz := by
  refine ct_of (by decide +kernel) (Nat.le_of_ble_eq_true rfl) ?_
  intro p e s m args below meth c ls hz B hl Z
  have B : Bd p s m args meth c RX12 cX12_same 3 (some .int) := B
  have hl : lv_has ls 3 [(0, .ref (X.2.1 33)), (1, .int a1), (2, .int a2)] := hl
  have hx := B.1
  have hb := B.2.1
  unfold fMM_same at h0
  refine lv_aload_n hx hb dX12_same_0 rfl (lv_at hl 0 rfl) ?_
  refine lv_iload_n hx hb dX12_same_1 rfl (lv_at hl 1 rfl) ?_
  obtain ⟨r2, hc0, h1⟩ := db1_s h0
  clear h0
  refine cV_I [.int a1] [] B mx_yX12_isSet (c_fMM_isSet l X _ a1 σ r2 hc0) kl_RX12_183 mi_yX12_isSet (rv_33 _ _) hcl_12 Z hl rfl rfl ⟨Nat.le_of_ble_eq_true rfl, Nat.le_of_ble_eq_true rfl⟩ rfl rfl (Nat.le_of_ble_eq_true rfl) dX12_same_2 (fun H locs Z => ?_)
  clear hc0
  obtain ⟨J3, eJ3, h4⟩ := dlt_s h1
  clear h1
  have kJ3 : ∀ (H : Heap) (locs : List Loc) (ls : Array Slot), Wd (wM X) (tM X) (aM X) X s σ H locs → lv_has ls 3 [(0, .ref (X.2.1 33))] → J3 () = some (rz, σz) → W p l e rm_fMM_same s m args below meth c H locs 0 0 (MQ below (va_Qi (fun a u => a = rz ∧ u = σz) (poW (wM X) (tM X) (aM X) X sz) (aA (aM X) sz)) args s 0 0 (aA (aM X) sz)) (F0 m 16 ls []) := by
    intro  H locs ls Z hl h2
    rw [eJ3] at h2
    refine lv_aload_n hx hb dX12_same_16 rfl (lv_at hl 0 rfl) ?_
    refine lv_ldc hx hb B.2.2.2.1 (B.2.2.2.2.1 _ kc_RX12_63) dX12_same_17 ?_
    obtain ⟨r5, σ6, hc3, h3⟩ := db2_s h2
    clear h2
    refine cV_I [.int (-1000002 : Int32)] [] B mx_yX12_refuses (c_fMM_refuses l X _ (-1000002 : Int32) σ r5 σ6 hc3) kl_RX12_168 mi_yX12_refuses (rv_33 _ _) hcl_12 Z hl rfl rfl ⟨Nat.le_of_ble_eq_true rfl, Nat.le_of_ble_eq_true rfl⟩ rfl rfl (Nat.le_of_ble_eq_true rfl) dX12_same_19 (fun H locs Z => ?_)
    clear hc3
    exact reI B Z rfl hz h3 dX12_same_22
  clear eJ3
  refine lv_if_eq (tgt := 16) hx hb dX12_same_5 (by decide) (fun c7 => ?_) (fun c7 => ?_)
  · have h5 := dit h4 c7
    clear h4
    exact kJ3  _ _ _ Z (lv_sub hl [0] rfl) h5
  · have h6 := dif h4 c7
    clear h4
    refine lv_aload_n hx hb dX12_same_8 rfl (lv_at hl 0 rfl) ?_
    refine lv_iload_n hx hb dX12_same_9 rfl (lv_at hl 2 rfl) ?_
    obtain ⟨r9, hc7, h7⟩ := db1_s h6
    clear h6
    refine cV_I [.int a2] [] B mx_yX12_isSet (c_fMM_isSet l X _ a2 σ r9 hc7) kl_RX12_183 mi_yX12_isSet (rv_33 _ _) hcl_12 Z hl rfl rfl ⟨Nat.le_of_ble_eq_true rfl, Nat.le_of_ble_eq_true rfl⟩ rfl rfl (Nat.le_of_ble_eq_true rfl) dX12_same_10 (fun H locs Z => ?_)
    clear hc7
    refine lv_if_ne (tgt := 23) hx hb dX12_same_13 (by decide) (fun c10 => ?_) (fun c10 => ?_)
    · have h8 := dif h7 c10
      clear h7
      refine lv_aload_n hx hb dX12_same_23 rfl (lv_at hl 0 rfl) ?_
      refine lv_iload_n hx hb dX12_same_24 rfl (lv_at hl 1 rfl) ?_
      refine lv_iload_n hx hb dX12_same_25 rfl (lv_at hl 2 rfl) ?_
      obtain ⟨r12, σ13, hc10, h9⟩ := db2_s h8
      clear h8
      refine cV_I [.int a1, .int a2] [] B mx_yX12_bringsAll (c_fMM_bringsAll l X _ a1 a2 σ r12 σ13 hc10) kl_RX12_215 mi_yX12_bringsAll (rv_33 _ _) hcl_12 Z hl rfl rfl ⟨Nat.le_of_ble_eq_true rfl, Nat.le_of_ble_eq_true rfl⟩ rfl rfl (Nat.le_of_ble_eq_true rfl) dX12_same_26 (fun H locs Z => ?_)
      clear hc10
      refine lv_if_eq (tgt := 45) hx hb dX12_same_29 (by decide) (fun c14 => ?_) (fun c14 => ?_)
      · have h10 := dit h9 c14
        clear h9
        refine lv_iconst (v := (0 : Int32)) hx hb dX12_same_45 (by decide) ?_
        exact reI B Z rfl hz h10 dX12_same_46
      · have h11 := dif h9 c14
        clear h9
        refine lv_aload_n hx hb dX12_same_32 rfl (lv_at hl 0 rfl) ?_
        refine lv_iload_n hx hb dX12_same_33 rfl (lv_at hl 2 rfl) ?_
        refine lv_iload_n hx hb dX12_same_34 rfl (lv_at hl 1 rfl) ?_
        obtain ⟨r16, σ17, hc14, h12⟩ := db2_s h11
        clear h11
        refine cV_I [.int a2, .int a1] [] B mx_yX12_bringsAll (c_fMM_bringsAll l X _ a2 a1 σ13 r16 σ17 hc14) kl_RX12_215 mi_yX12_bringsAll (rv_33 _ _) hcl_12 Z hl rfl rfl ⟨Nat.le_of_ble_eq_true rfl, Nat.le_of_ble_eq_true rfl⟩ rfl rfl (Nat.le_of_ble_eq_true rfl) dX12_same_35 (fun H locs Z => ?_)
        clear hc14
        refine lv_if_eq (tgt := 45) hx hb dX12_same_38 (by decide) (fun c18 => ?_) (fun c18 => ?_)
        · have h13 := dit h12 c18
          clear h12
          refine lv_iconst (v := (0 : Int32)) hx hb dX12_same_45 (by decide) ?_
          exact reI B Z rfl hz h13 dX12_same_46
        · have h14 := dif h12 c18
          clear h12
          refine lv_iconst (v := (1 : Int32)) hx hb dX12_same_41 (by decide) ?_
          refine lv_goto (tgt := 46) hx hb dX12_same_42 (by decide) ?_
          exact reI B Z rfl hz h14 dX12_same_46
    · have h15 := dit h7 c10
      clear h7
      exact kJ3  _ _ _ Z (lv_sub hl [0] rfl) h15
