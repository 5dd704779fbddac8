theorem dX12_laysWith_0 : decode cX12_laysWith 0 = .ok (.iload_n 2, 1) := by decide +kernel
theorem dX12_laysWith_1 : decode cX12_laysWith 1 = .ok (.ifCond .le 12, 3) := by decide +kernel
theorem dX12_laysWith_4 : decode cX12_laysWith 4 = .ok (.aload_n 0, 1) := by decide +kernel
theorem dX12_laysWith_5 : decode cX12_laysWith 5 = .ok (.getfield 29, 3) := by decide +kernel
theorem dX12_laysWith_8 : decode cX12_laysWith 8 = .ok (.iconst 0, 1) := by decide +kernel
theorem dX12_laysWith_9 : decode cX12_laysWith 9 = .ok (.laload, 1) := by decide +kernel
theorem dX12_laysWith_10 : decode cX12_laysWith 10 = .ok (.goto 4, 3) := by decide +kernel
theorem dX12_laysWith_13 : decode cX12_laysWith 13 = .ok (.lconst 0, 1) := by decide +kernel
theorem dX12_laysWith_14 : decode cX12_laysWith 14 = .ok (.lstore_n 3, 1) := by decide +kernel
theorem dX12_laysWith_15 : decode cX12_laysWith 15 = .ok (.iload_n 2, 1) := by decide +kernel
theorem dX12_laysWith_16 : decode cX12_laysWith 16 = .ok (.ifCond .le 12, 3) := by decide +kernel
theorem dX12_laysWith_19 : decode cX12_laysWith 19 = .ok (.aload_n 0, 1) := by decide +kernel
theorem dX12_laysWith_20 : decode cX12_laysWith 20 = .ok (.getfield 29, 3) := by decide +kernel
theorem dX12_laysWith_23 : decode cX12_laysWith 23 = .ok (.iconst 1, 1) := by decide +kernel
theorem dX12_laysWith_24 : decode cX12_laysWith 24 = .ok (.laload, 1) := by decide +kernel
theorem dX12_laysWith_25 : decode cX12_laysWith 25 = .ok (.goto 4, 3) := by decide +kernel
theorem dX12_laysWith_28 : decode cX12_laysWith 28 = .ok (.lconst 1, 1) := by decide +kernel
theorem dX12_laysWith_29 : decode cX12_laysWith 29 = .ok (.lstore 5, 2) := by decide +kernel
theorem dX12_laysWith_31 : decode cX12_laysWith 31 = .ok (.iload_n 2, 1) := by decide +kernel
theorem dX12_laysWith_32 : decode cX12_laysWith 32 = .ok (.iconst 1, 1) := by decide +kernel
theorem dX12_laysWith_33 : decode cX12_laysWith 33 = .ok (.if_icmp .le 12, 3) := by decide +kernel
theorem dX12_laysWith_36 : decode cX12_laysWith 36 = .ok (.aload_n 0, 1) := by decide +kernel
theorem dX12_laysWith_37 : decode cX12_laysWith 37 = .ok (.getfield 29, 3) := by decide +kernel
theorem dX12_laysWith_40 : decode cX12_laysWith 40 = .ok (.iconst 2, 1) := by decide +kernel
theorem dX12_laysWith_41 : decode cX12_laysWith 41 = .ok (.laload, 1) := by decide +kernel
theorem dX12_laysWith_42 : decode cX12_laysWith 42 = .ok (.goto 4, 3) := by decide +kernel
theorem dX12_laysWith_45 : decode cX12_laysWith 45 = .ok (.lconst 0, 1) := by decide +kernel
theorem dX12_laysWith_46 : decode cX12_laysWith 46 = .ok (.lstore 7, 2) := by decide +kernel
theorem dX12_laysWith_48 : decode cX12_laysWith 48 = .ok (.iload_n 2, 1) := by decide +kernel
theorem dX12_laysWith_49 : decode cX12_laysWith 49 = .ok (.iconst 1, 1) := by decide +kernel
theorem dX12_laysWith_50 : decode cX12_laysWith 50 = .ok (.if_icmp .le 12, 3) := by decide +kernel
theorem dX12_laysWith_53 : decode cX12_laysWith 53 = .ok (.aload_n 0, 1) := by decide +kernel
theorem dX12_laysWith_54 : decode cX12_laysWith 54 = .ok (.getfield 29, 3) := by decide +kernel
theorem dX12_laysWith_57 : decode cX12_laysWith 57 = .ok (.iconst 3, 1) := by decide +kernel
theorem dX12_laysWith_58 : decode cX12_laysWith 58 = .ok (.laload, 1) := by decide +kernel
theorem dX12_laysWith_59 : decode cX12_laysWith 59 = .ok (.goto 4, 3) := by decide +kernel
theorem dX12_laysWith_62 : decode cX12_laysWith 62 = .ok (.lconst 1, 1) := by decide +kernel
theorem dX12_laysWith_63 : decode cX12_laysWith 63 = .ok (.lstore 9, 2) := by decide +kernel
theorem dX12_laysWith_65 : decode cX12_laysWith 65 = .ok (.lload 5, 2) := by decide +kernel
theorem dX12_laysWith_67 : decode cX12_laysWith 67 = .ok (.lload 9, 2) := by decide +kernel
theorem dX12_laysWith_69 : decode cX12_laysWith 69 = .ok (.invokestatic 204, 3) := by decide +kernel
theorem dX12_laysWith_72 : decode cX12_laysWith 72 = .ok (.lstore 11, 2) := by decide +kernel
theorem dX12_laysWith_74 : decode cX12_laysWith 74 = .ok (.lload 5, 2) := by decide +kernel
theorem dX12_laysWith_76 : decode cX12_laysWith 76 = .ok (.lload 11, 2) := by decide +kernel
theorem dX12_laysWith_78 : decode cX12_laysWith 78 = .ok (.ldiv, 1) := by decide +kernel
theorem dX12_laysWith_79 : decode cX12_laysWith 79 = .ok (.lload 9, 2) := by decide +kernel
theorem dX12_laysWith_81 : decode cX12_laysWith 81 = .ok (.lmul, 1) := by decide +kernel
theorem dX12_laysWith_82 : decode cX12_laysWith 82 = .ok (.lstore 13, 2) := by decide +kernel
theorem dX12_laysWith_84 : decode cX12_laysWith 84 = .ok (.aload_n 0, 1) := by decide +kernel
theorem dX12_laysWith_85 : decode cX12_laysWith 85 = .ok (.iconst 0, 1) := by decide +kernel
theorem dX12_laysWith_86 : decode cX12_laysWith 86 = .ok (.putfield 80, 3) := by decide +kernel
theorem dX12_laysWith_89 : decode cX12_laysWith 89 = .ok (.iconst 0, 1) := by decide +kernel
theorem dX12_laysWith_90 : decode cX12_laysWith 90 = .ok (.istore 15, 2) := by decide +kernel
theorem dX12_laysWith_92 : decode cX12_laysWith 92 = .ok (.iload 15, 2) := by decide +kernel
theorem dX12_laysWith_94 : decode cX12_laysWith 94 = .ok (.aload_n 0, 1) := by decide +kernel
theorem dX12_laysWith_95 : decode cX12_laysWith 95 = .ok (.getfield 7, 3) := by decide +kernel
theorem dX12_laysWith_98 : decode cX12_laysWith 98 = .ok (.iconst 0, 1) := by decide +kernel
theorem dX12_laysWith_99 : decode cX12_laysWith 99 = .ok (.iaload, 1) := by decide +kernel
theorem dX12_laysWith_100 : decode cX12_laysWith 100 = .ok (.if_icmp .ge 120, 3) := by decide +kernel
theorem dX12_laysWith_103 : decode cX12_laysWith 103 = .ok (.iload_n 1, 1) := by decide +kernel
theorem dX12_laysWith_104 : decode cX12_laysWith 104 = .ok (.iload 15, 2) := by decide +kernel
theorem dX12_laysWith_106 : decode cX12_laysWith 106 = .ok (.invokestatic 95, 3) := by decide +kernel
theorem dX12_laysWith_109 : decode cX12_laysWith 109 = .ok (.ifCond .eq 105, 3) := by decide +kernel
theorem dX12_laysWith_112 : decode cX12_laysWith 112 = .ok (.aload_n 0, 1) := by decide +kernel
theorem dX12_laysWith_113 : decode cX12_laysWith 113 = .ok (.iload 15, 2) := by decide +kernel
theorem dX12_laysWith_115 : decode cX12_laysWith 115 = .ok (.iconst 4, 1) := by decide +kernel
theorem dX12_laysWith_116 : decode cX12_laysWith 116 = .ok (.invokevirtual 87, 3) := by decide +kernel
theorem dX12_laysWith_119 : decode cX12_laysWith 119 = .ok (.i2l, 1) := by decide +kernel
theorem dX12_laysWith_120 : decode cX12_laysWith 120 = .ok (.lload 13, 2) := by decide +kernel
theorem dX12_laysWith_122 : decode cX12_laysWith 122 = .ok (.lmul, 1) := by decide +kernel
theorem dX12_laysWith_123 : decode cX12_laysWith 123 = .ok (.aload_n 0, 1) := by decide +kernel
theorem dX12_laysWith_124 : decode cX12_laysWith 124 = .ok (.iload 15, 2) := by decide +kernel
theorem dX12_laysWith_126 : decode cX12_laysWith 126 = .ok (.iconst 0, 1) := by decide +kernel
theorem dX12_laysWith_127 : decode cX12_laysWith 127 = .ok (.invokevirtual 87, 3) := by decide +kernel
theorem dX12_laysWith_130 : decode cX12_laysWith 130 = .ok (.i2l, 1) := by decide +kernel
theorem dX12_laysWith_131 : decode cX12_laysWith 131 = .ok (.lload_n 3, 1) := by decide +kernel
theorem dX12_laysWith_132 : decode cX12_laysWith 132 = .ok (.lmul, 1) := by decide +kernel
theorem dX12_laysWith_133 : decode cX12_laysWith 133 = .ok (.lload 13, 2) := by decide +kernel
theorem dX12_laysWith_135 : decode cX12_laysWith 135 = .ok (.lload 5, 2) := by decide +kernel
theorem dX12_laysWith_137 : decode cX12_laysWith 137 = .ok (.ldiv, 1) := by decide +kernel
theorem dX12_laysWith_138 : decode cX12_laysWith 138 = .ok (.lmul, 1) := by decide +kernel
theorem dX12_laysWith_139 : decode cX12_laysWith 139 = .ok (.lsub, 1) := by decide +kernel
theorem dX12_laysWith_140 : decode cX12_laysWith 140 = .ok (.aload_n 0, 1) := by decide +kernel
theorem dX12_laysWith_141 : decode cX12_laysWith 141 = .ok (.iload 15, 2) := by decide +kernel
theorem dX12_laysWith_143 : decode cX12_laysWith 143 = .ok (.iconst 1, 1) := by decide +kernel
theorem dX12_laysWith_144 : decode cX12_laysWith 144 = .ok (.invokevirtual 87, 3) := by decide +kernel
theorem dX12_laysWith_147 : decode cX12_laysWith 147 = .ok (.i2l, 1) := by decide +kernel
theorem dX12_laysWith_148 : decode cX12_laysWith 148 = .ok (.lload 7, 2) := by decide +kernel
theorem dX12_laysWith_150 : decode cX12_laysWith 150 = .ok (.lmul, 1) := by decide +kernel
theorem dX12_laysWith_151 : decode cX12_laysWith 151 = .ok (.lload 13, 2) := by decide +kernel
theorem dX12_laysWith_153 : decode cX12_laysWith 153 = .ok (.lload 9, 2) := by decide +kernel
theorem dX12_laysWith_155 : decode cX12_laysWith 155 = .ok (.ldiv, 1) := by decide +kernel
theorem dX12_laysWith_156 : decode cX12_laysWith 156 = .ok (.lmul, 1) := by decide +kernel
theorem dX12_laysWith_157 : decode cX12_laysWith 157 = .ok (.lsub, 1) := by decide +kernel
theorem dX12_laysWith_158 : decode cX12_laysWith 158 = .ok (.lstore 16, 2) := by decide +kernel
theorem dX12_laysWith_160 : decode cX12_laysWith 160 = .ok (.aload_n 0, 1) := by decide +kernel
theorem dX12_laysWith_161 : decode cX12_laysWith 161 = .ok (.iload_n 2, 1) := by decide +kernel
theorem dX12_laysWith_162 : decode cX12_laysWith 162 = .ok (.ifCond .le 7, 3) := by decide +kernel
theorem dX12_laysWith_165 : decode cX12_laysWith 165 = .ok (.lconst 0, 1) := by decide +kernel
theorem dX12_laysWith_166 : decode cX12_laysWith 166 = .ok (.goto 11, 3) := by decide +kernel
theorem dX12_laysWith_169 : decode cX12_laysWith 169 = .ok (.aload_n 0, 1) := by decide +kernel
theorem dX12_laysWith_170 : decode cX12_laysWith 170 = .ok (.iload 15, 2) := by decide +kernel
theorem dX12_laysWith_172 : decode cX12_laysWith 172 = .ok (.iconst 0, 1) := by decide +kernel
theorem dX12_laysWith_173 : decode cX12_laysWith 173 = .ok (.invokevirtual 87, 3) := by decide +kernel
theorem dX12_laysWith_176 : decode cX12_laysWith 176 = .ok (.i2l, 1) := by decide +kernel
theorem dX12_laysWith_177 : decode cX12_laysWith 177 = .ok (.iload_n 2, 1) := by decide +kernel
theorem dX12_laysWith_178 : decode cX12_laysWith 178 = .ok (.iconst 1, 1) := by decide +kernel
theorem dX12_laysWith_179 : decode cX12_laysWith 179 = .ok (.if_icmp .le 7, 3) := by decide +kernel
theorem dX12_laysWith_182 : decode cX12_laysWith 182 = .ok (.lconst 0, 1) := by decide +kernel
theorem dX12_laysWith_183 : decode cX12_laysWith 183 = .ok (.goto 11, 3) := by decide +kernel
theorem dX12_laysWith_186 : decode cX12_laysWith 186 = .ok (.aload_n 0, 1) := by decide +kernel
theorem dX12_laysWith_187 : decode cX12_laysWith 187 = .ok (.iload 15, 2) := by decide +kernel
theorem dX12_laysWith_189 : decode cX12_laysWith 189 = .ok (.iconst 1, 1) := by decide +kernel
theorem dX12_laysWith_190 : decode cX12_laysWith 190 = .ok (.invokevirtual 87, 3) := by decide +kernel
theorem dX12_laysWith_193 : decode cX12_laysWith 193 = .ok (.i2l, 1) := by decide +kernel
theorem dX12_laysWith_194 : decode cX12_laysWith 194 = .ok (.aload_n 0, 1) := by decide +kernel
theorem dX12_laysWith_195 : decode cX12_laysWith 195 = .ok (.iload 15, 2) := by decide +kernel
theorem dX12_laysWith_197 : decode cX12_laysWith 197 = .ok (.iconst 2, 1) := by decide +kernel
theorem dX12_laysWith_198 : decode cX12_laysWith 198 = .ok (.invokevirtual 87, 3) := by decide +kernel
theorem dX12_laysWith_201 : decode cX12_laysWith 201 = .ok (.i2l, 1) := by decide +kernel
theorem dX12_laysWith_202 : decode cX12_laysWith 202 = .ok (.lload 16, 2) := by decide +kernel
theorem dX12_laysWith_204 : decode cX12_laysWith 204 = .ok (.aload_n 0, 1) := by decide +kernel
theorem dX12_laysWith_205 : decode cX12_laysWith 205 = .ok (.iload 15, 2) := by decide +kernel
theorem dX12_laysWith_207 : decode cX12_laysWith 207 = .ok (.iconst 3, 1) := by decide +kernel
theorem dX12_laysWith_208 : decode cX12_laysWith 208 = .ok (.invokevirtual 87, 3) := by decide +kernel
theorem dX12_laysWith_211 : decode cX12_laysWith 211 = .ok (.invokevirtual 91, 3) := by decide +kernel
theorem dX12_laysWith_214 : decode cX12_laysWith 214 = .ok (.iinc 15 1, 3) := by decide +kernel
theorem dX12_laysWith_217 : decode cX12_laysWith 217 = .ok (.goto (-125), 3) := by decide +kernel
theorem dX12_laysWith_220 : decode cX12_laysWith 220 = .ok (.lload 13, 2) := by decide +kernel
theorem dX12_laysWith_222 : decode cX12_laysWith 222 = .ok (.lreturn, 1) := by decide +kernel
def rm_fMM_laysWith : Room := { frames := 3, cells := 0, slots := 0, locals := 119 }
set_option maxHeartbeats 4000000 in
set_option maxRecDepth 100000 in
theorem c_fMM_laysWith (l : Launch) (X : eX) (sz : Nat) (a1 : Int32) (a2 : Int32) (σ : sT) (rz : Int64) (σz : sT) (h0 : fMM_laysWith a1 a2 σ = some (rz, σz)) : ctL l yX12_laysWith cX12_laysWith 18 (some .long) rm_fMM_laysWith [.ref (X.2.1 33), .int a1, .int a2] (wM X) (tM X) (aM X) X sz σ rz σz := by
  refine ct_of (by decide +kernel) (Nat.le_of_ble_eq_true rfl) ?_
  intro p e s m args below meth c ls hz B hl Z
  have B : Bd p s m args meth c RX12 cX12_laysWith 18 (some .long) := B
  have hl : lv_has ls 18 [(0, .ref (X.2.1 33)), (1, .int a1), (2, .int a2)] := hl
  have hx := B.1
  have hb := B.2.1
  unfold fMM_laysWith at h0
  refine lv_iload_n hx hb dX12_laysWith_0 rfl (lv_at hl 2 rfl) ?_
  obtain ⟨J2, eJ2, h47⟩ := dlt_s h0
  clear h0
  have kJ2 : ∀ (x1 : Int64) (H : Heap) (locs : List Loc) (ls : Array Slot), Wd (wM X) (tM X) (aM X) X s σ H locs → lv_has ls 18 [(0, .ref (X.2.1 33)), (1, .int a1), (2, .int a2)] → J2 x1 = some (rz, σz) → W p l e rm_fMM_laysWith s m args below meth c H locs 0 0 (MQ below (va_Ql (fun a u => a = rz ∧ u = σz) (poW (wM X) (tM X) (aM X) X sz) (aA (aM X) sz)) args s 0 0 (aA (aM X) sz)) (F0 m 14 ls [.long x1]) := by
    intro x1 H locs ls Z hl h1
    rw [eJ2] at h1
    refine lv_lstore_n (lv' := [(3, .long x1), (0, .ref (X.2.1 33)), (1, .int a1), (2, .int a2)]) hx hb dX12_laysWith_14 rfl hl (by decide) rfl (fun ls hl => ?_)
    refine lv_iload_n hx hb dX12_laysWith_15 rfl (lv_at hl 3 rfl) ?_
    obtain ⟨J4, eJ4, h43⟩ := dlt_s h1
    clear h1
    have kJ4 : ∀ (x3 : Int64) (H : Heap) (locs : List Loc) (ls : Array Slot), Wd (wM X) (tM X) (aM X) X s σ H locs → lv_has ls 18 [(0, .ref (X.2.1 33)), (1, .int a1), (2, .int a2), (3, .long x1)] → J4 x3 = some (rz, σz) → W p l e rm_fMM_laysWith s m args below meth c H locs 0 0 (MQ below (va_Ql (fun a u => a = rz ∧ u = σz) (poW (wM X) (tM X) (aM X) X sz) (aA (aM X) sz)) args s 0 0 (aA (aM X) sz)) (F0 m 29 ls [.long x3]) := by
      intro x3 H locs ls Z hl h2
      rw [eJ4] at h2
      refine lv_lstore (lv' := [(5, .long x3), (0, .ref (X.2.1 33)), (1, .int a1), (2, .int a2), (3, .long x1)]) hx hb dX12_laysWith_29 hl (by decide) rfl (fun ls hl => ?_)
      refine lv_iload_n hx hb dX12_laysWith_31 rfl (lv_at hl 3 rfl) ?_
      refine lv_iconst (v := (1 : Int32)) hx hb dX12_laysWith_32 (by decide) ?_
      obtain ⟨J6, eJ6, h39⟩ := dlt_s h2
      clear h2
      have kJ6 : ∀ (x5 : Int64) (H : Heap) (locs : List Loc) (ls : Array Slot), Wd (wM X) (tM X) (aM X) X s σ H locs → lv_has ls 18 [(0, .ref (X.2.1 33)), (1, .int a1), (2, .int a2), (3, .long x1), (5, .long x3)] → J6 x5 = some (rz, σz) → W p l e rm_fMM_laysWith s m args below meth c H locs 0 0 (MQ below (va_Ql (fun a u => a = rz ∧ u = σz) (poW (wM X) (tM X) (aM X) X sz) (aA (aM X) sz)) args s 0 0 (aA (aM X) sz)) (F0 m 46 ls [.long x5]) := by
        intro x5 H locs ls Z hl h3
        rw [eJ6] at h3
        refine lv_lstore (lv' := [(7, .long x5), (0, .ref (X.2.1 33)), (1, .int a1), (2, .int a2), (3, .long x1), (5, .long x3)]) hx hb dX12_laysWith_46 hl (by decide) rfl (fun ls hl => ?_)
        refine lv_iload_n hx hb dX12_laysWith_48 rfl (lv_at hl 3 rfl) ?_
        refine lv_iconst (v := (1 : Int32)) hx hb dX12_laysWith_49 (by decide) ?_
        obtain ⟨J8, eJ8, h35⟩ := dlt_s h3
        clear h3
        have kJ8 : ∀ (x7 : Int64) (H : Heap) (locs : List Loc) (ls : Array Slot), Wd (wM X) (tM X) (aM X) X s σ H locs → lv_has ls 18 [(0, .ref (X.2.1 33)), (1, .int a1), (2, .int a2), (3, .long x1), (5, .long x3), (7, .long x5)] → J8 x7 = some (rz, σz) → W p l e rm_fMM_laysWith s m args below meth c H locs 0 0 (MQ below (va_Ql (fun a u => a = rz ∧ u = σz) (poW (wM X) (tM X) (aM X) X sz) (aA (aM X) sz)) args s 0 0 (aA (aM X) sz)) (F0 m 63 ls [.long x7]) := by
          intro x7 H locs ls Z hl h4
          rw [eJ8] at h4
          refine lv_lstore (lv' := [(9, .long x7), (0, .ref (X.2.1 33)), (1, .int a1), (2, .int a2), (3, .long x1), (5, .long x3), (7, .long x5)]) hx hb dX12_laysWith_63 hl (by decide) rfl (fun ls hl => ?_)
          refine lv_lload hx hb dX12_laysWith_65 (lv_at hl 5 rfl) ?_
          refine lv_lload hx hb dX12_laysWith_67 (lv_at hl 0 rfl) ?_
          obtain ⟨r10, hc8, h5⟩ := db1_s h4
          clear h4
          refine cS_L [.long x3, .long x7] [] B mx_yX12_divisor (c_fMM_divisor l X _ x3 x7 σ r10 hc8) kl_RX12_204 ks_yX12_divisor Z hl rfl rfl ⟨Nat.le_of_ble_eq_true rfl, Nat.le_of_ble_eq_true rfl⟩ rfl rfl (Nat.le_of_ble_eq_true rfl) dX12_laysWith_69 (fun H locs Z => ?_)
          clear hc8
          refine lv_lstore (lv' := [(11, .long r10), (9, .long x7), (0, .ref (X.2.1 33)), (1, .int a1), (2, .int a2), (3, .long x1), (5, .long x3), (7, .long x5)]) hx hb dX12_laysWith_72 hl (by decide) rfl (fun ls hl => ?_)
          refine lv_lload hx hb dX12_laysWith_74 (lv_at hl 6 rfl) ?_
          refine lv_lload hx hb dX12_laysWith_76 (lv_at hl 0 rfl) ?_
          obtain ⟨z11, h6⟩ := dck_s h5
          clear h5
          refine lv_ldiv hx hb dX12_laysWith_78 (okE_s z11) ?_
          refine lv_lload hx hb dX12_laysWith_79 (lv_at hl 1 rfl) ?_
          refine lv_lmul hx hb dX12_laysWith_81 ?_
          refine lv_topl (fun x12 ex12 => ?_)
          have h7 := dlt_e ex12 h6
          clear ex12 h6
          refine lv_lstore (lv' := [(13, .long x12), (11, .long r10), (9, .long x7), (0, .ref (X.2.1 33)), (1, .int a1), (2, .int a2), (3, .long x1), (5, .long x3), (7, .long x5)]) hx hb dX12_laysWith_82 hl (by decide) rfl (fun ls hl => ?_)
          refine lv_aload_n hx hb dX12_laysWith_84 rfl (lv_at hl 3 rfl) ?_
          refine lv_iconst (v := (0 : Int32)) hx hb dX12_laysWith_85 (by decide) ?_
          refine s_33_5 B Z kf_RX12_80 dX12_laysWith_86 (fun H locs Z => ?_)
          obtain ⟨σ13, eσ13, h8⟩ := dlt_s h7
          clear h7
          replace Z := Wd.eq eσ13 Z
          clear eσ13
          refine lv_iconst (v := (0 : Int32)) hx hb dX12_laysWith_89 (by decide) ?_
          refine lv_istore (lv' := [(15, .int (0 : Int32)), (13, .long x12), (11, .long r10), (9, .long x7), (0, .ref (X.2.1 33)), (1, .int a1), (2, .int a2), (3, .long x1), (5, .long x3), (7, .long x5)]) hx hb dX12_laysWith_90 hl (by decide) rfl (fun ls hl => ?_)
          have lL92 : ∀ (n : Nat), ∀ (x14 : Int32) (σ15 : sT) (H : Heap) (locs : List Loc) (ls : Array Slot), Wd (wM X) (tM X) (aM X) X s σ15 H locs → lv_has ls 18 [(0, .ref (X.2.1 33)), (1, .int a1), (2, .int a2), (3, .long x1), (5, .long x3), (7, .long x5), (9, .long x7), (13, .long x12), (15, .int x14)] → fMM_laysWith_L92 a1 a2 x1 x3 x5 x7 x12 n x14 σ15 = some (rz, σz) → W p l e rm_fMM_laysWith s m args below meth c H locs 0 0 (MQ below (va_Ql (fun a u => a = rz ∧ u = σz) (poW (wM X) (tM X) (aM X) X sz) (aA (aM X) sz)) args s 0 0 (aA (aM X) sz)) (F0 m 92 ls []) := by
            intro n
            induction n with
            | zero =>
              intro x14 σ15 H locs ls Z hl h
              exact nomatch (show (none : Option (Int64 × sT)) = some _ from h)
            | succ n16 ih53 =>
              intro x14 σ15 H locs ls Z hl h9
              unfold fMM_laysWith_L92 at h9
              refine lv_iload hx hb dX12_laysWith_92 (lv_at hl 8 rfl) ?_
              refine lv_aload_n hx hb dX12_laysWith_94 rfl (lv_at hl 0 rfl) ?_
              refine g_33_0 B Z kf_RX12_7 dX12_laysWith_95 ?_
              refine lv_iconst (v := (0 : Int32)) hx hb dX12_laysWith_98 (by decide) ?_
              obtain ⟨z17, h10⟩ := dck_s h9
              clear h9
              refine ld_34 B Z z17 dX12_laysWith_99 ?_
              refine lv_icmp_ge (tgt := 220) hx hb dX12_laysWith_100 (by decide) (fun c18 => ?_) (fun c18 => ?_)
              · have h11 := dit h10 c18
                clear h10
                refine lv_lload hx hb dX12_laysWith_220 (lv_at hl 7 rfl) ?_
                exact reL B Z hz h11 dX12_laysWith_222
              · have h12 := dif h10 c18
                clear h10
                refine lv_iload_n hx hb dX12_laysWith_103 rfl (lv_at hl 1 rfl) ?_
                refine lv_iload hx hb dX12_laysWith_104 (lv_at hl 8 rfl) ?_
                obtain ⟨r20, hc18, h13⟩ := db1_s h12
                clear h12
                refine cS_I [.int a1, .int x14] [] B mx_yX12_has (c_fMM_has l X _ a1 x14 σ15 r20 hc18) kl_RX12_95 ks_yX12_has Z hl rfl rfl ⟨Nat.le_of_ble_eq_true rfl, Nat.le_of_ble_eq_true rfl⟩ rfl rfl (Nat.le_of_ble_eq_true rfl) dX12_laysWith_106 (fun H locs Z => ?_)
                clear hc18
                refine lv_if_eq (tgt := 214) hx hb dX12_laysWith_109 (by decide) (fun c21 => ?_) (fun c21 => ?_)
                · have h14 := dit h13 c21
                  clear h13
                  refine lv_iinc (v := x14 + (1 : Int32)) (lv' := [(15, .int (x14 + (1 : Int32))), (0, .ref (X.2.1 33)), (1, .int a1), (2, .int a2), (3, .long x1), (5, .long x3), (7, .long x5), (9, .long x7), (13, .long x12)]) hx hb dX12_laysWith_214 hl (k := 8) rfl (by rfl) (by decide) rfl (fun ls hl => ?_)
                  refine lv_goto (tgt := 92) hx hb dX12_laysWith_217 (by decide) ?_
                  exact ih53 (x14 + (1 : Int32)) σ15 _ _ _ Z (lv_sub hl [1, 2, 3, 4, 5, 6, 7, 8, 0] rfl) h14
                · have h15 := dif h13 c21
                  clear h13
                  refine lv_aload_n hx hb dX12_laysWith_112 rfl (lv_at hl 0 rfl) ?_
                  refine lv_iload hx hb dX12_laysWith_113 (lv_at hl 8 rfl) ?_
                  refine lv_iconst (v := (4 : Int32)) hx hb dX12_laysWith_115 (by decide) ?_
                  obtain ⟨r23, hc21, h16⟩ := db1_s h15
                  clear h15
                  refine cV_I [.int x14, .int (4 : Int32)] [] B mx_yX12_at (c_fMM_at l X _ x14 (4 : Int32) σ15 r23 hc21) kl_RX12_87 mi_yX12_at (rv_33 _ _) hcl_12 Z hl rfl rfl ⟨Nat.le_of_ble_eq_true rfl, Nat.le_of_ble_eq_true rfl⟩ rfl rfl (Nat.le_of_ble_eq_true rfl) dX12_laysWith_116 (fun H locs Z => ?_)
                  clear hc21
                  refine lv_i2l hx hb dX12_laysWith_119 rfl ?_
                  refine lv_lload hx hb dX12_laysWith_120 (lv_at hl 7 rfl) ?_
                  refine lv_lmul hx hb dX12_laysWith_122 ?_
                  refine lv_aload_n hx hb dX12_laysWith_123 rfl (lv_at hl 0 rfl) ?_
                  refine lv_iload hx hb dX12_laysWith_124 (lv_at hl 8 rfl) ?_
                  refine lv_iconst (v := (0 : Int32)) hx hb dX12_laysWith_126 (by decide) ?_
                  obtain ⟨r25, hc23, h17⟩ := db1_s h16
                  clear h16
                  refine cV_I [.int x14, .int (0 : Int32)] [.long (r23.toInt64 * x12)] B mx_yX12_at (c_fMM_at l X _ x14 (0 : Int32) σ15 r25 hc23) kl_RX12_87 mi_yX12_at (rv_33 _ _) hcl_12 Z hl rfl rfl ⟨Nat.le_of_ble_eq_true rfl, Nat.le_of_ble_eq_true rfl⟩ rfl rfl (Nat.le_of_ble_eq_true rfl) dX12_laysWith_127 (fun H locs Z => ?_)
                  clear hc23
                  refine lv_i2l hx hb dX12_laysWith_130 rfl ?_
                  refine lv_lload_n hx hb dX12_laysWith_131 rfl (lv_at hl 3 rfl) ?_
                  refine lv_lmul hx hb dX12_laysWith_132 ?_
                  refine lv_lload hx hb dX12_laysWith_133 (lv_at hl 7 rfl) ?_
                  refine lv_lload hx hb dX12_laysWith_135 (lv_at hl 4 rfl) ?_
                  obtain ⟨z26, h18⟩ := dck_s h17
                  clear h17
                  refine lv_ldiv hx hb dX12_laysWith_137 (okE_s z26) ?_
                  refine lv_lmul hx hb dX12_laysWith_138 ?_
                  refine lv_lsub hx hb dX12_laysWith_139 ?_
                  refine lv_aload_n hx hb dX12_laysWith_140 rfl (lv_at hl 0 rfl) ?_
                  refine lv_iload hx hb dX12_laysWith_141 (lv_at hl 8 rfl) ?_
                  refine lv_iconst (v := (1 : Int32)) hx hb dX12_laysWith_143 (by decide) ?_
                  obtain ⟨r28, hc26, h19⟩ := db1_s h18
                  clear h18
                  refine cV_I [.int x14, .int (1 : Int32)] [.long ((r23.toInt64 * x12) - ((r25.toInt64 * x1) * (x12 / x3)))] B mx_yX12_at (c_fMM_at l X _ x14 (1 : Int32) σ15 r28 hc26) kl_RX12_87 mi_yX12_at (rv_33 _ _) hcl_12 Z hl rfl rfl ⟨Nat.le_of_ble_eq_true rfl, Nat.le_of_ble_eq_true rfl⟩ rfl rfl (Nat.le_of_ble_eq_true rfl) dX12_laysWith_144 (fun H locs Z => ?_)
                  clear hc26
                  refine lv_i2l hx hb dX12_laysWith_147 rfl ?_
                  refine lv_lload hx hb dX12_laysWith_148 (lv_at hl 5 rfl) ?_
                  refine lv_lmul hx hb dX12_laysWith_150 ?_
                  refine lv_lload hx hb dX12_laysWith_151 (lv_at hl 7 rfl) ?_
                  refine lv_lload hx hb dX12_laysWith_153 (lv_at hl 6 rfl) ?_
                  obtain ⟨z29, h20⟩ := dck_s h19
                  clear h19
                  refine lv_ldiv hx hb dX12_laysWith_155 (okE_s z29) ?_
                  refine lv_lmul hx hb dX12_laysWith_156 ?_
                  refine lv_lsub hx hb dX12_laysWith_157 ?_
                  refine lv_topl (fun x30 ex30 => ?_)
                  have h21 := dlt_e ex30 h20
                  clear ex30 h20
                  refine lv_lstore (lv' := [(16, .long x30), (0, .ref (X.2.1 33)), (1, .int a1), (2, .int a2), (3, .long x1), (5, .long x3), (7, .long x5), (9, .long x7), (13, .long x12), (15, .int x14)]) hx hb dX12_laysWith_158 hl (by decide) rfl (fun ls hl => ?_)
                  refine lv_aload_n hx hb dX12_laysWith_160 rfl (lv_at hl 1 rfl) ?_
                  refine lv_iload_n hx hb dX12_laysWith_161 rfl (lv_at hl 3 rfl) ?_
                  obtain ⟨J32, eJ32, h31⟩ := dlt_s h21
                  clear h21
                  have kJ32 : ∀ (x31 : Int64) (H : Heap) (locs : List Loc) (ls : Array Slot), Wd (wM X) (tM X) (aM X) X s σ15 H locs → lv_has ls 18 [(0, .ref (X.2.1 33)), (1, .int a1), (2, .int a2), (3, .long x1), (5, .long x3), (7, .long x5), (9, .long x7), (13, .long x12), (15, .int x14), (16, .long x30)] → J32 x31 = some (rz, σz) → W p l e rm_fMM_laysWith s m args below meth c H locs 0 0 (MQ below (va_Ql (fun a u => a = rz ∧ u = σz) (poW (wM X) (tM X) (aM X) X sz) (aA (aM X) sz)) args s 0 0 (aA (aM X) sz)) (F0 m 177 ls [.long x31, .ref (X.2.1 33)]) := by
                    intro x31 H locs ls Z hl h22
                    rw [eJ32] at h22
                    refine lv_iload_n hx hb dX12_laysWith_177 rfl (lv_at hl 2 rfl) ?_
                    refine lv_iconst (v := (1 : Int32)) hx hb dX12_laysWith_178 (by decide) ?_
                    obtain ⟨J35, eJ35, h27⟩ := dlt_s h22
                    clear h22
                    have kJ35 : ∀ (x33 : Int64) (x34 : Int64) (H : Heap) (locs : List Loc) (ls : Array Slot), Wd (wM X) (tM X) (aM X) X s σ15 H locs → lv_has ls 18 [(0, .ref (X.2.1 33)), (1, .int a1), (2, .int a2), (3, .long x1), (5, .long x3), (7, .long x5), (9, .long x7), (13, .long x12), (15, .int x14), (16, .long x30)] → J35 x33 x34 = some (rz, σz) → W p l e rm_fMM_laysWith s m args below meth c H locs 0 0 (MQ below (va_Ql (fun a u => a = rz ∧ u = σz) (poW (wM X) (tM X) (aM X) X sz) (aA (aM X) sz)) args s 0 0 (aA (aM X) sz)) (F0 m 194 ls [.long x34, .long x33, .ref (X.2.1 33)]) := by
                      intro x33 x34 H locs ls Z hl h23
                      rw [eJ35] at h23
                      refine lv_aload_n hx hb dX12_laysWith_194 rfl (lv_at hl 0 rfl) ?_
                      refine lv_iload hx hb dX12_laysWith_195 (lv_at hl 8 rfl) ?_
                      refine lv_iconst (v := (2 : Int32)) hx hb dX12_laysWith_197 (by decide) ?_
                      obtain ⟨r37, hc35, h24⟩ := db1_s h23
                      clear h23
                      refine cV_I [.int x14, .int (2 : Int32)] [.long x34, .long x33, .ref (X.2.1 33)] B mx_yX12_at (c_fMM_at l X _ x14 (2 : Int32) σ15 r37 hc35) kl_RX12_87 mi_yX12_at (rv_33 _ _) hcl_12 Z hl rfl rfl ⟨Nat.le_of_ble_eq_true rfl, Nat.le_of_ble_eq_true rfl⟩ rfl rfl (Nat.le_of_ble_eq_true rfl) dX12_laysWith_198 (fun H locs Z => ?_)
                      clear hc35
                      refine lv_i2l hx hb dX12_laysWith_201 rfl ?_
                      refine lv_lload hx hb dX12_laysWith_202 (lv_at hl 9 rfl) ?_
                      refine lv_aload_n hx hb dX12_laysWith_204 rfl (lv_at hl 0 rfl) ?_
                      refine lv_iload hx hb dX12_laysWith_205 (lv_at hl 8 rfl) ?_
                      refine lv_iconst (v := (3 : Int32)) hx hb dX12_laysWith_207 (by decide) ?_
                      obtain ⟨r39, hc37, h25⟩ := db1_s h24
                      clear h24
                      refine cVw_I [.int x14, .int (3 : Int32)] [.long x30, .long r37.toInt64, .long x34, .long x33, .ref (X.2.1 33)] B mx_yX12_at (c_fMM_at l X _ x14 (3 : Int32) σ15 r39 hc37) kl_RX12_87 mi_yX12_at (rv_33 _ _) hcl_12 Z hl rfl rfl ⟨Nat.le_of_ble_eq_true rfl, Nat.le_of_ble_eq_true rfl⟩ rfl rfl 16 (Nat.le_of_ble_eq_true rfl) (Nat.le_of_ble_eq_true rfl) dX12_laysWith_208 (fun H locs Z => ?_)
                      clear hc37
                      obtain ⟨σ41, hc39, h26⟩ := db1_s h25
                      clear h25
                      refine cV_V [.long x33, .long x34, .long r37.toInt64, .long x30, .int r39] [] B mx_yX12_laysSum (c_fMM_laysSum l X _ x33 x34 r37.toInt64 x30 r39 σ15 σ41 hc39) kl_RX12_91 mi_yX12_laysSum (rv_33 _ _) hcl_12 Z hl rfl rfl ⟨Nat.le_of_ble_eq_true rfl, Nat.le_of_ble_eq_true rfl⟩ rfl rfl (Nat.le_of_ble_eq_true rfl) dX12_laysWith_211 (fun H locs Z => ?_)
                      clear hc39
                      refine lv_iinc (v := x14 + (1 : Int32)) (lv' := [(15, .int (x14 + (1 : Int32))), (0, .ref (X.2.1 33)), (1, .int a1), (2, .int a2), (3, .long x1), (5, .long x3), (7, .long x5), (9, .long x7), (13, .long x12), (16, .long x30)]) hx hb dX12_laysWith_214 hl (k := 8) rfl (by rfl) (by decide) rfl (fun ls hl => ?_)
                      refine lv_goto (tgt := 92) hx hb dX12_laysWith_217 (by decide) ?_
                      exact ih53 (x14 + (1 : Int32)) σ41 _ _ _ Z (lv_sub hl [1, 2, 3, 4, 5, 6, 7, 8, 0] rfl) h26
                    clear eJ35
                    refine lv_icmp_le (tgt := 186) hx hb dX12_laysWith_179 (by decide) (fun c42 => ?_) (fun c42 => ?_)
                    · have h28 := dit h27 c42
                      clear h27
                      refine lv_aload_n hx hb dX12_laysWith_186 rfl (lv_at hl 0 rfl) ?_
                      refine lv_iload hx hb dX12_laysWith_187 (lv_at hl 8 rfl) ?_
                      refine lv_iconst (v := (1 : Int32)) hx hb dX12_laysWith_189 (by decide) ?_
                      obtain ⟨r44, hc42, h29⟩ := db1_s h28
                      clear h28
                      refine cV_I [.int x14, .int (1 : Int32)] [.long x31, .ref (X.2.1 33)] B mx_yX12_at (c_fMM_at l X _ x14 (1 : Int32) σ15 r44 hc42) kl_RX12_87 mi_yX12_at (rv_33 _ _) hcl_12 Z hl rfl rfl ⟨Nat.le_of_ble_eq_true rfl, Nat.le_of_ble_eq_true rfl⟩ rfl rfl (Nat.le_of_ble_eq_true rfl) dX12_laysWith_190 (fun H locs Z => ?_)
                      clear hc42
                      refine lv_i2l hx hb dX12_laysWith_193 rfl ?_
                      exact kJ35 x31 r44.toInt64 _ _ _ Z (lv_sub hl [0, 1, 2, 3, 4, 5, 6, 7, 8, 9] rfl) h29
                    · have h30 := dif h27 c42
                      clear h27
                      refine lv_lconst (v := (0 : Int64)) hx hb dX12_laysWith_182 (by decide) ?_
                      refine lv_goto (tgt := 194) hx hb dX12_laysWith_183 (by decide) ?_
                      exact kJ35 x31 (0 : Int64) _ _ _ Z (lv_sub hl [0, 1, 2, 3, 4, 5, 6, 7, 8, 9] rfl) h30
                  clear eJ32
                  refine lv_if_le (tgt := 169) hx hb dX12_laysWith_162 (by decide) (fun c45 => ?_) (fun c45 => ?_)
                  · have h32 := dit h31 c45
                    clear h31
                    refine lv_aload_n hx hb dX12_laysWith_169 rfl (lv_at hl 1 rfl) ?_
                    refine lv_iload hx hb dX12_laysWith_170 (lv_at hl 9 rfl) ?_
                    refine lv_iconst (v := (0 : Int32)) hx hb dX12_laysWith_172 (by decide) ?_
                    obtain ⟨r47, hc45, h33⟩ := db1_s h32
                    clear h32
                    refine cV_I [.int x14, .int (0 : Int32)] [.ref (X.2.1 33)] B mx_yX12_at (c_fMM_at l X _ x14 (0 : Int32) σ15 r47 hc45) kl_RX12_87 mi_yX12_at (rv_33 _ _) hcl_12 Z hl rfl rfl ⟨Nat.le_of_ble_eq_true rfl, Nat.le_of_ble_eq_true rfl⟩ rfl rfl (Nat.le_of_ble_eq_true rfl) dX12_laysWith_173 (fun H locs Z => ?_)
                    clear hc45
                    refine lv_i2l hx hb dX12_laysWith_176 rfl ?_
                    exact kJ32 r47.toInt64 _ _ _ Z (lv_sub hl [1, 2, 3, 4, 5, 6, 7, 8, 9, 0] rfl) h33
                  · have h34 := dif h31 c45
                    clear h31
                    refine lv_lconst (v := (0 : Int64)) hx hb dX12_laysWith_165 (by decide) ?_
                    refine lv_goto (tgt := 177) hx hb dX12_laysWith_166 (by decide) ?_
                    exact kJ32 (0 : Int64) _ _ _ Z (lv_sub hl [1, 2, 3, 4, 5, 6, 7, 8, 9, 0] rfl) h34
          exact lL92 FU (0 : Int32) σ13 _ _ _ Z (lv_sub hl [4, 5, 6, 7, 8, 9, 3, 1, 0] rfl) h8
        clear eJ8
        refine lv_icmp_le (tgt := 62) hx hb dX12_laysWith_50 (by decide) (fun c48 => ?_) (fun c48 => ?_)
        · have h36 := dit h35 c48
          clear h35
          refine lv_lconst (v := (1 : Int64)) hx hb dX12_laysWith_62 (by decide) ?_
          exact kJ8 (1 : Int64) _ _ _ Z (lv_sub hl [1, 2, 3, 4, 5, 0] rfl) h36
        · have h37 := dif h35 c48
          clear h35
          refine lv_aload_n hx hb dX12_laysWith_53 rfl (lv_at hl 1 rfl) ?_
          refine g_33_18 B Z kf_RX12_29 dX12_laysWith_54 ?_
          refine lv_iconst (v := (3 : Int32)) hx hb dX12_laysWith_57 (by decide) ?_
          obtain ⟨z49, h38⟩ := dck_s h37
          clear h37
          refine ld_40 B Z z49 dX12_laysWith_58 ?_
          refine lv_goto (tgt := 63) hx hb dX12_laysWith_59 (by decide) ?_
          exact kJ8 (σ.2 40 (3 : Int32).toNatClampNeg) _ _ _ Z (lv_sub hl [1, 2, 3, 4, 5, 0] rfl) h38
      clear eJ6
      refine lv_icmp_le (tgt := 45) hx hb dX12_laysWith_33 (by decide) (fun c50 => ?_) (fun c50 => ?_)
      · have h40 := dit h39 c50
        clear h39
        refine lv_lconst (v := (0 : Int64)) hx hb dX12_laysWith_45 (by decide) ?_
        exact kJ6 (0 : Int64) _ _ _ Z (lv_sub hl [1, 2, 3, 4, 0] rfl) h40
      · have h41 := dif h39 c50
        clear h39
        refine lv_aload_n hx hb dX12_laysWith_36 rfl (lv_at hl 1 rfl) ?_
        refine g_33_18 B Z kf_RX12_29 dX12_laysWith_37 ?_
        refine lv_iconst (v := (2 : Int32)) hx hb dX12_laysWith_40 (by decide) ?_
        obtain ⟨z51, h42⟩ := dck_s h41
        clear h41
        refine ld_40 B Z z51 dX12_laysWith_41 ?_
        refine lv_goto (tgt := 46) hx hb dX12_laysWith_42 (by decide) ?_
        exact kJ6 (σ.2 40 (2 : Int32).toNatClampNeg) _ _ _ Z (lv_sub hl [1, 2, 3, 4, 0] rfl) h42
    clear eJ4
    refine lv_if_le (tgt := 28) hx hb dX12_laysWith_16 (by decide) (fun c52 => ?_) (fun c52 => ?_)
    · have h44 := dit h43 c52
      clear h43
      refine lv_lconst (v := (1 : Int64)) hx hb dX12_laysWith_28 (by decide) ?_
      exact kJ4 (1 : Int64) _ _ _ Z (lv_sub hl [1, 2, 3, 0] rfl) h44
    · have h45 := dif h43 c52
      clear h43
      refine lv_aload_n hx hb dX12_laysWith_19 rfl (lv_at hl 1 rfl) ?_
      refine g_33_18 B Z kf_RX12_29 dX12_laysWith_20 ?_
      refine lv_iconst (v := (1 : Int32)) hx hb dX12_laysWith_23 (by decide) ?_
      obtain ⟨z53, h46⟩ := dck_s h45
      clear h45
      refine ld_40 B Z z53 dX12_laysWith_24 ?_
      refine lv_goto (tgt := 29) hx hb dX12_laysWith_25 (by decide) ?_
      exact kJ4 (σ.2 40 (1 : Int32).toNatClampNeg) _ _ _ Z (lv_sub hl [1, 2, 3, 0] rfl) h46
  clear eJ2
  refine lv_if_le (tgt := 13) hx hb dX12_laysWith_1 (by decide) (fun c54 => ?_) (fun c54 => ?_)
  · have h48 := dit h47 c54
    clear h47
    refine lv_lconst (v := (0 : Int64)) hx hb dX12_laysWith_13 (by decide) ?_
    exact kJ2 (0 : Int64) _ _ _ Z (lv_sub hl [0, 1, 2] rfl) h48
  · have h49 := dif h47 c54
    clear h47
    refine lv_aload_n hx hb dX12_laysWith_4 rfl (lv_at hl 0 rfl) ?_
    refine g_33_18 B Z kf_RX12_29 dX12_laysWith_5 ?_
    refine lv_iconst (v := (0 : Int32)) hx hb dX12_laysWith_8 (by decide) ?_
    obtain ⟨z55, h50⟩ := dck_s h49
    clear h49
    refine ld_40 B Z z55 dX12_laysWith_9 ?_
    refine lv_goto (tgt := 14) hx hb dX12_laysWith_10 (by decide) ?_
    exact kJ2 (σ.2 40 (0 : Int32).toNatClampNeg) _ _ _ Z (lv_sub hl [0, 1, 2] rfl) h50
theorem dX12_floor_0 : decode cX12_floor 0 = .ok (.lload_n 0, 1) := by decide +kernel
theorem dX12_floor_1 : decode cX12_floor 1 = .ok (.lload_n 2, 1) := by decide +kernel
theorem dX12_floor_2 : decode cX12_floor 2 = .ok (.ldiv, 1) := by decide +kernel
theorem dX12_floor_3 : decode cX12_floor 3 = .ok (.lstore 4, 2) := by decide +kernel
theorem dX12_floor_5 : decode cX12_floor 5 = .ok (.lload_n 0, 1) := by decide +kernel
theorem dX12_floor_6 : decode cX12_floor 6 = .ok (.lload_n 2, 1) := by decide +kernel
theorem dX12_floor_7 : decode cX12_floor 7 = .ok (.lrem, 1) := by decide +kernel
theorem dX12_floor_8 : decode cX12_floor 8 = .ok (.lconst 0, 1) := by decide +kernel
theorem dX12_floor_9 : decode cX12_floor 9 = .ok (.lcmp, 1) := by decide +kernel
theorem dX12_floor_10 : decode cX12_floor 10 = .ok (.ifCond .eq 16, 3) := by decide +kernel
theorem dX12_floor_13 : decode cX12_floor 13 = .ok (.lload_n 0, 1) := by decide +kernel
theorem dX12_floor_14 : decode cX12_floor 14 = .ok (.lconst 0, 1) := by decide +kernel
theorem dX12_floor_15 : decode cX12_floor 15 = .ok (.lcmp, 1) := by decide +kernel
theorem dX12_floor_16 : decode cX12_floor 16 = .ok (.ifCond .ge 10, 3) := by decide +kernel
theorem dX12_floor_19 : decode cX12_floor 19 = .ok (.lload 4, 2) := by decide +kernel
theorem dX12_floor_21 : decode cX12_floor 21 = .ok (.lconst 1, 1) := by decide +kernel
theorem dX12_floor_22 : decode cX12_floor 22 = .ok (.lsub, 1) := by decide +kernel
theorem dX12_floor_23 : decode cX12_floor 23 = .ok (.goto 5, 3) := by decide +kernel
theorem dX12_floor_26 : decode cX12_floor 26 = .ok (.lload 4, 2) := by decide +kernel
theorem dX12_floor_28 : decode cX12_floor 28 = .ok (.lreturn, 1) := by decide +kernel
def rm_fMM_floor : Room := { frames := 1, cells := 0, slots := 0, locals := 60 }
set_option maxHeartbeats 4000000 in
set_option maxRecDepth 100000 in
theorem c_fMM_floor (l : Launch) (X : eX) (sz : Nat) (a1 : Int64) (a2 : Int64) (σ : sT) (rz : Int64) (h0 : fMM_floor a1 a2 = some rz) : ctL l yX12_floor cX12_floor 6 (some .long) rm_fMM_floor [.long a1, .long a2] (wM X) (tM X) (aM X) X sz σ rz σ := by
  refine ct_of (by decide +kernel) (Nat.le_of_ble_eq_true rfl) ?_
  intro p e s m args below meth c ls hz B hl Z
  have B : Bd p s m args meth c RX12 cX12_floor 6 (some .long) := B
  have hl : lv_has ls 6 [(0, .long a1), (2, .long a2)] := hl
  have hx := B.1
  have hb := B.2.1
  unfold fMM_floor at h0
  refine lv_lload_n hx hb dX12_floor_0 rfl (lv_at hl 0 rfl) ?_
  refine lv_lload_n hx hb dX12_floor_1 rfl (lv_at hl 1 rfl) ?_
  obtain ⟨z1, h1⟩ := dck_s h0
  clear h0
  refine lv_ldiv hx hb dX12_floor_2 (okE_s z1) ?_
  refine lv_topl (fun x2 ex2 => ?_)
  have h2 := dlt_e ex2 h1
  clear ex2 h1
  refine lv_lstore (lv' := [(4, .long x2), (0, .long a1), (2, .long a2)]) hx hb dX12_floor_3 hl (by decide) rfl (fun ls hl => ?_)
  refine lv_lload_n hx hb dX12_floor_5 rfl (lv_at hl 1 rfl) ?_
  refine lv_lload_n hx hb dX12_floor_6 rfl (lv_at hl 2 rfl) ?_
  obtain ⟨z3, h3⟩ := dck_s h2
  clear h2
  refine lv_lrem hx hb dX12_floor_7 (okE_s z3) ?_
  refine lv_lconst (v := (0 : Int64)) hx hb dX12_floor_8 (by decide) ?_
  refine W.lcmp hx hb dX12_floor_9 ?_
  refine lv_if_eq (tgt := 26) hx hb dX12_floor_10 (by decide) (fun c4 => ?_) (fun c4 => ?_)
  · have h4 := dit h3 c4
    clear h3
    refine lv_lload hx hb dX12_floor_26 (lv_at hl 0 rfl) ?_
    exact reL B Z hz (congrArg (Option.map (fun q => (q, σ))) h4) dX12_floor_28
  · have h5 := dif h3 c4
    clear h3
    refine lv_lload_n hx hb dX12_floor_13 rfl (lv_at hl 1 rfl) ?_
    refine lv_lconst (v := (0 : Int64)) hx hb dX12_floor_14 (by decide) ?_
    refine W.lcmp hx hb dX12_floor_15 ?_
    refine lv_if_ge (tgt := 26) hx hb dX12_floor_16 (by decide) (fun c5 => ?_) (fun c5 => ?_)
    · have h6 := dit h5 c5
      clear h5
      refine lv_lload hx hb dX12_floor_26 (lv_at hl 0 rfl) ?_
      exact reL B Z hz (congrArg (Option.map (fun q => (q, σ))) h6) dX12_floor_28
    · have h7 := dif h5 c5
      clear h5
      refine lv_lload hx hb dX12_floor_19 (lv_at hl 0 rfl) ?_
      refine lv_lconst (v := (1 : Int64)) hx hb dX12_floor_21 (by decide) ?_
      refine lv_lsub hx hb dX12_floor_22 ?_
      refine lv_goto (tgt := 28) hx hb dX12_floor_23 (by decide) ?_
      exact reL B Z hz (congrArg (Option.map (fun q => (q, σ))) h7) dX12_floor_28
theorem dX12_between_0 : decode cX12_between 0 = .ok (.lload_n 1, 1) := by decide +kernel
theorem dX12_between_1 : decode cX12_between 1 = .ok (.lstore 9, 2) := by decide +kernel
theorem dX12_between_3 : decode cX12_between 3 = .ok (.lload_n 3, 1) := by decide +kernel
theorem dX12_between_4 : decode cX12_between 4 = .ok (.lstore 11, 2) := by decide +kernel
theorem dX12_between_6 : decode cX12_between 6 = .ok (.lload 5, 2) := by decide +kernel
theorem dX12_between_8 : decode cX12_between 8 = .ok (.lstore 13, 2) := by decide +kernel
theorem dX12_between_10 : decode cX12_between 10 = .ok (.lload 7, 2) := by decide +kernel
theorem dX12_between_12 : decode cX12_between 12 = .ok (.lstore 15, 2) := by decide +kernel
theorem dX12_between_14 : decode cX12_between 14 = .ok (.iconst 0, 1) := by decide +kernel
theorem dX12_between_15 : decode cX12_between 15 = .ok (.istore 17, 2) := by decide +kernel
theorem dX12_between_17 : decode cX12_between 17 = .ok (.aload_n 0, 1) := by decide +kernel
theorem dX12_between_18 : decode cX12_between 18 = .ok (.getfield 26, 3) := by decide +kernel
theorem dX12_between_21 : decode cX12_between 21 = .ok (.iload 17, 2) := by decide +kernel
theorem dX12_between_23 : decode cX12_between 23 = .ok (.lload 9, 2) := by decide +kernel
theorem dX12_between_25 : decode cX12_between 25 = .ok (.lload 11, 2) := by decide +kernel
theorem dX12_between_27 : decode cX12_between 27 = .ok (.ldiv, 1) := by decide +kernel
theorem dX12_between_28 : decode cX12_between 28 = .ok (.lastore, 1) := by decide +kernel
theorem dX12_between_29 : decode cX12_between 29 = .ok (.lload 15, 2) := by decide +kernel
theorem dX12_between_31 : decode cX12_between 31 = .ok (.lconst 0, 1) := by decide +kernel
theorem dX12_between_32 : decode cX12_between 32 = .ok (.lcmp, 1) := by decide +kernel
theorem dX12_between_33 : decode cX12_between 33 = .ok (.ifCond .eq 89, 3) := by decide +kernel
theorem dX12_between_36 : decode cX12_between 36 = .ok (.aload_n 0, 1) := by decide +kernel
theorem dX12_between_37 : decode cX12_between 37 = .ok (.getfield 26, 3) := by decide +kernel
theorem dX12_between_40 : decode cX12_between 40 = .ok (.iload 17, 2) := by decide +kernel
theorem dX12_between_42 : decode cX12_between 42 = .ok (.laload, 1) := by decide +kernel
theorem dX12_between_43 : decode cX12_between 43 = .ok (.lconst 1, 1) := by decide +kernel
theorem dX12_between_44 : decode cX12_between 44 = .ok (.ladd, 1) := by decide +kernel
theorem dX12_between_45 : decode cX12_between 45 = .ok (.lload 15, 2) := by decide +kernel
theorem dX12_between_47 : decode cX12_between 47 = .ok (.lmul, 1) := by decide +kernel
theorem dX12_between_48 : decode cX12_between 48 = .ok (.lload 13, 2) := by decide +kernel
theorem dX12_between_50 : decode cX12_between 50 = .ok (.lcmp, 1) := by decide +kernel
theorem dX12_between_51 : decode cX12_between 51 = .ok (.ifCond .lt 71, 3) := by decide +kernel
theorem dX12_between_54 : decode cX12_between 54 = .ok (.lload 9, 2) := by decide +kernel
theorem dX12_between_56 : decode cX12_between 56 = .ok (.aload_n 0, 1) := by decide +kernel
theorem dX12_between_57 : decode cX12_between 57 = .ok (.getfield 26, 3) := by decide +kernel
theorem dX12_between_60 : decode cX12_between 60 = .ok (.iload 17, 2) := by decide +kernel
theorem dX12_between_62 : decode cX12_between 62 = .ok (.laload, 1) := by decide +kernel
theorem dX12_between_63 : decode cX12_between 63 = .ok (.lload 11, 2) := by decide +kernel
theorem dX12_between_65 : decode cX12_between 65 = .ok (.lmul, 1) := by decide +kernel
theorem dX12_between_66 : decode cX12_between 66 = .ok (.lsub, 1) := by decide +kernel
theorem dX12_between_67 : decode cX12_between 67 = .ok (.lstore 18, 2) := by decide +kernel
theorem dX12_between_69 : decode cX12_between 69 = .ok (.lload 13, 2) := by decide +kernel
theorem dX12_between_71 : decode cX12_between 71 = .ok (.aload_n 0, 1) := by decide +kernel
theorem dX12_between_72 : decode cX12_between 72 = .ok (.getfield 26, 3) := by decide +kernel
theorem dX12_between_75 : decode cX12_between 75 = .ok (.iload 17, 2) := by decide +kernel
theorem dX12_between_77 : decode cX12_between 77 = .ok (.laload, 1) := by decide +kernel
theorem dX12_between_78 : decode cX12_between 78 = .ok (.lload 15, 2) := by decide +kernel
theorem dX12_between_80 : decode cX12_between 80 = .ok (.lmul, 1) := by decide +kernel
theorem dX12_between_81 : decode cX12_between 81 = .ok (.lsub, 1) := by decide +kernel
theorem dX12_between_82 : decode cX12_between 82 = .ok (.lstore 20, 2) := by decide +kernel
theorem dX12_between_84 : decode cX12_between 84 = .ok (.lload 11, 2) := by decide +kernel
theorem dX12_between_86 : decode cX12_between 86 = .ok (.lstore 22, 2) := by decide +kernel
theorem dX12_between_88 : decode cX12_between 88 = .ok (.lload 15, 2) := by decide +kernel
theorem dX12_between_90 : decode cX12_between 90 = .ok (.lstore 9, 2) := by decide +kernel
theorem dX12_between_92 : decode cX12_between 92 = .ok (.lload 20, 2) := by decide +kernel
theorem dX12_between_94 : decode cX12_between 94 = .ok (.lstore 11, 2) := by decide +kernel
theorem dX12_between_96 : decode cX12_between 96 = .ok (.lload 22, 2) := by decide +kernel
theorem dX12_between_98 : decode cX12_between 98 = .ok (.lstore 13, 2) := by decide +kernel
theorem dX12_between_100 : decode cX12_between 100 = .ok (.lload 18, 2) := by decide +kernel
theorem dX12_between_102 : decode cX12_between 102 = .ok (.lstore 15, 2) := by decide +kernel
theorem dX12_between_104 : decode cX12_between 104 = .ok (.iinc 17 1, 3) := by decide +kernel
theorem dX12_between_107 : decode cX12_between 107 = .ok (.aload_n 0, 1) := by decide +kernel
theorem dX12_between_108 : decode cX12_between 108 = .ok (.getfield 26, 3) := by decide +kernel
theorem dX12_between_111 : decode cX12_between 111 = .ok (.iload 17, 2) := by decide +kernel
theorem dX12_between_113 : decode cX12_between 113 = .ok (.lload 9, 2) := by decide +kernel
theorem dX12_between_115 : decode cX12_between 115 = .ok (.lload 11, 2) := by decide +kernel
theorem dX12_between_117 : decode cX12_between 117 = .ok (.ldiv, 1) := by decide +kernel
theorem dX12_between_118 : decode cX12_between 118 = .ok (.lastore, 1) := by decide +kernel
theorem dX12_between_119 : decode cX12_between 119 = .ok (.goto (-90), 3) := by decide +kernel
theorem dX12_between_122 : decode cX12_between 122 = .ok (.aload_n 0, 1) := by decide +kernel
theorem dX12_between_123 : decode cX12_between 123 = .ok (.aload_n 0, 1) := by decide +kernel
theorem dX12_between_124 : decode cX12_between 124 = .ok (.getfield 26, 3) := by decide +kernel
theorem dX12_between_127 : decode cX12_between 127 = .ok (.iload 17, 2) := by decide +kernel
theorem dX12_between_129 : decode cX12_between 129 = .ok (.laload, 1) := by decide +kernel
theorem dX12_between_130 : decode cX12_between 130 = .ok (.lconst 1, 1) := by decide +kernel
theorem dX12_between_131 : decode cX12_between 131 = .ok (.ladd, 1) := by decide +kernel
theorem dX12_between_132 : decode cX12_between 132 = .ok (.putfield 218, 3) := by decide +kernel
theorem dX12_between_135 : decode cX12_between 135 = .ok (.aload_n 0, 1) := by decide +kernel
theorem dX12_between_136 : decode cX12_between 136 = .ok (.lconst 1, 1) := by decide +kernel
theorem dX12_between_137 : decode cX12_between 137 = .ok (.putfield 221, 3) := by decide +kernel
theorem dX12_between_140 : decode cX12_between 140 = .ok (.iload 17, 2) := by decide +kernel
theorem dX12_between_142 : decode cX12_between 142 = .ok (.iconst 1, 1) := by decide +kernel
theorem dX12_between_143 : decode cX12_between 143 = .ok (.isub, 1) := by decide +kernel
theorem dX12_between_144 : decode cX12_between 144 = .ok (.istore 18, 2) := by decide +kernel
theorem dX12_between_146 : decode cX12_between 146 = .ok (.iload 18, 2) := by decide +kernel
theorem dX12_between_148 : decode cX12_between 148 = .ok (.ifCond .lt 42, 3) := by decide +kernel
theorem dX12_between_151 : decode cX12_between 151 = .ok (.aload_n 0, 1) := by decide +kernel
theorem dX12_between_152 : decode cX12_between 152 = .ok (.getfield 218, 3) := by decide +kernel
theorem dX12_between_155 : decode cX12_between 155 = .ok (.lstore 19, 2) := by decide +kernel
theorem dX12_between_157 : decode cX12_between 157 = .ok (.aload_n 0, 1) := by decide +kernel
theorem dX12_between_158 : decode cX12_between 158 = .ok (.aload_n 0, 1) := by decide +kernel
theorem dX12_between_159 : decode cX12_between 159 = .ok (.getfield 26, 3) := by decide +kernel
theorem dX12_between_162 : decode cX12_between 162 = .ok (.iload 18, 2) := by decide +kernel
theorem dX12_between_164 : decode cX12_between 164 = .ok (.laload, 1) := by decide +kernel
theorem dX12_between_165 : decode cX12_between 165 = .ok (.aload_n 0, 1) := by decide +kernel
theorem dX12_between_166 : decode cX12_between 166 = .ok (.getfield 218, 3) := by decide +kernel
theorem dX12_between_169 : decode cX12_between 169 = .ok (.lmul, 1) := by decide +kernel
theorem dX12_between_170 : decode cX12_between 170 = .ok (.aload_n 0, 1) := by decide +kernel
theorem dX12_between_171 : decode cX12_between 171 = .ok (.getfield 221, 3) := by decide +kernel
theorem dX12_between_174 : decode cX12_between 174 = .ok (.ladd, 1) := by decide +kernel
theorem dX12_between_175 : decode cX12_between 175 = .ok (.putfield 218, 3) := by decide +kernel
theorem dX12_between_178 : decode cX12_between 178 = .ok (.aload_n 0, 1) := by decide +kernel
theorem dX12_between_179 : decode cX12_between 179 = .ok (.lload 19, 2) := by decide +kernel
theorem dX12_between_181 : decode cX12_between 181 = .ok (.putfield 221, 3) := by decide +kernel
theorem dX12_between_184 : decode cX12_between 184 = .ok (.iinc 18 (-1), 3) := by decide +kernel
theorem dX12_between_187 : decode cX12_between 187 = .ok (.goto (-41), 3) := by decide +kernel
theorem dX12_between_190 : decode cX12_between 190 = .ok (.return_, 1) := by decide +kernel
def rm_fMM_between : Room := { frames := 1, cells := 0, slots := 0, locals := 60 }
set_option maxHeartbeats 4000000 in
set_option maxRecDepth 100000 in
theorem c_fMM_between (l : Launch) (X : eX) (sz : Nat) (a1 : Int64) (a2 : Int64) (a3 : Int64) (a4 : Int64) (σ : sT) (σz : sT) (h0 : fMM_between a1 a2 a3 a4 σ = some σz) : ctV l yX12_between cX12_between 24 none rm_fMM_between [.ref (X.2.1 33), .long a1, .long a2, .long a3, .long a4] (wM X) (tM X) (aM X) X sz σ σz := by
  refine ct_of (by decide +kernel) (Nat.le_of_ble_eq_true rfl) ?_
  intro p e s m args below meth c ls hz B hl Z
  have B : Bd p s m args meth c RX12 cX12_between 24 none := B
  have hl : lv_has ls 24 [(0, .ref (X.2.1 33)), (1, .long a1), (3, .long a2), (5, .long a3), (7, .long a4)] := hl
  have hx := B.1
  have hb := B.2.1
  unfold fMM_between at h0
  refine lv_lload_n hx hb dX12_between_0 rfl (lv_at hl 1 rfl) ?_
  refine lv_lstore (lv' := [(9, .long a1), (0, .ref (X.2.1 33)), (1, .long a1), (3, .long a2), (5, .long a3), (7, .long a4)]) hx hb dX12_between_1 hl (by decide) rfl (fun ls hl => ?_)
  refine lv_lload_n hx hb dX12_between_3 rfl (lv_at hl 3 rfl) ?_
  refine lv_lstore (lv' := [(11, .long a2), (9, .long a1), (0, .ref (X.2.1 33)), (1, .long a1), (3, .long a2), (5, .long a3), (7, .long a4)]) hx hb dX12_between_4 hl (by decide) rfl (fun ls hl => ?_)
  refine lv_lload hx hb dX12_between_6 (lv_at hl 5 rfl) ?_
  refine lv_lstore (lv' := [(13, .long a3), (11, .long a2), (9, .long a1), (0, .ref (X.2.1 33)), (1, .long a1), (3, .long a2), (5, .long a3), (7, .long a4)]) hx hb dX12_between_8 hl (by decide) rfl (fun ls hl => ?_)
  refine lv_lload hx hb dX12_between_10 (lv_at hl 7 rfl) ?_
  refine lv_lstore (lv' := [(15, .long a4), (13, .long a3), (11, .long a2), (9, .long a1), (0, .ref (X.2.1 33)), (1, .long a1), (3, .long a2), (5, .long a3), (7, .long a4)]) hx hb dX12_between_12 hl (by decide) rfl (fun ls hl => ?_)
  refine lv_iconst (v := (0 : Int32)) hx hb dX12_between_14 (by decide) ?_
  refine lv_istore (lv' := [(17, .int (0 : Int32)), (15, .long a4), (13, .long a3), (11, .long a2), (9, .long a1), (0, .ref (X.2.1 33)), (1, .long a1), (3, .long a2), (5, .long a3), (7, .long a4)]) hx hb dX12_between_15 hl (by decide) rfl (fun ls hl => ?_)
  refine lv_aload_n hx hb dX12_between_17 rfl (lv_at hl 5 rfl) ?_
  refine g_33_17 B Z kf_RX12_26 dX12_between_18 ?_
  refine lv_iload hx hb dX12_between_21 (lv_at hl 0 rfl) ?_
  refine lv_lload hx hb dX12_between_23 (lv_at hl 4 rfl) ?_
  refine lv_lload hx hb dX12_between_25 (lv_at hl 3 rfl) ?_
  obtain ⟨z1, h1⟩ := dck_s h0
  clear h0
  refine lv_ldiv hx hb dX12_between_27 (okE_s z1) ?_
  obtain ⟨z2, h2⟩ := dck_s h1
  clear h1
  refine st_39 B Z z2 dX12_between_28 (fun H locs Z => ?_)
  obtain ⟨σ3, eσ3, h3⟩ := dlt_s h2
  clear h2
  replace Z := Wd.eq eσ3 Z
  clear eσ3
  obtain ⟨K12, eK12, h16⟩ := dlt_s h3
  clear h3
  have kK12 : ∀ (x10 : Int32) (σ11 : sT) (H : Heap) (locs : List Loc) (ls : Array Slot), Wd (wM X) (tM X) (aM X) X s σ11 H locs → lv_has ls 24 [(0, .ref (X.2.1 33)), (17, .int x10)] → K12 x10 σ11 = some σz → W p l e rm_fMM_between s m args below meth c H locs 0 0 (MQ below (va_Qv (fun u => u = σz) (poW (wM X) (tM X) (aM X) X sz) (aA (aM X) sz)) args s 0 0 (aA (aM X) sz)) (F0 m 122 ls []) := by
    intro x10 σ11 H locs ls Z hl h4
    rw [eK12] at h4
    refine lv_aload_n hx hb dX12_between_122 rfl (lv_at hl 0 rfl) ?_
    refine lv_aload_n hx hb dX12_between_123 rfl (lv_at hl 0 rfl) ?_
    refine g_33_17 B Z kf_RX12_26 dX12_between_124 ?_
    refine lv_iload hx hb dX12_between_127 (lv_at hl 1 rfl) ?_
    obtain ⟨z13, h5⟩ := dck_s h4
    clear h4
    refine ld_39 B Z z13 dX12_between_129 ?_
    refine lv_lconst (v := (1 : Int64)) hx hb dX12_between_130 (by decide) ?_
    refine lv_ladd hx hb dX12_between_131 ?_
    refine s_33_15 B Z kf_RX12_218 dX12_between_132 (fun H locs Z => ?_)
    obtain ⟨σ14, eσ14, h6⟩ := dlt_s h5
    clear h5
    replace Z := Wd.eq eσ14 Z
    clear eσ14
    refine lv_aload_n hx hb dX12_between_135 rfl (lv_at hl 0 rfl) ?_
    refine lv_lconst (v := (1 : Int64)) hx hb dX12_between_136 (by decide) ?_
    refine s_33_16 B Z kf_RX12_221 dX12_between_137 (fun H locs Z => ?_)
    obtain ⟨σ15, eσ15, h7⟩ := dlt_s h6
    clear h6
    replace Z := Wd.eq eσ15 Z
    clear eσ15
    refine lv_iload hx hb dX12_between_140 (lv_at hl 1 rfl) ?_
    refine lv_iconst (v := (1 : Int32)) hx hb dX12_between_142 (by decide) ?_
    refine lv_isub hx hb dX12_between_143 ?_
    refine lv_topi (fun x16 ex16 => ?_)
    have h8 := dlt_e ex16 h7
    clear ex16 h7
    refine lv_istore (lv' := [(18, .int x16), (0, .ref (X.2.1 33)), (17, .int x10)]) hx hb dX12_between_144 hl (by decide) rfl (fun ls hl => ?_)
    have lL146 : ∀ (n : Nat), ∀ (x17 : Int32) (σ18 : sT) (H : Heap) (locs : List Loc) (ls : Array Slot), Wd (wM X) (tM X) (aM X) X s σ18 H locs → lv_has ls 24 [(0, .ref (X.2.1 33)), (18, .int x17)] → fMM_between_L146 n x17 σ18 = some σz → W p l e rm_fMM_between s m args below meth c H locs 0 0 (MQ below (va_Qv (fun u => u = σz) (poW (wM X) (tM X) (aM X) X sz) (aA (aM X) sz)) args s 0 0 (aA (aM X) sz)) (F0 m 146 ls []) := by
      intro n
      induction n with
      | zero =>
        intro x17 σ18 H locs ls Z hl h
        exact nomatch (show (none : Option (sT)) = some _ from h)
      | succ n19 ih84 =>
        intro x17 σ18 H locs ls Z hl h9
        unfold fMM_between_L146 at h9
        refine lv_iload hx hb dX12_between_146 (lv_at hl 1 rfl) ?_
        refine lv_if_lt (tgt := 190) hx hb dX12_between_148 (by decide) (fun c20 => ?_) (fun c20 => ?_)
        · have h10 := dit h9 c20
          clear h9
          exact reV B Z hz h10 dX12_between_190
        · have h11 := dif h9 c20
          clear h9
          refine lv_aload_n hx hb dX12_between_151 rfl (lv_at hl 0 rfl) ?_
          refine g_33_15 B Z kf_RX12_218 dX12_between_152 ?_
          refine lv_topl (fun x21 ex21 => ?_)
          have h12 := dlt_e ex21 h11
          clear ex21 h11
          refine lv_lstore (lv' := [(19, .long x21), (0, .ref (X.2.1 33)), (18, .int x17)]) hx hb dX12_between_155 hl (by decide) rfl (fun ls hl => ?_)
          refine lv_aload_n hx hb dX12_between_157 rfl (lv_at hl 1 rfl) ?_
          refine lv_aload_n hx hb dX12_between_158 rfl (lv_at hl 1 rfl) ?_
          refine g_33_17 B Z kf_RX12_26 dX12_between_159 ?_
          refine lv_iload hx hb dX12_between_162 (lv_at hl 2 rfl) ?_
          obtain ⟨z22, h13⟩ := dck_s h12
          clear h12
          refine ld_39 B Z z22 dX12_between_164 ?_
          refine lv_aload_n hx hb dX12_between_165 rfl (lv_at hl 1 rfl) ?_
          refine g_33_15 B Z kf_RX12_218 dX12_between_166 ?_
          refine lv_lmul hx hb dX12_between_169 ?_
          refine lv_aload_n hx hb dX12_between_170 rfl (lv_at hl 1 rfl) ?_
          refine g_33_16 B Z kf_RX12_221 dX12_between_171 ?_
          refine lv_ladd hx hb dX12_between_174 ?_
          refine s_33_15 B Z kf_RX12_218 dX12_between_175 (fun H locs Z => ?_)
          obtain ⟨σ23, eσ23, h14⟩ := dlt_s h13
          clear h13
          replace Z := Wd.eq eσ23 Z
          clear eσ23
          refine lv_aload_n hx hb dX12_between_178 rfl (lv_at hl 1 rfl) ?_
          refine lv_lload hx hb dX12_between_179 (lv_at hl 0 rfl) ?_
          refine s_33_16 B Z kf_RX12_221 dX12_between_181 (fun H locs Z => ?_)
          obtain ⟨σ24, eσ24, h15⟩ := dlt_s h14
          clear h14
          replace Z := Wd.eq eσ24 Z
          clear eσ24
          refine lv_iinc (v := x17 + (-1 : Int32)) (lv' := [(18, .int (x17 + (-1 : Int32))), (19, .long x21), (0, .ref (X.2.1 33))]) hx hb dX12_between_184 hl (k := 2) rfl (by rfl) (by decide) rfl (fun ls hl => ?_)
          refine lv_goto (tgt := 146) hx hb dX12_between_187 (by decide) ?_
          exact ih84 (x17 + (-1 : Int32)) σ24 _ _ _ Z (lv_sub hl [2, 0] rfl) h15
    exact lL146 FU x16 σ15 _ _ _ Z (lv_sub hl [1, 0] rfl) h8
  clear eK12
  have lL29 : ∀ (n : Nat), ∀ (x4 : Int64) (x5 : Int64) (x6 : Int64) (x7 : Int64) (x8 : Int32) (σ9 : sT) (H : Heap) (locs : List Loc) (ls : Array Slot), Wd (wM X) (tM X) (aM X) X s σ9 H locs → lv_has ls 24 [(0, .ref (X.2.1 33)), (9, .long x4), (11, .long x5), (13, .long x6), (15, .long x7), (17, .int x8)] → fMM_between_L29 K12 n x4 x5 x6 x7 x8 σ9 = some σz → W p l e rm_fMM_between s m args below meth c H locs 0 0 (MQ below (va_Qv (fun u => u = σz) (poW (wM X) (tM X) (aM X) X sz) (aA (aM X) sz)) args s 0 0 (aA (aM X) sz)) (F0 m 29 ls []) := by
    intro n
    induction n with
    | zero =>
      intro x4 x5 x6 x7 x8 σ9 H locs ls Z hl h
      exact nomatch (show (none : Option (sT)) = some _ from h)
    | succ n25 ih17 =>
      intro x4 x5 x6 x7 x8 σ9 H locs ls Z hl h17
      unfold fMM_between_L29 at h17
      refine lv_lload hx hb dX12_between_29 (lv_at hl 4 rfl) ?_
      refine lv_lconst (v := (0 : Int64)) hx hb dX12_between_31 (by decide) ?_
      refine W.lcmp hx hb dX12_between_32 ?_
      refine lv_if_eq (tgt := 122) hx hb dX12_between_33 (by decide) (fun c26 => ?_) (fun c26 => ?_)
      · have h18 := dit h17 c26
        clear h17
        exact kK12 x8 σ9 _ _ _ Z (lv_sub hl [0, 5] rfl) h18
      · have h19 := dif h17 c26
        clear h17
        refine lv_aload_n hx hb dX12_between_36 rfl (lv_at hl 0 rfl) ?_
        refine g_33_17 B Z kf_RX12_26 dX12_between_37 ?_
        refine lv_iload hx hb dX12_between_40 (lv_at hl 5 rfl) ?_
        obtain ⟨z27, h20⟩ := dck_s h19
        clear h19
        refine ld_39 B Z z27 dX12_between_42 ?_
        refine lv_lconst (v := (1 : Int64)) hx hb dX12_between_43 (by decide) ?_
        refine lv_ladd hx hb dX12_between_44 ?_
        refine lv_lload hx hb dX12_between_45 (lv_at hl 4 rfl) ?_
        refine lv_lmul hx hb dX12_between_47 ?_
        refine lv_lload hx hb dX12_between_48 (lv_at hl 3 rfl) ?_
        refine W.lcmp hx hb dX12_between_50 ?_
        refine lv_if_lt (tgt := 122) hx hb dX12_between_51 (by decide) (fun c28 => ?_) (fun c28 => ?_)
        · have h21 := dit h20 c28
          clear h20
          exact kK12 x8 σ9 _ _ _ Z (lv_sub hl [0, 5] rfl) h21
        · have h22 := dif h20 c28
          clear h20
          refine lv_lload hx hb dX12_between_54 (lv_at hl 1 rfl) ?_
          refine lv_aload_n hx hb dX12_between_56 rfl (lv_at hl 0 rfl) ?_
          refine g_33_17 B Z kf_RX12_26 dX12_between_57 ?_
          refine lv_iload hx hb dX12_between_60 (lv_at hl 5 rfl) ?_
          obtain ⟨z29, h23⟩ := dck_s h22
          clear h22
          refine ld_39 B Z z29 dX12_between_62 ?_
          refine lv_lload hx hb dX12_between_63 (lv_at hl 2 rfl) ?_
          refine lv_lmul hx hb dX12_between_65 ?_
          refine lv_lsub hx hb dX12_between_66 ?_
          refine lv_topl (fun x30 ex30 => ?_)
          have h24 := dlt_e ex30 h23
          clear ex30 h23
          refine lv_lstore (lv' := [(18, .long x30), (0, .ref (X.2.1 33)), (9, .long x4), (11, .long x5), (13, .long x6), (15, .long x7), (17, .int x8)]) hx hb dX12_between_67 hl (by decide) rfl (fun ls hl => ?_)
          refine lv_lload hx hb dX12_between_69 (lv_at hl 4 rfl) ?_
          refine lv_aload_n hx hb dX12_between_71 rfl (lv_at hl 1 rfl) ?_
          refine g_33_17 B Z kf_RX12_26 dX12_between_72 ?_
          refine lv_iload hx hb dX12_between_75 (lv_at hl 6 rfl) ?_
          obtain ⟨z31, h25⟩ := dck_s h24
          clear h24
          refine ld_39 B Z z31 dX12_between_77 ?_
          refine lv_lload hx hb dX12_between_78 (lv_at hl 5 rfl) ?_
          refine lv_lmul hx hb dX12_between_80 ?_
          refine lv_lsub hx hb dX12_between_81 ?_
          refine lv_topl (fun x32 ex32 => ?_)
          have h26 := dlt_e ex32 h25
          clear ex32 h25
          refine lv_lstore (lv' := [(20, .long x32), (18, .long x30), (0, .ref (X.2.1 33)), (9, .long x4), (11, .long x5), (13, .long x6), (15, .long x7), (17, .int x8)]) hx hb dX12_between_82 hl (by decide) rfl (fun ls hl => ?_)
          refine lv_lload hx hb dX12_between_84 (lv_at hl 4 rfl) ?_
          refine lv_lstore (lv' := [(22, .long x5), (20, .long x32), (18, .long x30), (0, .ref (X.2.1 33)), (9, .long x4), (11, .long x5), (13, .long x6), (15, .long x7), (17, .int x8)]) hx hb dX12_between_86 hl (by decide) rfl (fun ls hl => ?_)
          refine lv_lload hx hb dX12_between_88 (lv_at hl 7 rfl) ?_
          refine lv_lstore (lv' := [(9, .long x7), (22, .long x5), (20, .long x32), (18, .long x30), (0, .ref (X.2.1 33)), (11, .long x5), (13, .long x6), (15, .long x7), (17, .int x8)]) hx hb dX12_between_90 hl (by decide) rfl (fun ls hl => ?_)
          refine lv_lload hx hb dX12_between_92 (lv_at hl 2 rfl) ?_
          refine lv_lstore (lv' := [(11, .long x32), (9, .long x7), (22, .long x5), (20, .long x32), (18, .long x30), (0, .ref (X.2.1 33)), (13, .long x6), (15, .long x7), (17, .int x8)]) hx hb dX12_between_94 hl (by decide) rfl (fun ls hl => ?_)
          refine lv_lload hx hb dX12_between_96 (lv_at hl 2 rfl) ?_
          refine lv_lstore (lv' := [(13, .long x5), (11, .long x32), (9, .long x7), (22, .long x5), (20, .long x32), (18, .long x30), (0, .ref (X.2.1 33)), (15, .long x7), (17, .int x8)]) hx hb dX12_between_98 hl (by decide) rfl (fun ls hl => ?_)
          refine lv_lload hx hb dX12_between_100 (lv_at hl 5 rfl) ?_
          refine lv_lstore (lv' := [(15, .long x30), (13, .long x5), (11, .long x32), (9, .long x7), (22, .long x5), (20, .long x32), (18, .long x30), (0, .ref (X.2.1 33)), (17, .int x8)]) hx hb dX12_between_102 hl (by decide) rfl (fun ls hl => ?_)
          refine lv_iinc (v := x8 + (1 : Int32)) (lv' := [(17, .int (x8 + (1 : Int32))), (15, .long x30), (13, .long x5), (11, .long x32), (9, .long x7), (22, .long x5), (20, .long x32), (18, .long x30), (0, .ref (X.2.1 33))]) hx hb dX12_between_104 hl (k := 8) rfl (by rfl) (by decide) rfl (fun ls hl => ?_)
          refine lv_aload_n hx hb dX12_between_107 rfl (lv_at hl 8 rfl) ?_
          refine g_33_17 B Z kf_RX12_26 dX12_between_108 ?_
          refine lv_iload hx hb dX12_between_111 (lv_at hl 0 rfl) ?_
          refine lv_lload hx hb dX12_between_113 (lv_at hl 4 rfl) ?_
          refine lv_lload hx hb dX12_between_115 (lv_at hl 3 rfl) ?_
          obtain ⟨z33, h27⟩ := dck_s h26
          clear h26
          refine lv_ldiv hx hb dX12_between_117 (okE_s z33) ?_
          obtain ⟨z34, h28⟩ := dck_s h27
          clear h27
          refine st_39 B Z z34 dX12_between_118 (fun H locs Z => ?_)
          obtain ⟨σ35, eσ35, h29⟩ := dlt_s h28
          clear h28
          replace Z := Wd.eq eσ35 Z
          clear eσ35
          refine lv_goto (tgt := 29) hx hb dX12_between_119 (by decide) ?_
          exact ih17 x7 x32 x5 x30 (x8 + (1 : Int32)) σ35 _ _ _ Z (lv_sub hl [8, 4, 3, 2, 1, 0] rfl) h29
  exact lL29 FU a1 a2 a3 a4 (0 : Int32) σ3 _ _ _ Z (lv_sub hl [5, 4, 3, 2, 1, 0] rfl) h16
theorem dX12_choosesBetween_0 : decode cX12_choosesBetween 0 = .ok (.lload_n 1, 1) := by decide +kernel
theorem dX12_choosesBetween_1 : decode cX12_choosesBetween 1 = .ok (.lconst 0, 1) := by decide +kernel
theorem dX12_choosesBetween_2 : decode cX12_choosesBetween 2 = .ok (.lcmp, 1) := by decide +kernel
theorem dX12_choosesBetween_3 : decode cX12_choosesBetween 3 = .ok (.ifCond .ge 23, 3) := by decide +kernel
theorem dX12_choosesBetween_6 : decode cX12_choosesBetween 6 = .ok (.lload 5, 2) := by decide +kernel
theorem dX12_choosesBetween_8 : decode cX12_choosesBetween 8 = .ok (.lconst 0, 1) := by decide +kernel
theorem dX12_choosesBetween_9 : decode cX12_choosesBetween 9 = .ok (.lcmp, 1) := by decide +kernel
theorem dX12_choosesBetween_10 : decode cX12_choosesBetween 10 = .ok (.ifCond .le 16, 3) := by decide +kernel
theorem dX12_choosesBetween_13 : decode cX12_choosesBetween 13 = .ok (.aload_n 0, 1) := by decide +kernel
theorem dX12_choosesBetween_14 : decode cX12_choosesBetween 14 = .ok (.lconst 0, 1) := by decide +kernel
theorem dX12_choosesBetween_15 : decode cX12_choosesBetween 15 = .ok (.putfield 218, 3) := by decide +kernel
theorem dX12_choosesBetween_18 : decode cX12_choosesBetween 18 = .ok (.aload_n 0, 1) := by decide +kernel
theorem dX12_choosesBetween_19 : decode cX12_choosesBetween 19 = .ok (.lconst 1, 1) := by decide +kernel
theorem dX12_choosesBetween_20 : decode cX12_choosesBetween 20 = .ok (.putfield 221, 3) := by decide +kernel
theorem dX12_choosesBetween_23 : decode cX12_choosesBetween 23 = .ok (.goto 43, 3) := by decide +kernel
theorem dX12_choosesBetween_26 : decode cX12_choosesBetween 26 = .ok (.lload_n 1, 1) := by decide +kernel
theorem dX12_choosesBetween_27 : decode cX12_choosesBetween 27 = .ok (.lconst 0, 1) := by decide +kernel
theorem dX12_choosesBetween_28 : decode cX12_choosesBetween 28 = .ok (.lcmp, 1) := by decide +kernel
theorem dX12_choosesBetween_29 : decode cX12_choosesBetween 29 = .ok (.ifCond .lt 16, 3) := by decide +kernel
theorem dX12_choosesBetween_32 : decode cX12_choosesBetween 32 = .ok (.aload_n 0, 1) := by decide +kernel
theorem dX12_choosesBetween_33 : decode cX12_choosesBetween 33 = .ok (.lload_n 1, 1) := by decide +kernel
theorem dX12_choosesBetween_34 : decode cX12_choosesBetween 34 = .ok (.lload_n 3, 1) := by decide +kernel
theorem dX12_choosesBetween_35 : decode cX12_choosesBetween 35 = .ok (.lload 5, 2) := by decide +kernel
theorem dX12_choosesBetween_37 : decode cX12_choosesBetween 37 = .ok (.lload 7, 2) := by decide +kernel
theorem dX12_choosesBetween_39 : decode cX12_choosesBetween 39 = .ok (.invokevirtual 231, 3) := by decide +kernel
theorem dX12_choosesBetween_42 : decode cX12_choosesBetween 42 = .ok (.goto 24, 3) := by decide +kernel
theorem dX12_choosesBetween_45 : decode cX12_choosesBetween 45 = .ok (.aload_n 0, 1) := by decide +kernel
theorem dX12_choosesBetween_46 : decode cX12_choosesBetween 46 = .ok (.lload 5, 2) := by decide +kernel
theorem dX12_choosesBetween_48 : decode cX12_choosesBetween 48 = .ok (.lneg, 1) := by decide +kernel
theorem dX12_choosesBetween_49 : decode cX12_choosesBetween 49 = .ok (.lload 7, 2) := by decide +kernel
theorem dX12_choosesBetween_51 : decode cX12_choosesBetween 51 = .ok (.lload_n 1, 1) := by decide +kernel
theorem dX12_choosesBetween_52 : decode cX12_choosesBetween 52 = .ok (.lneg, 1) := by decide +kernel
theorem dX12_choosesBetween_53 : decode cX12_choosesBetween 53 = .ok (.lload_n 3, 1) := by decide +kernel
theorem dX12_choosesBetween_54 : decode cX12_choosesBetween 54 = .ok (.invokevirtual 231, 3) := by decide +kernel
theorem dX12_choosesBetween_57 : decode cX12_choosesBetween 57 = .ok (.aload_n 0, 1) := by decide +kernel
theorem dX12_choosesBetween_58 : decode cX12_choosesBetween 58 = .ok (.aload_n 0, 1) := by decide +kernel
theorem dX12_choosesBetween_59 : decode cX12_choosesBetween 59 = .ok (.getfield 218, 3) := by decide +kernel
theorem dX12_choosesBetween_62 : decode cX12_choosesBetween 62 = .ok (.lneg, 1) := by decide +kernel
theorem dX12_choosesBetween_63 : decode cX12_choosesBetween 63 = .ok (.putfield 218, 3) := by decide +kernel
theorem dX12_choosesBetween_66 : decode cX12_choosesBetween 66 = .ok (.return_, 1) := by decide +kernel
def rm_fMM_choosesBetween : Room := { frames := 2, cells := 0, slots := 0, locals := 103 }
set_option maxHeartbeats 4000000 in
set_option maxRecDepth 100000 in
theorem c_fMM_choosesBetween (l : Launch) (X : eX) (sz : Nat) (a1 : Int64) (a2 : Int64) (a3 : Int64) (a4 : Int64) (σ : sT) (σz : sT) (h0 : fMM_choosesBetween a1 a2 a3 a4 σ = some σz) : ctV l yX12_choosesBetween cX12_choosesBetween 9 none rm_fMM_choosesBetween [.ref (X.2.1 33), .long a1, .long a2, .long a3, .long a4] (wM X) (tM X) (aM X) X sz σ σz := by
  refine ct_of (by decide +kernel) (Nat.le_of_ble_eq_true rfl) ?_
  intro p e s m args below meth c ls hz B hl Z
  have B : Bd p s m args meth c RX12 cX12_choosesBetween 9 none := B
  have hl : lv_has ls 9 [(0, .ref (X.2.1 33)), (1, .long a1), (3, .long a2), (5, .long a3), (7, .long a4)] := hl
  have hx := B.1
  have hb := B.2.1
  unfold fMM_choosesBetween at h0
  refine lv_lload_n hx hb dX12_choosesBetween_0 rfl (lv_at hl 1 rfl) ?_
  refine lv_lconst (v := (0 : Int64)) hx hb dX12_choosesBetween_1 (by decide) ?_
  refine W.lcmp hx hb dX12_choosesBetween_2 ?_
  obtain ⟨J1, eJ1, h7⟩ := dlt_s h0
  clear h0
  have kJ1 : ∀ (H : Heap) (locs : List Loc) (ls : Array Slot), Wd (wM X) (tM X) (aM X) X s σ H locs → lv_has ls 9 [(0, .ref (X.2.1 33)), (1, .long a1), (3, .long a2), (5, .long a3), (7, .long a4)] → J1 () = some σz → W p l e rm_fMM_choosesBetween s m args below meth c H locs 0 0 (MQ below (va_Qv (fun u => u = σz) (poW (wM X) (tM X) (aM X) X sz) (aA (aM X) sz)) args s 0 0 (aA (aM X) sz)) (F0 m 26 ls []) := by
    intro  H locs ls Z hl h1
    rw [eJ1] at h1
    refine lv_lload_n hx hb dX12_choosesBetween_26 rfl (lv_at hl 1 rfl) ?_
    refine lv_lconst (v := (0 : Int64)) hx hb dX12_choosesBetween_27 (by decide) ?_
    refine W.lcmp hx hb dX12_choosesBetween_28 ?_
    refine lv_if_lt (tgt := 45) hx hb dX12_choosesBetween_29 (by decide) (fun c2 => ?_) (fun c2 => ?_)
    · have h2 := dit h1 c2
      clear h1
      refine lv_aload_n hx hb dX12_choosesBetween_45 rfl (lv_at hl 0 rfl) ?_
      refine lv_lload hx hb dX12_choosesBetween_46 (lv_at hl 3 rfl) ?_
      refine lv_lneg hx hb dX12_choosesBetween_48 ?_
      refine lv_lload hx hb dX12_choosesBetween_49 (lv_at hl 4 rfl) ?_
      refine lv_lload_n hx hb dX12_choosesBetween_51 rfl (lv_at hl 1 rfl) ?_
      refine lv_lneg hx hb dX12_choosesBetween_52 ?_
      refine lv_lload_n hx hb dX12_choosesBetween_53 rfl (lv_at hl 2 rfl) ?_
      obtain ⟨σ4, hc2, h3⟩ := db1_s h2
      clear h2
      refine cV_V [.long (-a3), .long a4, .long (-a1), .long a2] [] B mx_yX12_between (c_fMM_between l X _ (-a3) a4 (-a1) a2 σ σ4 hc2) kl_RX12_231 mi_yX12_between (rv_33 _ _) hcl_12 Z hl rfl rfl ⟨Nat.le_of_ble_eq_true rfl, Nat.le_of_ble_eq_true rfl⟩ rfl rfl (Nat.le_of_ble_eq_true rfl) dX12_choosesBetween_54 (fun H locs Z => ?_)
      clear hc2
      refine lv_aload_n hx hb dX12_choosesBetween_57 rfl (lv_at hl 0 rfl) ?_
      refine lv_aload_n hx hb dX12_choosesBetween_58 rfl (lv_at hl 0 rfl) ?_
      refine g_33_15 B Z kf_RX12_218 dX12_choosesBetween_59 ?_
      refine lv_lneg hx hb dX12_choosesBetween_62 ?_
      refine s_33_15 B Z kf_RX12_218 dX12_choosesBetween_63 (fun H locs Z => ?_)
      obtain ⟨σ5, eσ5, h4⟩ := dlt_s h3
      clear h3
      replace Z := Wd.eq eσ5 Z
      clear eσ5
      exact reV B Z hz h4 dX12_choosesBetween_66
    · have h5 := dif h1 c2
      clear h1
      refine lv_aload_n hx hb dX12_choosesBetween_32 rfl (lv_at hl 0 rfl) ?_
      refine lv_lload_n hx hb dX12_choosesBetween_33 rfl (lv_at hl 1 rfl) ?_
      refine lv_lload_n hx hb dX12_choosesBetween_34 rfl (lv_at hl 2 rfl) ?_
      refine lv_lload hx hb dX12_choosesBetween_35 (lv_at hl 3 rfl) ?_
      refine lv_lload hx hb dX12_choosesBetween_37 (lv_at hl 4 rfl) ?_
      obtain ⟨σ7, hc5, h6⟩ := db1_s h5
      clear h5
      refine cV_V [.long a1, .long a2, .long a3, .long a4] [] B mx_yX12_between (c_fMM_between l X _ a1 a2 a3 a4 σ σ7 hc5) kl_RX12_231 mi_yX12_between (rv_33 _ _) hcl_12 Z hl rfl rfl ⟨Nat.le_of_ble_eq_true rfl, Nat.le_of_ble_eq_true rfl⟩ rfl rfl (Nat.le_of_ble_eq_true rfl) dX12_choosesBetween_39 (fun H locs Z => ?_)
      clear hc5
      refine lv_goto (tgt := 66) hx hb dX12_choosesBetween_42 (by decide) ?_
      exact reV B Z hz h6 dX12_choosesBetween_66
  clear eJ1
  refine lv_if_ge (tgt := 26) hx hb dX12_choosesBetween_3 (by decide) (fun c8 => ?_) (fun c8 => ?_)
  · have h8 := dit h7 c8
    clear h7
    exact kJ1  _ _ _ Z (lv_sub hl [0, 1, 2, 3, 4] rfl) h8
  · have h9 := dif h7 c8
    clear h7
    refine lv_lload hx hb dX12_choosesBetween_6 (lv_at hl 3 rfl) ?_
    refine lv_lconst (v := (0 : Int64)) hx hb dX12_choosesBetween_8 (by decide) ?_
    refine W.lcmp hx hb dX12_choosesBetween_9 ?_
    refine lv_if_le (tgt := 26) hx hb dX12_choosesBetween_10 (by decide) (fun c9 => ?_) (fun c9 => ?_)
    · have h10 := dit h9 c9
      clear h9
      exact kJ1  _ _ _ Z (lv_sub hl [0, 1, 2, 3, 4] rfl) h10
    · have h11 := dif h9 c9
      clear h9
      refine lv_aload_n hx hb dX12_choosesBetween_13 rfl (lv_at hl 0 rfl) ?_
      refine lv_lconst (v := (0 : Int64)) hx hb dX12_choosesBetween_14 (by decide) ?_
      refine s_33_15 B Z kf_RX12_218 dX12_choosesBetween_15 (fun H locs Z => ?_)
      obtain ⟨σ10, eσ10, h12⟩ := dlt_s h11
      clear h11
      replace Z := Wd.eq eσ10 Z
      clear eσ10
      refine lv_aload_n hx hb dX12_choosesBetween_18 rfl (lv_at hl 0 rfl) ?_
      refine lv_lconst (v := (1 : Int64)) hx hb dX12_choosesBetween_19 (by decide) ?_
      refine s_33_16 B Z kf_RX12_221 dX12_choosesBetween_20 (fun H locs Z => ?_)
      obtain ⟨σ11, eσ11, h13⟩ := dlt_s h12
      clear h12
      replace Z := Wd.eq eσ11 Z
      clear eσ11
      refine lv_goto (tgt := 66) hx hb dX12_choosesBetween_23 (by decide) ?_
      exact reV B Z hz h13 dX12_choosesBetween_66
