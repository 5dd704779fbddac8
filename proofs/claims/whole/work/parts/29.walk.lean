theorem dX12_told_0 : decode cX12_told 0 = .ok (.iload_n 1, 1) := by decide +kernel
theorem dX12_told_1 : decode cX12_told 1 = .ok (.i2l, 1) := by decide +kernel
theorem dX12_told_2 : decode cX12_told 2 = .ok (.lconst 0, 1) := by decide +kernel
theorem dX12_told_3 : decode cX12_told 3 = .ok (.ldc2_w 156, 3) := by decide +kernel
theorem dX12_told_6 : decode cX12_told 6 = .ok (.invokestatic 68, 3) := by decide +kernel
theorem dX12_told_9 : decode cX12_told 9 = .ok (.ifCond .eq 11, 3) := by decide +kernel
theorem dX12_told_12 : decode cX12_told 12 = .ok (.aload_n 0, 1) := by decide +kernel
theorem dX12_told_13 : decode cX12_told 13 = .ok (.iload_n 1, 1) := by decide +kernel
theorem dX12_told_14 : decode cX12_told 14 = .ok (.invokevirtual 400, 3) := by decide +kernel
theorem dX12_told_17 : decode cX12_told 17 = .ok (.goto 9, 3) := by decide +kernel
theorem dX12_told_20 : decode cX12_told 20 = .ok (.aload_n 0, 1) := by decide +kernel
theorem dX12_told_21 : decode cX12_told 21 = .ok (.ldc 63, 2) := by decide +kernel
theorem dX12_told_23 : decode cX12_told 23 = .ok (.invokevirtual 168, 3) := by decide +kernel
theorem dX12_told_26 : decode cX12_told 26 = .ok (.ireturn, 1) := by decide +kernel
def rm_fMM_told : Room := { frames := 2, cells := 0, slots := 0, locals := 85 }
set_option maxHeartbeats 4000000 in
set_option maxRecDepth 100000 in
theorem c_fMM_told (l : Launch) (X : eX) (sz : Nat) (a1 : Int32) (σ : sT) (rz : Int32) (σz : sT) (h0 : fMM_told a1 σ = some (rz, σz)) : ctI l yX12_told cX12_told 2 (some .int) rm_fMM_told [.ref (X.2.1 33), .int a1] (wM X) (tM X) (aM X) X sz σ rz σz := by
  refine ct_of (by decide +kernel) (Nat.le_of_ble_eq_true rfl) ?_
  intro p e s m args below meth c ls hz B hl Z
  have B : Bd p s m args meth c RX12 cX12_told 2 (some .int) := B
  have hl : lv_has ls 2 [(0, .ref (X.2.1 33)), (1, .int a1)] := hl
  have hx := B.1
  have hb := B.2.1
  unfold fMM_told at h0
  refine lv_iload_n hx hb dX12_told_0 rfl (lv_at hl 1 rfl) ?_
  refine lv_i2l hx hb dX12_told_1 rfl ?_
  refine lv_lconst (v := (0 : Int64)) hx hb dX12_told_2 (by decide) ?_
  refine lv_ldc2 hx hb B.2.2.2.1 (B.2.2.2.2.1 _ kc_RX12_156) dX12_told_3 ?_
  obtain ⟨r2, hc0, h1⟩ := db1_s h0
  clear h0
  refine cS_I [.long a1.toInt64, .long (0 : Int64), .long (5 : Int64)] [] B mx_yX12_in (c_fMM_in l X _ a1.toInt64 (0 : Int64) (5 : Int64) σ r2 hc0) kl_RX12_68 ks_yX12_in Z hl rfl rfl ⟨Nat.le_of_ble_eq_true rfl, Nat.le_of_ble_eq_true rfl⟩ rfl rfl (Nat.le_of_ble_eq_true rfl) dX12_told_6 (fun H locs Z => ?_)
  clear hc0
  refine lv_if_eq (tgt := 20) hx hb dX12_told_9 (by decide) (fun c3 => ?_) (fun c3 => ?_)
  · have h2 := dit h1 c3
    clear h1
    refine lv_aload_n hx hb dX12_told_20 rfl (lv_at hl 0 rfl) ?_
    refine lv_ldc hx hb B.2.2.2.1 (B.2.2.2.2.1 _ kc_RX12_63) dX12_told_21 ?_
    obtain ⟨r5, σ6, hc3, h3⟩ := db2_s h2
    clear h2
    refine cV_I [.int (-1000002 : Int32)] [] B mx_yX12_refuses (c_fMM_refuses l X _ (-1000002 : Int32) σ r5 σ6 hc3) kl_RX12_168 mi_yX12_refuses (rv_33 _ _) hcl_12 Z hl rfl rfl ⟨Nat.le_of_ble_eq_true rfl, Nat.le_of_ble_eq_true rfl⟩ rfl rfl (Nat.le_of_ble_eq_true rfl) dX12_told_23 (fun H locs Z => ?_)
    clear hc3
    exact reI B Z rfl hz h3 dX12_told_26
  · have h4 := dif h1 c3
    clear h1
    refine lv_aload_n hx hb dX12_told_12 rfl (lv_at hl 0 rfl) ?_
    refine lv_iload_n hx hb dX12_told_13 rfl (lv_at hl 1 rfl) ?_
    obtain ⟨r8, hc6, h5⟩ := db1_s h4
    clear h4
    refine cV_I [.int a1] [] B mx_yX12_toldOf (c_fMM_toldOf l X _ a1 σ r8 hc6) kl_RX12_400 mi_yX12_toldOf (rv_33 _ _) hcl_12 Z hl rfl rfl ⟨Nat.le_of_ble_eq_true rfl, Nat.le_of_ble_eq_true rfl⟩ rfl rfl (Nat.le_of_ble_eq_true rfl) dX12_told_14 (fun H locs Z => ?_)
    clear hc6
    refine lv_goto (tgt := 26) hx hb dX12_told_17 (by decide) ?_
    exact reI B Z rfl hz h5 dX12_told_26
theorem dX12_digest_0 : decode cX12_digest 0 = .ok (.ldc2_w 403, 3) := by decide +kernel
theorem dX12_digest_3 : decode cX12_digest 3 = .ok (.lstore_n 1, 1) := by decide +kernel
theorem dX12_digest_4 : decode cX12_digest 4 = .ok (.iconst 0, 1) := by decide +kernel
theorem dX12_digest_5 : decode cX12_digest 5 = .ok (.istore_n 3, 1) := by decide +kernel
theorem dX12_digest_6 : decode cX12_digest 6 = .ok (.iload_n 3, 1) := by decide +kernel
theorem dX12_digest_7 : decode cX12_digest 7 = .ok (.bipush 6, 2) := by decide +kernel
theorem dX12_digest_9 : decode cX12_digest 9 = .ok (.if_icmp .ge 22, 3) := by decide +kernel
theorem dX12_digest_12 : decode cX12_digest 12 = .ok (.ldc2_w 405, 3) := by decide +kernel
theorem dX12_digest_15 : decode cX12_digest 15 = .ok (.lload_n 1, 1) := by decide +kernel
theorem dX12_digest_16 : decode cX12_digest 16 = .ok (.lmul, 1) := by decide +kernel
theorem dX12_digest_17 : decode cX12_digest 17 = .ok (.aload_n 0, 1) := by decide +kernel
theorem dX12_digest_18 : decode cX12_digest 18 = .ok (.iload_n 3, 1) := by decide +kernel
theorem dX12_digest_19 : decode cX12_digest 19 = .ok (.invokevirtual 400, 3) := by decide +kernel
theorem dX12_digest_22 : decode cX12_digest 22 = .ok (.i2l, 1) := by decide +kernel
theorem dX12_digest_23 : decode cX12_digest 23 = .ok (.ladd, 1) := by decide +kernel
theorem dX12_digest_24 : decode cX12_digest 24 = .ok (.lstore_n 1, 1) := by decide +kernel
theorem dX12_digest_25 : decode cX12_digest 25 = .ok (.iinc 3 1, 3) := by decide +kernel
theorem dX12_digest_28 : decode cX12_digest 28 = .ok (.goto (-22), 3) := by decide +kernel
theorem dX12_digest_31 : decode cX12_digest 31 = .ok (.iconst 0, 1) := by decide +kernel
theorem dX12_digest_32 : decode cX12_digest 32 = .ok (.istore_n 3, 1) := by decide +kernel
theorem dX12_digest_33 : decode cX12_digest 33 = .ok (.iload_n 3, 1) := by decide +kernel
theorem dX12_digest_34 : decode cX12_digest 34 = .ok (.bipush 6, 2) := by decide +kernel
theorem dX12_digest_36 : decode cX12_digest 36 = .ok (.aload_n 0, 1) := by decide +kernel
theorem dX12_digest_37 : decode cX12_digest 37 = .ok (.getfield 7, 3) := by decide +kernel
theorem dX12_digest_40 : decode cX12_digest 40 = .ok (.iconst 0, 1) := by decide +kernel
theorem dX12_digest_41 : decode cX12_digest 41 = .ok (.iaload, 1) := by decide +kernel
theorem dX12_digest_42 : decode cX12_digest 42 = .ok (.imul, 1) := by decide +kernel
theorem dX12_digest_43 : decode cX12_digest 43 = .ok (.if_icmp .ge 29, 3) := by decide +kernel
theorem dX12_digest_46 : decode cX12_digest 46 = .ok (.ldc2_w 405, 3) := by decide +kernel
theorem dX12_digest_49 : decode cX12_digest 49 = .ok (.lload_n 1, 1) := by decide +kernel
theorem dX12_digest_50 : decode cX12_digest 50 = .ok (.lmul, 1) := by decide +kernel
theorem dX12_digest_51 : decode cX12_digest 51 = .ok (.aload_n 0, 1) := by decide +kernel
theorem dX12_digest_52 : decode cX12_digest 52 = .ok (.iload_n 3, 1) := by decide +kernel
theorem dX12_digest_53 : decode cX12_digest 53 = .ok (.bipush 6, 2) := by decide +kernel
theorem dX12_digest_55 : decode cX12_digest 55 = .ok (.idiv, 1) := by decide +kernel
theorem dX12_digest_56 : decode cX12_digest 56 = .ok (.iload_n 3, 1) := by decide +kernel
theorem dX12_digest_57 : decode cX12_digest 57 = .ok (.bipush 6, 2) := by decide +kernel
theorem dX12_digest_59 : decode cX12_digest 59 = .ok (.irem, 1) := by decide +kernel
theorem dX12_digest_60 : decode cX12_digest 60 = .ok (.invokevirtual 87, 3) := by decide +kernel
theorem dX12_digest_63 : decode cX12_digest 63 = .ok (.i2l, 1) := by decide +kernel
theorem dX12_digest_64 : decode cX12_digest 64 = .ok (.ladd, 1) := by decide +kernel
theorem dX12_digest_65 : decode cX12_digest 65 = .ok (.lstore_n 1, 1) := by decide +kernel
theorem dX12_digest_66 : decode cX12_digest 66 = .ok (.iinc 3 1, 3) := by decide +kernel
theorem dX12_digest_69 : decode cX12_digest 69 = .ok (.goto (-36), 3) := by decide +kernel
theorem dX12_digest_72 : decode cX12_digest 72 = .ok (.aload_n 0, 1) := by decide +kernel
theorem dX12_digest_73 : decode cX12_digest 73 = .ok (.aload_n 0, 1) := by decide +kernel
theorem dX12_digest_74 : decode cX12_digest 74 = .ok (.invokevirtual 72, 3) := by decide +kernel
theorem dX12_digest_77 : decode cX12_digest 77 = .ok (.invokevirtual 186, 3) := by decide +kernel
theorem dX12_digest_80 : decode cX12_digest 80 = .ok (.istore_n 3, 1) := by decide +kernel
theorem dX12_digest_81 : decode cX12_digest 81 = .ok (.ldc2_w 405, 3) := by decide +kernel
theorem dX12_digest_84 : decode cX12_digest 84 = .ok (.lload_n 1, 1) := by decide +kernel
theorem dX12_digest_85 : decode cX12_digest 85 = .ok (.lmul, 1) := by decide +kernel
theorem dX12_digest_86 : decode cX12_digest 86 = .ok (.iload_n 3, 1) := by decide +kernel
theorem dX12_digest_87 : decode cX12_digest 87 = .ok (.ifCond .eq 7, 3) := by decide +kernel
theorem dX12_digest_90 : decode cX12_digest 90 = .ok (.iconst 1, 1) := by decide +kernel
theorem dX12_digest_91 : decode cX12_digest 91 = .ok (.goto 4, 3) := by decide +kernel
theorem dX12_digest_94 : decode cX12_digest 94 = .ok (.iconst 0, 1) := by decide +kernel
theorem dX12_digest_95 : decode cX12_digest 95 = .ok (.i2l, 1) := by decide +kernel
theorem dX12_digest_96 : decode cX12_digest 96 = .ok (.ladd, 1) := by decide +kernel
theorem dX12_digest_97 : decode cX12_digest 97 = .ok (.lstore_n 1, 1) := by decide +kernel
theorem dX12_digest_98 : decode cX12_digest 98 = .ok (.iload_n 3, 1) := by decide +kernel
theorem dX12_digest_99 : decode cX12_digest 99 = .ok (.ifCond .eq 59, 3) := by decide +kernel
theorem dX12_digest_102 : decode cX12_digest 102 = .ok (.ldc2_w 405, 3) := by decide +kernel
theorem dX12_digest_105 : decode cX12_digest 105 = .ok (.lload_n 1, 1) := by decide +kernel
theorem dX12_digest_106 : decode cX12_digest 106 = .ok (.lmul, 1) := by decide +kernel
theorem dX12_digest_107 : decode cX12_digest 107 = .ok (.aload_n 0, 1) := by decide +kernel
theorem dX12_digest_108 : decode cX12_digest 108 = .ok (.aload_n 0, 1) := by decide +kernel
theorem dX12_digest_109 : decode cX12_digest 109 = .ok (.invokevirtual 72, 3) := by decide +kernel
theorem dX12_digest_112 : decode cX12_digest 112 = .ok (.invokevirtual 198, 3) := by decide +kernel
theorem dX12_digest_115 : decode cX12_digest 115 = .ok (.i2l, 1) := by decide +kernel
theorem dX12_digest_116 : decode cX12_digest 116 = .ok (.ladd, 1) := by decide +kernel
theorem dX12_digest_117 : decode cX12_digest 117 = .ok (.lstore_n 1, 1) := by decide +kernel
theorem dX12_digest_118 : decode cX12_digest 118 = .ok (.aload_n 0, 1) := by decide +kernel
theorem dX12_digest_119 : decode cX12_digest 119 = .ok (.aload_n 0, 1) := by decide +kernel
theorem dX12_digest_120 : decode cX12_digest 120 = .ok (.invokevirtual 72, 3) := by decide +kernel
theorem dX12_digest_123 : decode cX12_digest 123 = .ok (.invokevirtual 242, 3) := by decide +kernel
theorem dX12_digest_126 : decode cX12_digest 126 = .ok (.iconst 0, 1) := by decide +kernel
theorem dX12_digest_127 : decode cX12_digest 127 = .ok (.istore 4, 2) := by decide +kernel
theorem dX12_digest_129 : decode cX12_digest 129 = .ok (.iload 4, 2) := by decide +kernel
theorem dX12_digest_131 : decode cX12_digest 131 = .ok (.bipush 6, 2) := by decide +kernel
theorem dX12_digest_133 : decode cX12_digest 133 = .ok (.if_icmp .ge 23, 3) := by decide +kernel
theorem dX12_digest_136 : decode cX12_digest 136 = .ok (.ldc2_w 405, 3) := by decide +kernel
theorem dX12_digest_139 : decode cX12_digest 139 = .ok (.lload_n 1, 1) := by decide +kernel
theorem dX12_digest_140 : decode cX12_digest 140 = .ok (.lmul, 1) := by decide +kernel
theorem dX12_digest_141 : decode cX12_digest 141 = .ok (.aload_n 0, 1) := by decide +kernel
theorem dX12_digest_142 : decode cX12_digest 142 = .ok (.getfield 29, 3) := by decide +kernel
theorem dX12_digest_145 : decode cX12_digest 145 = .ok (.iload 4, 2) := by decide +kernel
theorem dX12_digest_147 : decode cX12_digest 147 = .ok (.laload, 1) := by decide +kernel
theorem dX12_digest_148 : decode cX12_digest 148 = .ok (.ladd, 1) := by decide +kernel
theorem dX12_digest_149 : decode cX12_digest 149 = .ok (.lstore_n 1, 1) := by decide +kernel
theorem dX12_digest_150 : decode cX12_digest 150 = .ok (.iinc 4 1, 3) := by decide +kernel
theorem dX12_digest_153 : decode cX12_digest 153 = .ok (.goto (-24), 3) := by decide +kernel
theorem dX12_digest_156 : decode cX12_digest 156 = .ok (.lload_n 1, 1) := by decide +kernel
theorem dX12_digest_157 : decode cX12_digest 157 = .ok (.lreturn, 1) := by decide +kernel
theorem dX12_digest_158 : decode cX12_digest 158 = .ok (.aload_n 0, 1) := by decide +kernel
theorem dX12_digest_159 : decode cX12_digest 159 = .ok (.aload_n 0, 1) := by decide +kernel
theorem dX12_digest_160 : decode cX12_digest 160 = .ok (.invokevirtual 72, 3) := by decide +kernel
theorem dX12_digest_163 : decode cX12_digest 163 = .ok (.invokevirtual 245, 3) := by decide +kernel
theorem dX12_digest_166 : decode cX12_digest 166 = .ok (.istore 4, 2) := by decide +kernel
theorem dX12_digest_168 : decode cX12_digest 168 = .ok (.ldc2_w 405, 3) := by decide +kernel
theorem dX12_digest_171 : decode cX12_digest 171 = .ok (.lload_n 1, 1) := by decide +kernel
theorem dX12_digest_172 : decode cX12_digest 172 = .ok (.lmul, 1) := by decide +kernel
theorem dX12_digest_173 : decode cX12_digest 173 = .ok (.iload 4, 2) := by decide +kernel
theorem dX12_digest_175 : decode cX12_digest 175 = .ok (.i2l, 1) := by decide +kernel
theorem dX12_digest_176 : decode cX12_digest 176 = .ok (.ladd, 1) := by decide +kernel
theorem dX12_digest_177 : decode cX12_digest 177 = .ok (.lstore_n 1, 1) := by decide +kernel
theorem dX12_digest_178 : decode cX12_digest 178 = .ok (.iconst 0, 1) := by decide +kernel
theorem dX12_digest_179 : decode cX12_digest 179 = .ok (.istore 5, 2) := by decide +kernel
theorem dX12_digest_181 : decode cX12_digest 181 = .ok (.iload 5, 2) := by decide +kernel
theorem dX12_digest_183 : decode cX12_digest 183 = .ok (.aload_n 0, 1) := by decide +kernel
theorem dX12_digest_184 : decode cX12_digest 184 = .ok (.getfield 7, 3) := by decide +kernel
theorem dX12_digest_187 : decode cX12_digest 187 = .ok (.iconst 0, 1) := by decide +kernel
theorem dX12_digest_188 : decode cX12_digest 188 = .ok (.iaload, 1) := by decide +kernel
theorem dX12_digest_189 : decode cX12_digest 189 = .ok (.if_icmp .ge 25, 3) := by decide +kernel
theorem dX12_digest_192 : decode cX12_digest 192 = .ok (.ldc2_w 405, 3) := by decide +kernel
theorem dX12_digest_195 : decode cX12_digest 195 = .ok (.lload_n 1, 1) := by decide +kernel
theorem dX12_digest_196 : decode cX12_digest 196 = .ok (.lmul, 1) := by decide +kernel
theorem dX12_digest_197 : decode cX12_digest 197 = .ok (.aload_n 0, 1) := by decide +kernel
theorem dX12_digest_198 : decode cX12_digest 198 = .ok (.iload 4, 2) := by decide +kernel
theorem dX12_digest_200 : decode cX12_digest 200 = .ok (.iload 5, 2) := by decide +kernel
theorem dX12_digest_202 : decode cX12_digest 202 = .ok (.invokevirtual 267, 3) := by decide +kernel
theorem dX12_digest_205 : decode cX12_digest 205 = .ok (.i2l, 1) := by decide +kernel
theorem dX12_digest_206 : decode cX12_digest 206 = .ok (.ladd, 1) := by decide +kernel
theorem dX12_digest_207 : decode cX12_digest 207 = .ok (.lstore_n 1, 1) := by decide +kernel
theorem dX12_digest_208 : decode cX12_digest 208 = .ok (.iinc 5 1, 3) := by decide +kernel
theorem dX12_digest_211 : decode cX12_digest 211 = .ok (.goto (-30), 3) := by decide +kernel
theorem dX12_digest_214 : decode cX12_digest 214 = .ok (.lload_n 1, 1) := by decide +kernel
theorem dX12_digest_215 : decode cX12_digest 215 = .ok (.lreturn, 1) := by decide +kernel
def rm_fMM_digest : Room := { frames := 7, cells := 0, slots := 0, locals := 212 }
set_option maxHeartbeats 4000000 in
set_option maxRecDepth 100000 in
theorem c_fMM_digest (l : Launch) (X : eX) (sz : Nat)  (σ : sT) (rz : Int64) (σz : sT) (h0 : fMM_digest σ = some (rz, σz)) : ctL l yX12_digest cX12_digest 6 (some .long) rm_fMM_digest [.ref (X.2.1 33)] (wM X) (tM X) (aM X) X sz σ rz σz := by
  refine ct_of (by decide +kernel) (Nat.le_of_ble_eq_true rfl) ?_
  intro p e s m args below meth c ls hz B hl Z
  have B : Bd p s m args meth c RX12 cX12_digest 6 (some .long) := B
  have hl : lv_has ls 6 [(0, .ref (X.2.1 33))] := hl
  have hx := B.1
  have hb := B.2.1
  unfold fMM_digest at h0
  refine lv_ldc2 hx hb B.2.2.2.1 (B.2.2.2.2.1 _ kc_RX12_403) dX12_digest_0 ?_
  refine lv_lstore_n (lv' := [(1, .long (2341 : Int64)), (0, .ref (X.2.1 33))]) hx hb dX12_digest_3 rfl hl (by decide) rfl (fun ls hl => ?_)
  refine lv_iconst (v := (0 : Int32)) hx hb dX12_digest_4 (by decide) ?_
  refine lv_istore_n (lv' := [(3, .int (0 : Int32)), (1, .long (2341 : Int64)), (0, .ref (X.2.1 33))]) hx hb dX12_digest_5 rfl hl (by decide) rfl (fun ls hl => ?_)
  obtain ⟨K4, eK4, h38⟩ := dlt_s h0
  clear h0
  have kK4 : ∀ (x3 : Int64) (H : Heap) (locs : List Loc) (ls : Array Slot), Wd (wM X) (tM X) (aM X) X s σ H locs → lv_has ls 6 [(0, .ref (X.2.1 33)), (1, .long x3)] → K4 x3 = some (rz, σz) → W p l e rm_fMM_digest s m args below meth c H locs 0 0 (MQ below (va_Ql (fun a u => a = rz ∧ u = σz) (poW (wM X) (tM X) (aM X) X sz) (aA (aM X) sz)) args s 0 0 (aA (aM X) sz)) (F0 m 31 ls []) := by
    intro x3 H locs ls Z hl h1
    rw [eK4] at h1
    refine lv_iconst (v := (0 : Int32)) hx hb dX12_digest_31 (by decide) ?_
    refine lv_istore_n (lv' := [(3, .int (0 : Int32)), (0, .ref (X.2.1 33)), (1, .long x3)]) hx hb dX12_digest_32 rfl hl (by decide) rfl (fun ls hl => ?_)
    obtain ⟨K8, eK8, h31⟩ := dlt_s h1
    clear h1
    have kK8 : ∀ (x7 : Int64) (H : Heap) (locs : List Loc) (ls : Array Slot), Wd (wM X) (tM X) (aM X) X s σ H locs → lv_has ls 6 [(0, .ref (X.2.1 33)), (1, .long x7)] → K8 x7 = some (rz, σz) → W p l e rm_fMM_digest s m args below meth c H locs 0 0 (MQ below (va_Ql (fun a u => a = rz ∧ u = σz) (poW (wM X) (tM X) (aM X) X sz) (aA (aM X) sz)) args s 0 0 (aA (aM X) sz)) (F0 m 72 ls []) := by
      intro x7 H locs ls Z hl h2
      rw [eK8] at h2
      refine lv_aload_n hx hb dX12_digest_72 rfl (lv_at hl 0 rfl) ?_
      refine lv_aload_n hx hb dX12_digest_73 rfl (lv_at hl 0 rfl) ?_
      obtain ⟨r10, hc8, h3⟩ := db1_s h2
      clear h2
      refine cV_I [] [.ref (X.2.1 33)] B mx_yX12_every (c_fMM_every l X _ σ r10 hc8) kl_RX12_72 mi_yX12_every (rv_33 _ _) hcl_12 Z hl rfl rfl ⟨Nat.le_of_ble_eq_true rfl, Nat.le_of_ble_eq_true rfl⟩ rfl rfl (Nat.le_of_ble_eq_true rfl) dX12_digest_74 (fun H locs Z => ?_)
      clear hc8
      obtain ⟨r12, σ13, hc10, h4⟩ := db2_s h3
      clear h3
      refine cV_I [.int r10] [] B mx_yX12_canSet (c_fMM_canSet l X _ r10 σ r12 σ13 hc10) kl_RX12_186 mi_yX12_canSet (rv_33 _ _) hcl_12 Z hl rfl rfl ⟨Nat.le_of_ble_eq_true rfl, Nat.le_of_ble_eq_true rfl⟩ rfl rfl (Nat.le_of_ble_eq_true rfl) dX12_digest_77 (fun H locs Z => ?_)
      clear hc10
      refine lv_istore_n (lv' := [(3, .int r12), (0, .ref (X.2.1 33)), (1, .long x7)]) hx hb dX12_digest_80 rfl hl (by decide) rfl (fun ls hl => ?_)
      refine lv_ldc2 hx hb B.2.2.2.1 (B.2.2.2.2.1 _ kc_RX12_405) dX12_digest_81 ?_
      refine lv_lload_n hx hb dX12_digest_84 rfl (lv_at hl 2 rfl) ?_
      refine lv_lmul hx hb dX12_digest_85 ?_
      refine lv_iload_n hx hb dX12_digest_86 rfl (lv_at hl 0 rfl) ?_
      obtain ⟨J16, eJ16, h28⟩ := dlt_s h4
      clear h4
      have kJ16 : ∀ (x14 : Int64) (x15 : Int32) (H : Heap) (locs : List Loc) (ls : Array Slot), Wd (wM X) (tM X) (aM X) X s σ13 H locs → lv_has ls 6 [(0, .ref (X.2.1 33)), (3, .int r12)] → J16 x14 x15 = some (rz, σz) → W p l e rm_fMM_digest s m args below meth c H locs 0 0 (MQ below (va_Ql (fun a u => a = rz ∧ u = σz) (poW (wM X) (tM X) (aM X) X sz) (aA (aM X) sz)) args s 0 0 (aA (aM X) sz)) (F0 m 95 ls [.int x15, .long x14]) := by
        intro x14 x15 H locs ls Z hl h5
        rw [eJ16] at h5
        refine lv_i2l hx hb dX12_digest_95 rfl ?_
        refine lv_ladd hx hb dX12_digest_96 ?_
        refine lv_topl (fun x17 ex17 => ?_)
        have h6 := dlt_e ex17 h5
        clear ex17 h5
        refine lv_lstore_n (lv' := [(1, .long x17), (0, .ref (X.2.1 33)), (3, .int r12)]) hx hb dX12_digest_97 rfl hl (by decide) rfl (fun ls hl => ?_)
        refine lv_iload_n hx hb dX12_digest_98 rfl (lv_at hl 2 rfl) ?_
        refine lv_if_eq (tgt := 158) hx hb dX12_digest_99 (by decide) (fun c18 => ?_) (fun c18 => ?_)
        · have h7 := dit h6 c18
          clear h6
          refine lv_aload_n hx hb dX12_digest_158 rfl (lv_at hl 1 rfl) ?_
          refine lv_aload_n hx hb dX12_digest_159 rfl (lv_at hl 1 rfl) ?_
          obtain ⟨r20, hc18, h8⟩ := db1_s h7
          clear h7
          refine cV_I [] [.ref (X.2.1 33)] B mx_yX12_every (c_fMM_every l X _ σ13 r20 hc18) kl_RX12_72 mi_yX12_every (rv_33 _ _) hcl_12 Z hl rfl rfl ⟨Nat.le_of_ble_eq_true rfl, Nat.le_of_ble_eq_true rfl⟩ rfl rfl (Nat.le_of_ble_eq_true rfl) dX12_digest_160 (fun H locs Z => ?_)
          clear hc18
          obtain ⟨r22, σ23, hc20, h9⟩ := db2_s h8
          clear h8
          refine cV_I [.int r20] [] B mx_yX12_coreOf (c_fMM_coreOf l X _ r20 σ13 r22 σ23 hc20) kl_RX12_245 mi_yX12_coreOf (rv_33 _ _) hcl_12 Z hl rfl rfl ⟨Nat.le_of_ble_eq_true rfl, Nat.le_of_ble_eq_true rfl⟩ rfl rfl (Nat.le_of_ble_eq_true rfl) dX12_digest_163 (fun H locs Z => ?_)
          clear hc20
          refine lv_istore (lv' := [(4, .int r22), (1, .long x17), (0, .ref (X.2.1 33)), (3, .int r12)]) hx hb dX12_digest_166 hl (by decide) rfl (fun ls hl => ?_)
          refine lv_ldc2 hx hb B.2.2.2.1 (B.2.2.2.2.1 _ kc_RX12_405) dX12_digest_168 ?_
          refine lv_lload_n hx hb dX12_digest_171 rfl (lv_at hl 1 rfl) ?_
          refine lv_lmul hx hb dX12_digest_172 ?_
          refine lv_iload hx hb dX12_digest_173 (lv_at hl 0 rfl) ?_
          refine lv_i2l hx hb dX12_digest_175 rfl ?_
          refine lv_ladd hx hb dX12_digest_176 ?_
          refine lv_topl (fun x24 ex24 => ?_)
          have h10 := dlt_e ex24 h9
          clear ex24 h9
          refine lv_lstore_n (lv' := [(1, .long x24), (4, .int r22), (0, .ref (X.2.1 33)), (3, .int r12)]) hx hb dX12_digest_177 rfl hl (by decide) rfl (fun ls hl => ?_)
          refine lv_iconst (v := (0 : Int32)) hx hb dX12_digest_178 (by decide) ?_
          refine lv_istore (lv' := [(5, .int (0 : Int32)), (1, .long x24), (4, .int r22), (0, .ref (X.2.1 33)), (3, .int r12)]) hx hb dX12_digest_179 hl (by decide) rfl (fun ls hl => ?_)
          have lL181 : ∀ (n : Nat), ∀ (x25 : Int64) (x26 : Int32) (σ27 : sT) (H : Heap) (locs : List Loc) (ls : Array Slot), Wd (wM X) (tM X) (aM X) X s σ27 H locs → lv_has ls 6 [(0, .ref (X.2.1 33)), (1, .long x25), (4, .int r22), (5, .int x26)] → fMM_digest_L181 r22 n x25 x26 σ27 = some (rz, σz) → W p l e rm_fMM_digest s m args below meth c H locs 0 0 (MQ below (va_Ql (fun a u => a = rz ∧ u = σz) (poW (wM X) (tM X) (aM X) X sz) (aA (aM X) sz)) args s 0 0 (aA (aM X) sz)) (F0 m 181 ls []) := by
            intro n
            induction n with
            | zero =>
              intro x25 x26 σ27 H locs ls Z hl h
              exact nomatch (show (none : Option (Int64 × sT)) = some _ from h)
            | succ n28 ih108 =>
              intro x25 x26 σ27 H locs ls Z hl h11
              unfold fMM_digest_L181 at h11
              refine lv_iload hx hb dX12_digest_181 (lv_at hl 3 rfl) ?_
              refine lv_aload_n hx hb dX12_digest_183 rfl (lv_at hl 0 rfl) ?_
              refine g_33_0 B Z kf_RX12_7 dX12_digest_184 ?_
              refine lv_iconst (v := (0 : Int32)) hx hb dX12_digest_187 (by decide) ?_
              obtain ⟨z29, h12⟩ := dck_s h11
              clear h11
              refine ld_34 B Z z29 dX12_digest_188 ?_
              refine lv_icmp_ge (tgt := 214) hx hb dX12_digest_189 (by decide) (fun c30 => ?_) (fun c30 => ?_)
              · have h13 := dit h12 c30
                clear h12
                refine lv_lload_n hx hb dX12_digest_214 rfl (lv_at hl 1 rfl) ?_
                exact reL B Z hz h13 dX12_digest_215
              · have h14 := dif h12 c30
                clear h12
                refine lv_ldc2 hx hb B.2.2.2.1 (B.2.2.2.2.1 _ kc_RX12_405) dX12_digest_192 ?_
                refine lv_lload_n hx hb dX12_digest_195 rfl (lv_at hl 1 rfl) ?_
                refine lv_lmul hx hb dX12_digest_196 ?_
                refine lv_aload_n hx hb dX12_digest_197 rfl (lv_at hl 0 rfl) ?_
                refine lv_iload hx hb dX12_digest_198 (lv_at hl 2 rfl) ?_
                refine lv_iload hx hb dX12_digest_200 (lv_at hl 3 rfl) ?_
                obtain ⟨r32, σ33, hc30, h15⟩ := db2_s h14
                clear h14
                refine cV_I [.int r22, .int x26] [.long ((31 : Int64) * x25)] B mx_yX12_timesOf (c_fMM_timesOf l X _ r22 x26 σ27 r32 σ33 hc30) kl_RX12_267 mi_yX12_timesOf (rv_33 _ _) hcl_12 Z hl rfl rfl ⟨Nat.le_of_ble_eq_true rfl, Nat.le_of_ble_eq_true rfl⟩ rfl rfl (Nat.le_of_ble_eq_true rfl) dX12_digest_202 (fun H locs Z => ?_)
                clear hc30
                refine lv_i2l hx hb dX12_digest_205 rfl ?_
                refine lv_ladd hx hb dX12_digest_206 ?_
                refine lv_topl (fun x34 ex34 => ?_)
                have h16 := dlt_e ex34 h15
                clear ex34 h15
                refine lv_lstore_n (lv' := [(1, .long x34), (0, .ref (X.2.1 33)), (4, .int r22), (5, .int x26)]) hx hb dX12_digest_207 rfl hl (by decide) rfl (fun ls hl => ?_)
                refine lv_iinc (v := x26 + (1 : Int32)) (lv' := [(5, .int (x26 + (1 : Int32))), (1, .long x34), (0, .ref (X.2.1 33)), (4, .int r22)]) hx hb dX12_digest_208 hl (k := 3) rfl (by rfl) (by decide) rfl (fun ls hl => ?_)
                refine lv_goto (tgt := 181) hx hb dX12_digest_211 (by decide) ?_
                exact ih108 x34 (x26 + (1 : Int32)) σ33 _ _ _ Z (lv_sub hl [2, 1, 3, 0] rfl) h16
          exact lL181 FU x24 (0 : Int32) σ23 _ _ _ Z (lv_sub hl [3, 1, 2, 0] rfl) h10
        · have h17 := dif h6 c18
          clear h6
          refine lv_ldc2 hx hb B.2.2.2.1 (B.2.2.2.2.1 _ kc_RX12_405) dX12_digest_102 ?_
          refine lv_lload_n hx hb dX12_digest_105 rfl (lv_at hl 0 rfl) ?_
          refine lv_lmul hx hb dX12_digest_106 ?_
          refine lv_aload_n hx hb dX12_digest_107 rfl (lv_at hl 1 rfl) ?_
          refine lv_aload_n hx hb dX12_digest_108 rfl (lv_at hl 1 rfl) ?_
          obtain ⟨r36, hc34, h18⟩ := db1_s h17
          clear h17
          refine cV_I [] [.ref (X.2.1 33), .long ((31 : Int64) * x17)] B mx_yX12_every (c_fMM_every l X _ σ13 r36 hc34) kl_RX12_72 mi_yX12_every (rv_33 _ _) hcl_12 Z hl rfl rfl ⟨Nat.le_of_ble_eq_true rfl, Nat.le_of_ble_eq_true rfl⟩ rfl rfl (Nat.le_of_ble_eq_true rfl) dX12_digest_109 (fun H locs Z => ?_)
          clear hc34
          obtain ⟨r38, σ39, hc36, h19⟩ := db2_s h18
          clear h18
          refine cV_I [.int r36] [.long ((31 : Int64) * x17)] B mx_yX12_dimensionOf (c_fMM_dimensionOf l X _ r36 σ13 r38 σ39 hc36) kl_RX12_198 mi_yX12_dimensionOf (rv_33 _ _) hcl_12 Z hl rfl rfl ⟨Nat.le_of_ble_eq_true rfl, Nat.le_of_ble_eq_true rfl⟩ rfl rfl (Nat.le_of_ble_eq_true rfl) dX12_digest_112 (fun H locs Z => ?_)
          clear hc36
          refine lv_i2l hx hb dX12_digest_115 rfl ?_
          refine lv_ladd hx hb dX12_digest_116 ?_
          refine lv_topl (fun x40 ex40 => ?_)
          have h20 := dlt_e ex40 h19
          clear ex40 h19
          refine lv_lstore_n (lv' := [(1, .long x40), (0, .ref (X.2.1 33)), (3, .int r12)]) hx hb dX12_digest_117 rfl hl (by decide) rfl (fun ls hl => ?_)
          refine lv_aload_n hx hb dX12_digest_118 rfl (lv_at hl 1 rfl) ?_
          refine lv_aload_n hx hb dX12_digest_119 rfl (lv_at hl 1 rfl) ?_
          obtain ⟨r42, hc40, h21⟩ := db1_s h20
          clear h20
          refine cV_I [] [.ref (X.2.1 33)] B mx_yX12_every (c_fMM_every l X _ σ39 r42 hc40) kl_RX12_72 mi_yX12_every (rv_33 _ _) hcl_12 Z hl rfl rfl ⟨Nat.le_of_ble_eq_true rfl, Nat.le_of_ble_eq_true rfl⟩ rfl rfl (Nat.le_of_ble_eq_true rfl) dX12_digest_120 (fun H locs Z => ?_)
          clear hc40
          obtain ⟨σ44, hc42, h22⟩ := db1_s h21
          clear h21
          refine cV_V [.int r42] [] B mx_yX12_findsPoint (c_fMM_findsPoint l X _ r42 σ39 σ44 hc42) kl_RX12_242 mi_yX12_findsPoint (rv_33 _ _) hcl_12 Z hl rfl rfl ⟨Nat.le_of_ble_eq_true rfl, Nat.le_of_ble_eq_true rfl⟩ rfl rfl (Nat.le_of_ble_eq_true rfl) dX12_digest_123 (fun H locs Z => ?_)
          clear hc42
          refine lv_iconst (v := (0 : Int32)) hx hb dX12_digest_126 (by decide) ?_
          refine lv_istore (lv' := [(4, .int (0 : Int32)), (1, .long x40), (0, .ref (X.2.1 33)), (3, .int r12)]) hx hb dX12_digest_127 hl (by decide) rfl (fun ls hl => ?_)
          have lL129 : ∀ (n : Nat), ∀ (x45 : Int64) (x46 : Int32) (H : Heap) (locs : List Loc) (ls : Array Slot), Wd (wM X) (tM X) (aM X) X s σ44 H locs → lv_has ls 6 [(0, .ref (X.2.1 33)), (1, .long x45), (4, .int x46)] → fMM_digest_L129 σ44 n x45 x46 = some (rz, σz) → W p l e rm_fMM_digest s m args below meth c H locs 0 0 (MQ below (va_Ql (fun a u => a = rz ∧ u = σz) (poW (wM X) (tM X) (aM X) X sz) (aA (aM X) sz)) args s 0 0 (aA (aM X) sz)) (F0 m 129 ls []) := by
            intro n
            induction n with
            | zero =>
              intro x45 x46 H locs ls Z hl h
              exact nomatch (show (none : Option (Int64 × sT)) = some _ from h)
            | succ n47 ih78 =>
              intro x45 x46 H locs ls Z hl h23
              unfold fMM_digest_L129 at h23
              refine lv_iload hx hb dX12_digest_129 (lv_at hl 2 rfl) ?_
              refine lv_bipush (v := (6 : Int32)) hx hb dX12_digest_131 (by decide) ?_
              refine lv_icmp_ge (tgt := 156) hx hb dX12_digest_133 (by decide) (fun c48 => ?_) (fun c48 => ?_)
              · have h24 := dit h23 c48
                clear h23
                refine lv_lload_n hx hb dX12_digest_156 rfl (lv_at hl 1 rfl) ?_
                exact reL B Z hz h24 dX12_digest_157
              · have h25 := dif h23 c48
                clear h23
                refine lv_ldc2 hx hb B.2.2.2.1 (B.2.2.2.2.1 _ kc_RX12_405) dX12_digest_136 ?_
                refine lv_lload_n hx hb dX12_digest_139 rfl (lv_at hl 1 rfl) ?_
                refine lv_lmul hx hb dX12_digest_140 ?_
                refine lv_aload_n hx hb dX12_digest_141 rfl (lv_at hl 0 rfl) ?_
                refine g_33_18 B Z kf_RX12_29 dX12_digest_142 ?_
                refine lv_iload hx hb dX12_digest_145 (lv_at hl 2 rfl) ?_
                obtain ⟨z49, h26⟩ := dck_s h25
                clear h25
                refine ld_40 B Z z49 dX12_digest_147 ?_
                refine lv_ladd hx hb dX12_digest_148 ?_
                refine lv_topl (fun x50 ex50 => ?_)
                have h27 := dlt_e ex50 h26
                clear ex50 h26
                refine lv_lstore_n (lv' := [(1, .long x50), (0, .ref (X.2.1 33)), (4, .int x46)]) hx hb dX12_digest_149 rfl hl (by decide) rfl (fun ls hl => ?_)
                refine lv_iinc (v := x46 + (1 : Int32)) (lv' := [(4, .int (x46 + (1 : Int32))), (1, .long x50), (0, .ref (X.2.1 33))]) hx hb dX12_digest_150 hl (k := 2) rfl (by rfl) (by decide) rfl (fun ls hl => ?_)
                refine lv_goto (tgt := 129) hx hb dX12_digest_153 (by decide) ?_
                exact ih78 x50 (x46 + (1 : Int32)) _ _ _ Z (lv_sub hl [2, 1, 0] rfl) h27
          exact lL129 FU x40 (0 : Int32) _ _ _ Z (lv_sub hl [2, 1, 0] rfl) h22
      clear eJ16
      refine lv_if_eq (tgt := 94) hx hb dX12_digest_87 (by decide) (fun c51 => ?_) (fun c51 => ?_)
      · have h29 := dit h28 c51
        clear h28
        refine lv_iconst (v := (0 : Int32)) hx hb dX12_digest_94 (by decide) ?_
        exact kJ16 ((31 : Int64) * x7) (0 : Int32) _ _ _ Z (lv_sub hl [1, 0] rfl) h29
      · have h30 := dif h28 c51
        clear h28
        refine lv_iconst (v := (1 : Int32)) hx hb dX12_digest_90 (by decide) ?_
        refine lv_goto (tgt := 95) hx hb dX12_digest_91 (by decide) ?_
        exact kJ16 ((31 : Int64) * x7) (1 : Int32) _ _ _ Z (lv_sub hl [1, 0] rfl) h30
    clear eK8
    have lL33 : ∀ (n : Nat), ∀ (x5 : Int64) (x6 : Int32) (H : Heap) (locs : List Loc) (ls : Array Slot), Wd (wM X) (tM X) (aM X) X s σ H locs → lv_has ls 6 [(0, .ref (X.2.1 33)), (1, .long x5), (3, .int x6)] → fMM_digest_L33 σ K8 n x5 x6 = some (rz, σz) → W p l e rm_fMM_digest s m args below meth c H locs 0 0 (MQ below (va_Ql (fun a u => a = rz ∧ u = σz) (poW (wM X) (tM X) (aM X) X sz) (aA (aM X) sz)) args s 0 0 (aA (aM X) sz)) (F0 m 33 ls []) := by
      intro n
      induction n with
      | zero =>
        intro x5 x6 H locs ls Z hl h
        exact nomatch (show (none : Option (Int64 × sT)) = some _ from h)
      | succ n52 ih20 =>
        intro x5 x6 H locs ls Z hl h32
        unfold fMM_digest_L33 at h32
        refine lv_iload_n hx hb dX12_digest_33 rfl (lv_at hl 2 rfl) ?_
        refine lv_bipush (v := (6 : Int32)) hx hb dX12_digest_34 (by decide) ?_
        refine lv_aload_n hx hb dX12_digest_36 rfl (lv_at hl 0 rfl) ?_
        refine g_33_0 B Z kf_RX12_7 dX12_digest_37 ?_
        refine lv_iconst (v := (0 : Int32)) hx hb dX12_digest_40 (by decide) ?_
        obtain ⟨z53, h33⟩ := dck_s h32
        clear h32
        refine ld_34 B Z z53 dX12_digest_41 ?_
        refine lv_imul hx hb dX12_digest_42 ?_
        refine lv_icmp_ge (tgt := 72) hx hb dX12_digest_43 (by decide) (fun c54 => ?_) (fun c54 => ?_)
        · have h34 := dit h33 c54
          clear h33
          exact kK8 x5 _ _ _ Z (lv_sub hl [0, 1] rfl) h34
        · have h35 := dif h33 c54
          clear h33
          refine lv_ldc2 hx hb B.2.2.2.1 (B.2.2.2.2.1 _ kc_RX12_405) dX12_digest_46 ?_
          refine lv_lload_n hx hb dX12_digest_49 rfl (lv_at hl 1 rfl) ?_
          refine lv_lmul hx hb dX12_digest_50 ?_
          refine lv_aload_n hx hb dX12_digest_51 rfl (lv_at hl 0 rfl) ?_
          refine lv_iload_n hx hb dX12_digest_52 rfl (lv_at hl 2 rfl) ?_
          refine lv_bipush (v := (6 : Int32)) hx hb dX12_digest_53 (by decide) ?_
          refine lv_idiv hx hb dX12_digest_55 (by decide) ?_
          refine lv_iload_n hx hb dX12_digest_56 rfl (lv_at hl 2 rfl) ?_
          refine lv_bipush (v := (6 : Int32)) hx hb dX12_digest_57 (by decide) ?_
          refine lv_irem hx hb dX12_digest_59 (by decide) ?_
          obtain ⟨r56, hc54, h36⟩ := db1_s h35
          clear h35
          refine cV_I [.int (x6 / (6 : Int32)), .int (x6 - x6 / (6 : Int32) * (6 : Int32))] [.long ((31 : Int64) * x5)] B mx_yX12_at (c_fMM_at l X _ (x6 / (6 : Int32)) (x6 - x6 / (6 : Int32) * (6 : Int32)) σ r56 hc54) kl_RX12_87 mi_yX12_at (rv_33 _ _) hcl_12 Z hl rfl rfl ⟨Nat.le_of_ble_eq_true rfl, Nat.le_of_ble_eq_true rfl⟩ rfl rfl (Nat.le_of_ble_eq_true rfl) dX12_digest_60 (fun H locs Z => ?_)
          clear hc54
          refine lv_i2l hx hb dX12_digest_63 rfl ?_
          refine lv_ladd hx hb dX12_digest_64 ?_
          refine lv_topl (fun x57 ex57 => ?_)
          have h37 := dlt_e ex57 h36
          clear ex57 h36
          refine lv_lstore_n (lv' := [(1, .long x57), (0, .ref (X.2.1 33)), (3, .int x6)]) hx hb dX12_digest_65 rfl hl (by decide) rfl (fun ls hl => ?_)
          refine lv_iinc (v := x6 + (1 : Int32)) (lv' := [(3, .int (x6 + (1 : Int32))), (1, .long x57), (0, .ref (X.2.1 33))]) hx hb dX12_digest_66 hl (k := 2) rfl (by rfl) (by decide) rfl (fun ls hl => ?_)
          refine lv_goto (tgt := 33) hx hb dX12_digest_69 (by decide) ?_
          exact ih20 x57 (x6 + (1 : Int32)) _ _ _ Z (lv_sub hl [2, 1, 0] rfl) h37
    exact lL33 FU x3 (0 : Int32) _ _ _ Z (lv_sub hl [1, 2, 0] rfl) h31
  clear eK4
  have lL6 : ∀ (n : Nat), ∀ (x1 : Int64) (x2 : Int32) (H : Heap) (locs : List Loc) (ls : Array Slot), Wd (wM X) (tM X) (aM X) X s σ H locs → lv_has ls 6 [(0, .ref (X.2.1 33)), (1, .long x1), (3, .int x2)] → fMM_digest_L6 σ K4 n x1 x2 = some (rz, σz) → W p l e rm_fMM_digest s m args below meth c H locs 0 0 (MQ below (va_Ql (fun a u => a = rz ∧ u = σz) (poW (wM X) (tM X) (aM X) X sz) (aA (aM X) sz)) args s 0 0 (aA (aM X) sz)) (F0 m 6 ls []) := by
    intro n
    induction n with
    | zero =>
      intro x1 x2 H locs ls Z hl h
      exact nomatch (show (none : Option (Int64 × sT)) = some _ from h)
    | succ n58 ih4 =>
      intro x1 x2 H locs ls Z hl h39
      unfold fMM_digest_L6 at h39
      refine lv_iload_n hx hb dX12_digest_6 rfl (lv_at hl 2 rfl) ?_
      refine lv_bipush (v := (6 : Int32)) hx hb dX12_digest_7 (by decide) ?_
      refine lv_icmp_ge (tgt := 31) hx hb dX12_digest_9 (by decide) (fun c59 => ?_) (fun c59 => ?_)
      · have h40 := dit h39 c59
        clear h39
        exact kK4 x1 _ _ _ Z (lv_sub hl [0, 1] rfl) h40
      · have h41 := dif h39 c59
        clear h39
        refine lv_ldc2 hx hb B.2.2.2.1 (B.2.2.2.2.1 _ kc_RX12_405) dX12_digest_12 ?_
        refine lv_lload_n hx hb dX12_digest_15 rfl (lv_at hl 1 rfl) ?_
        refine lv_lmul hx hb dX12_digest_16 ?_
        refine lv_aload_n hx hb dX12_digest_17 rfl (lv_at hl 0 rfl) ?_
        refine lv_iload_n hx hb dX12_digest_18 rfl (lv_at hl 2 rfl) ?_
        obtain ⟨r61, hc59, h42⟩ := db1_s h41
        clear h41
        refine cV_I [.int x2] [.long ((31 : Int64) * x1)] B mx_yX12_toldOf (c_fMM_toldOf l X _ x2 σ r61 hc59) kl_RX12_400 mi_yX12_toldOf (rv_33 _ _) hcl_12 Z hl rfl rfl ⟨Nat.le_of_ble_eq_true rfl, Nat.le_of_ble_eq_true rfl⟩ rfl rfl (Nat.le_of_ble_eq_true rfl) dX12_digest_19 (fun H locs Z => ?_)
        clear hc59
        refine lv_i2l hx hb dX12_digest_22 rfl ?_
        refine lv_ladd hx hb dX12_digest_23 ?_
        refine lv_topl (fun x62 ex62 => ?_)
        have h43 := dlt_e ex62 h42
        clear ex62 h42
        refine lv_lstore_n (lv' := [(1, .long x62), (0, .ref (X.2.1 33)), (3, .int x2)]) hx hb dX12_digest_24 rfl hl (by decide) rfl (fun ls hl => ?_)
        refine lv_iinc (v := x2 + (1 : Int32)) (lv' := [(3, .int (x2 + (1 : Int32))), (1, .long x62), (0, .ref (X.2.1 33))]) hx hb dX12_digest_25 hl (k := 2) rfl (by rfl) (by decide) rfl (fun ls hl => ?_)
        refine lv_goto (tgt := 6) hx hb dX12_digest_28 (by decide) ?_
        exact ih4 x62 (x2 + (1 : Int32)) _ _ _ Z (lv_sub hl [2, 1, 0] rfl) h43
  exact lL6 FU (2341 : Int64) (0 : Int32) _ _ _ Z (lv_sub hl [2, 1, 0] rfl) h38
