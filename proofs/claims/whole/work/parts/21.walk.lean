theorem dX12_rankWith_0 : decode cX12_rankWith 0 = .ok (.iconst 1, 1) := by decide +kernel
theorem dX12_rankWith_1 : decode cX12_rankWith 1 = .ok (.istore_n 3, 1) := by decide +kernel
theorem dX12_rankWith_2 : decode cX12_rankWith 2 = .ok (.iconst 0, 1) := by decide +kernel
theorem dX12_rankWith_3 : decode cX12_rankWith 3 = .ok (.istore 4, 2) := by decide +kernel
theorem dX12_rankWith_5 : decode cX12_rankWith 5 = .ok (.iload 4, 2) := by decide +kernel
theorem dX12_rankWith_7 : decode cX12_rankWith 7 = .ok (.iload_n 2, 1) := by decide +kernel
theorem dX12_rankWith_8 : decode cX12_rankWith 8 = .ok (.if_icmp .ge 232, 3) := by decide +kernel
theorem dX12_rankWith_11 : decode cX12_rankWith 11 = .ok (.aload_n 0, 1) := by decide +kernel
theorem dX12_rankWith_12 : decode cX12_rankWith 12 = .ok (.iload_n 2, 1) := by decide +kernel
theorem dX12_rankWith_13 : decode cX12_rankWith 13 = .ok (.iconst 1, 1) := by decide +kernel
theorem dX12_rankWith_14 : decode cX12_rankWith 14 = .ok (.invokevirtual 87, 3) := by decide +kernel
theorem dX12_rankWith_17 : decode cX12_rankWith 17 = .ok (.aload_n 0, 1) := by decide +kernel
theorem dX12_rankWith_18 : decode cX12_rankWith 18 = .ok (.iload 4, 2) := by decide +kernel
theorem dX12_rankWith_20 : decode cX12_rankWith 20 = .ok (.iconst 2, 1) := by decide +kernel
theorem dX12_rankWith_21 : decode cX12_rankWith 21 = .ok (.invokevirtual 87, 3) := by decide +kernel
theorem dX12_rankWith_24 : decode cX12_rankWith 24 = .ok (.imul, 1) := by decide +kernel
theorem dX12_rankWith_25 : decode cX12_rankWith 25 = .ok (.aload_n 0, 1) := by decide +kernel
theorem dX12_rankWith_26 : decode cX12_rankWith 26 = .ok (.iload_n 2, 1) := by decide +kernel
theorem dX12_rankWith_27 : decode cX12_rankWith 27 = .ok (.iconst 2, 1) := by decide +kernel
theorem dX12_rankWith_28 : decode cX12_rankWith 28 = .ok (.invokevirtual 87, 3) := by decide +kernel
theorem dX12_rankWith_31 : decode cX12_rankWith 31 = .ok (.aload_n 0, 1) := by decide +kernel
theorem dX12_rankWith_32 : decode cX12_rankWith 32 = .ok (.iload 4, 2) := by decide +kernel
theorem dX12_rankWith_34 : decode cX12_rankWith 34 = .ok (.iconst 1, 1) := by decide +kernel
theorem dX12_rankWith_35 : decode cX12_rankWith 35 = .ok (.invokevirtual 87, 3) := by decide +kernel
theorem dX12_rankWith_38 : decode cX12_rankWith 38 = .ok (.imul, 1) := by decide +kernel
theorem dX12_rankWith_39 : decode cX12_rankWith 39 = .ok (.isub, 1) := by decide +kernel
theorem dX12_rankWith_40 : decode cX12_rankWith 40 = .ok (.istore 5, 2) := by decide +kernel
theorem dX12_rankWith_42 : decode cX12_rankWith 42 = .ok (.aload_n 0, 1) := by decide +kernel
theorem dX12_rankWith_43 : decode cX12_rankWith 43 = .ok (.iload_n 2, 1) := by decide +kernel
theorem dX12_rankWith_44 : decode cX12_rankWith 44 = .ok (.iconst 2, 1) := by decide +kernel
theorem dX12_rankWith_45 : decode cX12_rankWith 45 = .ok (.invokevirtual 87, 3) := by decide +kernel
theorem dX12_rankWith_48 : decode cX12_rankWith 48 = .ok (.aload_n 0, 1) := by decide +kernel
theorem dX12_rankWith_49 : decode cX12_rankWith 49 = .ok (.iload 4, 2) := by decide +kernel
theorem dX12_rankWith_51 : decode cX12_rankWith 51 = .ok (.iconst 0, 1) := by decide +kernel
theorem dX12_rankWith_52 : decode cX12_rankWith 52 = .ok (.invokevirtual 87, 3) := by decide +kernel
theorem dX12_rankWith_55 : decode cX12_rankWith 55 = .ok (.imul, 1) := by decide +kernel
theorem dX12_rankWith_56 : decode cX12_rankWith 56 = .ok (.aload_n 0, 1) := by decide +kernel
theorem dX12_rankWith_57 : decode cX12_rankWith 57 = .ok (.iload_n 2, 1) := by decide +kernel
theorem dX12_rankWith_58 : decode cX12_rankWith 58 = .ok (.iconst 0, 1) := by decide +kernel
theorem dX12_rankWith_59 : decode cX12_rankWith 59 = .ok (.invokevirtual 87, 3) := by decide +kernel
theorem dX12_rankWith_62 : decode cX12_rankWith 62 = .ok (.aload_n 0, 1) := by decide +kernel
theorem dX12_rankWith_63 : decode cX12_rankWith 63 = .ok (.iload 4, 2) := by decide +kernel
theorem dX12_rankWith_65 : decode cX12_rankWith 65 = .ok (.iconst 2, 1) := by decide +kernel
theorem dX12_rankWith_66 : decode cX12_rankWith 66 = .ok (.invokevirtual 87, 3) := by decide +kernel
theorem dX12_rankWith_69 : decode cX12_rankWith 69 = .ok (.imul, 1) := by decide +kernel
theorem dX12_rankWith_70 : decode cX12_rankWith 70 = .ok (.isub, 1) := by decide +kernel
theorem dX12_rankWith_71 : decode cX12_rankWith 71 = .ok (.istore 6, 2) := by decide +kernel
theorem dX12_rankWith_73 : decode cX12_rankWith 73 = .ok (.aload_n 0, 1) := by decide +kernel
theorem dX12_rankWith_74 : decode cX12_rankWith 74 = .ok (.iload_n 2, 1) := by decide +kernel
theorem dX12_rankWith_75 : decode cX12_rankWith 75 = .ok (.iconst 0, 1) := by decide +kernel
theorem dX12_rankWith_76 : decode cX12_rankWith 76 = .ok (.invokevirtual 87, 3) := by decide +kernel
theorem dX12_rankWith_79 : decode cX12_rankWith 79 = .ok (.aload_n 0, 1) := by decide +kernel
theorem dX12_rankWith_80 : decode cX12_rankWith 80 = .ok (.iload 4, 2) := by decide +kernel
theorem dX12_rankWith_82 : decode cX12_rankWith 82 = .ok (.iconst 1, 1) := by decide +kernel
theorem dX12_rankWith_83 : decode cX12_rankWith 83 = .ok (.invokevirtual 87, 3) := by decide +kernel
theorem dX12_rankWith_86 : decode cX12_rankWith 86 = .ok (.imul, 1) := by decide +kernel
theorem dX12_rankWith_87 : decode cX12_rankWith 87 = .ok (.aload_n 0, 1) := by decide +kernel
theorem dX12_rankWith_88 : decode cX12_rankWith 88 = .ok (.iload_n 2, 1) := by decide +kernel
theorem dX12_rankWith_89 : decode cX12_rankWith 89 = .ok (.iconst 1, 1) := by decide +kernel
theorem dX12_rankWith_90 : decode cX12_rankWith 90 = .ok (.invokevirtual 87, 3) := by decide +kernel
theorem dX12_rankWith_93 : decode cX12_rankWith 93 = .ok (.aload_n 0, 1) := by decide +kernel
theorem dX12_rankWith_94 : decode cX12_rankWith 94 = .ok (.iload 4, 2) := by decide +kernel
theorem dX12_rankWith_96 : decode cX12_rankWith 96 = .ok (.iconst 0, 1) := by decide +kernel
theorem dX12_rankWith_97 : decode cX12_rankWith 97 = .ok (.invokevirtual 87, 3) := by decide +kernel
theorem dX12_rankWith_100 : decode cX12_rankWith 100 = .ok (.imul, 1) := by decide +kernel
theorem dX12_rankWith_101 : decode cX12_rankWith 101 = .ok (.isub, 1) := by decide +kernel
theorem dX12_rankWith_102 : decode cX12_rankWith 102 = .ok (.istore 7, 2) := by decide +kernel
theorem dX12_rankWith_104 : decode cX12_rankWith 104 = .ok (.iload_n 1, 1) := by decide +kernel
theorem dX12_rankWith_105 : decode cX12_rankWith 105 = .ok (.iload 4, 2) := by decide +kernel
theorem dX12_rankWith_107 : decode cX12_rankWith 107 = .ok (.invokestatic 95, 3) := by decide +kernel
theorem dX12_rankWith_110 : decode cX12_rankWith 110 = .ok (.ifCond .eq 22, 3) := by decide +kernel
theorem dX12_rankWith_113 : decode cX12_rankWith 113 = .ok (.iload 5, 2) := by decide +kernel
theorem dX12_rankWith_115 : decode cX12_rankWith 115 = .ok (.ifCond .ne 13, 3) := by decide +kernel
theorem dX12_rankWith_118 : decode cX12_rankWith 118 = .ok (.iload 6, 2) := by decide +kernel
theorem dX12_rankWith_120 : decode cX12_rankWith 120 = .ok (.ifCond .ne 8, 3) := by decide +kernel
theorem dX12_rankWith_123 : decode cX12_rankWith 123 = .ok (.iload 7, 2) := by decide +kernel
theorem dX12_rankWith_125 : decode cX12_rankWith 125 = .ok (.ifCond .eq 7, 3) := by decide +kernel
theorem dX12_rankWith_128 : decode cX12_rankWith 128 = .ok (.iconst 1, 1) := by decide +kernel
theorem dX12_rankWith_129 : decode cX12_rankWith 129 = .ok (.goto 4, 3) := by decide +kernel
theorem dX12_rankWith_132 : decode cX12_rankWith 132 = .ok (.iconst 0, 1) := by decide +kernel
theorem dX12_rankWith_133 : decode cX12_rankWith 133 = .ok (.istore 8, 2) := by decide +kernel
theorem dX12_rankWith_135 : decode cX12_rankWith 135 = .ok (.iload 8, 2) := by decide +kernel
theorem dX12_rankWith_137 : decode cX12_rankWith 137 = .ok (.ifCond .eq 12, 3) := by decide +kernel
theorem dX12_rankWith_140 : decode cX12_rankWith 140 = .ok (.iload_n 3, 1) := by decide +kernel
theorem dX12_rankWith_141 : decode cX12_rankWith 141 = .ok (.iconst 2, 1) := by decide +kernel
theorem dX12_rankWith_142 : decode cX12_rankWith 142 = .ok (.if_icmp .ge 7, 3) := by decide +kernel
theorem dX12_rankWith_145 : decode cX12_rankWith 145 = .ok (.iconst 2, 1) := by decide +kernel
theorem dX12_rankWith_146 : decode cX12_rankWith 146 = .ok (.goto 4, 3) := by decide +kernel
theorem dX12_rankWith_149 : decode cX12_rankWith 149 = .ok (.iload_n 3, 1) := by decide +kernel
theorem dX12_rankWith_150 : decode cX12_rankWith 150 = .ok (.istore_n 3, 1) := by decide +kernel
theorem dX12_rankWith_151 : decode cX12_rankWith 151 = .ok (.iconst 0, 1) := by decide +kernel
theorem dX12_rankWith_152 : decode cX12_rankWith 152 = .ok (.istore 9, 2) := by decide +kernel
theorem dX12_rankWith_154 : decode cX12_rankWith 154 = .ok (.iload 9, 2) := by decide +kernel
theorem dX12_rankWith_156 : decode cX12_rankWith 156 = .ok (.iload 4, 2) := by decide +kernel
theorem dX12_rankWith_158 : decode cX12_rankWith 158 = .ok (.if_icmp .ge 76, 3) := by decide +kernel
theorem dX12_rankWith_161 : decode cX12_rankWith 161 = .ok (.iload 8, 2) := by decide +kernel
theorem dX12_rankWith_163 : decode cX12_rankWith 163 = .ok (.ifCond .eq 71, 3) := by decide +kernel
theorem dX12_rankWith_166 : decode cX12_rankWith 166 = .ok (.iload_n 1, 1) := by decide +kernel
theorem dX12_rankWith_167 : decode cX12_rankWith 167 = .ok (.iload 9, 2) := by decide +kernel
theorem dX12_rankWith_169 : decode cX12_rankWith 169 = .ok (.invokestatic 95, 3) := by decide +kernel
theorem dX12_rankWith_172 : decode cX12_rankWith 172 = .ok (.ifCond .eq 42, 3) := by decide +kernel
theorem dX12_rankWith_175 : decode cX12_rankWith 175 = .ok (.iload 5, 2) := by decide +kernel
theorem dX12_rankWith_177 : decode cX12_rankWith 177 = .ok (.aload_n 0, 1) := by decide +kernel
theorem dX12_rankWith_178 : decode cX12_rankWith 178 = .ok (.iload 9, 2) := by decide +kernel
theorem dX12_rankWith_180 : decode cX12_rankWith 180 = .ok (.iconst 0, 1) := by decide +kernel
theorem dX12_rankWith_181 : decode cX12_rankWith 181 = .ok (.invokevirtual 87, 3) := by decide +kernel
theorem dX12_rankWith_184 : decode cX12_rankWith 184 = .ok (.imul, 1) := by decide +kernel
theorem dX12_rankWith_185 : decode cX12_rankWith 185 = .ok (.iload 6, 2) := by decide +kernel
theorem dX12_rankWith_187 : decode cX12_rankWith 187 = .ok (.aload_n 0, 1) := by decide +kernel
theorem dX12_rankWith_188 : decode cX12_rankWith 188 = .ok (.iload 9, 2) := by decide +kernel
theorem dX12_rankWith_190 : decode cX12_rankWith 190 = .ok (.iconst 1, 1) := by decide +kernel
theorem dX12_rankWith_191 : decode cX12_rankWith 191 = .ok (.invokevirtual 87, 3) := by decide +kernel
theorem dX12_rankWith_194 : decode cX12_rankWith 194 = .ok (.imul, 1) := by decide +kernel
theorem dX12_rankWith_195 : decode cX12_rankWith 195 = .ok (.iadd, 1) := by decide +kernel
theorem dX12_rankWith_196 : decode cX12_rankWith 196 = .ok (.iload 7, 2) := by decide +kernel
theorem dX12_rankWith_198 : decode cX12_rankWith 198 = .ok (.aload_n 0, 1) := by decide +kernel
theorem dX12_rankWith_199 : decode cX12_rankWith 199 = .ok (.iload 9, 2) := by decide +kernel
theorem dX12_rankWith_201 : decode cX12_rankWith 201 = .ok (.iconst 2, 1) := by decide +kernel
theorem dX12_rankWith_202 : decode cX12_rankWith 202 = .ok (.invokevirtual 87, 3) := by decide +kernel
theorem dX12_rankWith_205 : decode cX12_rankWith 205 = .ok (.imul, 1) := by decide +kernel
theorem dX12_rankWith_206 : decode cX12_rankWith 206 = .ok (.iadd, 1) := by decide +kernel
theorem dX12_rankWith_207 : decode cX12_rankWith 207 = .ok (.ifCond .eq 7, 3) := by decide +kernel
theorem dX12_rankWith_210 : decode cX12_rankWith 210 = .ok (.iconst 1, 1) := by decide +kernel
theorem dX12_rankWith_211 : decode cX12_rankWith 211 = .ok (.goto 4, 3) := by decide +kernel
theorem dX12_rankWith_214 : decode cX12_rankWith 214 = .ok (.iconst 0, 1) := by decide +kernel
theorem dX12_rankWith_215 : decode cX12_rankWith 215 = .ok (.istore 10, 2) := by decide +kernel
theorem dX12_rankWith_217 : decode cX12_rankWith 217 = .ok (.iload 10, 2) := by decide +kernel
theorem dX12_rankWith_219 : decode cX12_rankWith 219 = .ok (.ifCond .eq 7, 3) := by decide +kernel
theorem dX12_rankWith_222 : decode cX12_rankWith 222 = .ok (.iconst 3, 1) := by decide +kernel
theorem dX12_rankWith_223 : decode cX12_rankWith 223 = .ok (.goto 4, 3) := by decide +kernel
theorem dX12_rankWith_226 : decode cX12_rankWith 226 = .ok (.iload_n 3, 1) := by decide +kernel
theorem dX12_rankWith_227 : decode cX12_rankWith 227 = .ok (.istore_n 3, 1) := by decide +kernel
theorem dX12_rankWith_228 : decode cX12_rankWith 228 = .ok (.iinc 9 1, 3) := by decide +kernel
theorem dX12_rankWith_231 : decode cX12_rankWith 231 = .ok (.goto (-77), 3) := by decide +kernel
theorem dX12_rankWith_234 : decode cX12_rankWith 234 = .ok (.iinc 4 1, 3) := by decide +kernel
theorem dX12_rankWith_237 : decode cX12_rankWith 237 = .ok (.goto (-232), 3) := by decide +kernel
theorem dX12_rankWith_240 : decode cX12_rankWith 240 = .ok (.iload_n 3, 1) := by decide +kernel
theorem dX12_rankWith_241 : decode cX12_rankWith 241 = .ok (.ireturn, 1) := by decide +kernel
def rm_fMM_rankWith : Room := { frames := 2, cells := 0, slots := 0, locals := 82 }
set_option maxHeartbeats 4000000 in
set_option maxRecDepth 100000 in
theorem c_fMM_rankWith (l : Launch) (X : eX) (sz : Nat) (a1 : Int32) (a2 : Int32) (σ : sT) (rz : Int32) (h0 : fMM_rankWith a1 a2 σ = some rz) : ctI l yX12_rankWith cX12_rankWith 11 (some .int) rm_fMM_rankWith [.ref (X.2.1 33), .int a1, .int a2] (wM X) (tM X) (aM X) X sz σ rz σ := by
  refine ct_of (by decide +kernel) (Nat.le_of_ble_eq_true rfl) ?_
  intro p e s m args below meth c ls hz B hl Z
  have B : Bd p s m args meth c RX12 cX12_rankWith 11 (some .int) := B
  have hl : lv_has ls 11 [(0, .ref (X.2.1 33)), (1, .int a1), (2, .int a2)] := hl
  have hx := B.1
  have hb := B.2.1
  unfold fMM_rankWith at h0
  refine lv_iconst (v := (1 : Int32)) hx hb dX12_rankWith_0 (by decide) ?_
  refine lv_istore_n (lv' := [(3, .int (1 : Int32)), (0, .ref (X.2.1 33)), (1, .int a1), (2, .int a2)]) hx hb dX12_rankWith_1 rfl hl (by decide) rfl (fun ls hl => ?_)
  refine lv_iconst (v := (0 : Int32)) hx hb dX12_rankWith_2 (by decide) ?_
  refine lv_istore (lv' := [(4, .int (0 : Int32)), (3, .int (1 : Int32)), (0, .ref (X.2.1 33)), (1, .int a1), (2, .int a2)]) hx hb dX12_rankWith_3 hl (by decide) rfl (fun ls hl => ?_)
  have lL5 : ∀ (n : Nat), ∀ (x1 : Int32) (x2 : Int32) (H : Heap) (locs : List Loc) (ls : Array Slot), Wd (wM X) (tM X) (aM X) X s σ H locs → lv_has ls 11 [(0, .ref (X.2.1 33)), (1, .int a1), (2, .int a2), (3, .int x1), (4, .int x2)] → fMM_rankWith_L5 a1 a2 σ n x1 x2 = some rz → W p l e rm_fMM_rankWith s m args below meth c H locs 0 0 (MQ below (va_Qi (fun a u => a = rz ∧ u = σ) (poW (wM X) (tM X) (aM X) X sz) (aA (aM X) sz)) args s 0 0 (aA (aM X) sz)) (F0 m 5 ls []) := by
    intro n
    induction n with
    | zero =>
      intro x1 x2 H locs ls Z hl h
      exact nomatch (show (none : Option (Int32)) = some _ from h)
    | succ n3 ih4 =>
      intro x1 x2 H locs ls Z hl h1
      unfold fMM_rankWith_L5 at h1
      refine lv_iload hx hb dX12_rankWith_5 (lv_at hl 4 rfl) ?_
      refine lv_iload_n hx hb dX12_rankWith_7 rfl (lv_at hl 2 rfl) ?_
      refine lv_icmp_ge (tgt := 240) hx hb dX12_rankWith_8 (by decide) (fun c4 => ?_) (fun c4 => ?_)
      · have h2 := dit h1 c4
        clear h1
        refine lv_iload_n hx hb dX12_rankWith_240 rfl (lv_at hl 3 rfl) ?_
        exact reI B Z rfl hz (congrArg (Option.map (fun q => (q, σ))) h2) dX12_rankWith_241
      · have h3 := dif h1 c4
        clear h1
        refine lv_aload_n hx hb dX12_rankWith_11 rfl (lv_at hl 0 rfl) ?_
        refine lv_iload_n hx hb dX12_rankWith_12 rfl (lv_at hl 2 rfl) ?_
        refine lv_iconst (v := (1 : Int32)) hx hb dX12_rankWith_13 (by decide) ?_
        obtain ⟨r6, hc4, h4⟩ := db1_s h3
        clear h3
        refine cV_I [.int a2, .int (1 : Int32)] [] B mx_yX12_at (c_fMM_at l X _ a2 (1 : Int32) σ r6 hc4) kl_RX12_87 mi_yX12_at (rv_33 _ _) hcl_12 Z hl rfl rfl ⟨Nat.le_of_ble_eq_true rfl, Nat.le_of_ble_eq_true rfl⟩ rfl rfl (Nat.le_of_ble_eq_true rfl) dX12_rankWith_14 (fun H locs Z => ?_)
        clear hc4
        refine lv_aload_n hx hb dX12_rankWith_17 rfl (lv_at hl 0 rfl) ?_
        refine lv_iload hx hb dX12_rankWith_18 (lv_at hl 4 rfl) ?_
        refine lv_iconst (v := (2 : Int32)) hx hb dX12_rankWith_20 (by decide) ?_
        obtain ⟨r8, hc6, h5⟩ := db1_s h4
        clear h4
        refine cV_I [.int x2, .int (2 : Int32)] [.int r6] B mx_yX12_at (c_fMM_at l X _ x2 (2 : Int32) σ r8 hc6) kl_RX12_87 mi_yX12_at (rv_33 _ _) hcl_12 Z hl rfl rfl ⟨Nat.le_of_ble_eq_true rfl, Nat.le_of_ble_eq_true rfl⟩ rfl rfl (Nat.le_of_ble_eq_true rfl) dX12_rankWith_21 (fun H locs Z => ?_)
        clear hc6
        refine lv_imul hx hb dX12_rankWith_24 ?_
        refine lv_aload_n hx hb dX12_rankWith_25 rfl (lv_at hl 0 rfl) ?_
        refine lv_iload_n hx hb dX12_rankWith_26 rfl (lv_at hl 2 rfl) ?_
        refine lv_iconst (v := (2 : Int32)) hx hb dX12_rankWith_27 (by decide) ?_
        obtain ⟨r10, hc8, h6⟩ := db1_s h5
        clear h5
        refine cV_I [.int a2, .int (2 : Int32)] [.int (r6 * r8)] B mx_yX12_at (c_fMM_at l X _ a2 (2 : Int32) σ r10 hc8) kl_RX12_87 mi_yX12_at (rv_33 _ _) hcl_12 Z hl rfl rfl ⟨Nat.le_of_ble_eq_true rfl, Nat.le_of_ble_eq_true rfl⟩ rfl rfl (Nat.le_of_ble_eq_true rfl) dX12_rankWith_28 (fun H locs Z => ?_)
        clear hc8
        refine lv_aload_n hx hb dX12_rankWith_31 rfl (lv_at hl 0 rfl) ?_
        refine lv_iload hx hb dX12_rankWith_32 (lv_at hl 4 rfl) ?_
        refine lv_iconst (v := (1 : Int32)) hx hb dX12_rankWith_34 (by decide) ?_
        obtain ⟨r12, hc10, h7⟩ := db1_s h6
        clear h6
        refine cV_I [.int x2, .int (1 : Int32)] [.int r10, .int (r6 * r8)] B mx_yX12_at (c_fMM_at l X _ x2 (1 : Int32) σ r12 hc10) kl_RX12_87 mi_yX12_at (rv_33 _ _) hcl_12 Z hl rfl rfl ⟨Nat.le_of_ble_eq_true rfl, Nat.le_of_ble_eq_true rfl⟩ rfl rfl (Nat.le_of_ble_eq_true rfl) dX12_rankWith_35 (fun H locs Z => ?_)
        clear hc10
        refine lv_imul hx hb dX12_rankWith_38 ?_
        refine lv_isub hx hb dX12_rankWith_39 ?_
        refine lv_topi (fun x13 ex13 => ?_)
        have h8 := dlt_e ex13 h7
        clear ex13 h7
        refine lv_istore (lv' := [(5, .int x13), (0, .ref (X.2.1 33)), (1, .int a1), (2, .int a2), (3, .int x1), (4, .int x2)]) hx hb dX12_rankWith_40 hl (by decide) rfl (fun ls hl => ?_)
        refine lv_aload_n hx hb dX12_rankWith_42 rfl (lv_at hl 1 rfl) ?_
        refine lv_iload_n hx hb dX12_rankWith_43 rfl (lv_at hl 3 rfl) ?_
        refine lv_iconst (v := (2 : Int32)) hx hb dX12_rankWith_44 (by decide) ?_
        obtain ⟨r15, hc13, h9⟩ := db1_s h8
        clear h8
        refine cV_I [.int a2, .int (2 : Int32)] [] B mx_yX12_at (c_fMM_at l X _ a2 (2 : Int32) σ r15 hc13) kl_RX12_87 mi_yX12_at (rv_33 _ _) hcl_12 Z hl rfl rfl ⟨Nat.le_of_ble_eq_true rfl, Nat.le_of_ble_eq_true rfl⟩ rfl rfl (Nat.le_of_ble_eq_true rfl) dX12_rankWith_45 (fun H locs Z => ?_)
        clear hc13
        refine lv_aload_n hx hb dX12_rankWith_48 rfl (lv_at hl 1 rfl) ?_
        refine lv_iload hx hb dX12_rankWith_49 (lv_at hl 5 rfl) ?_
        refine lv_iconst (v := (0 : Int32)) hx hb dX12_rankWith_51 (by decide) ?_
        obtain ⟨r17, hc15, h10⟩ := db1_s h9
        clear h9
        refine cV_I [.int x2, .int (0 : Int32)] [.int r15] B mx_yX12_at (c_fMM_at l X _ x2 (0 : Int32) σ r17 hc15) kl_RX12_87 mi_yX12_at (rv_33 _ _) hcl_12 Z hl rfl rfl ⟨Nat.le_of_ble_eq_true rfl, Nat.le_of_ble_eq_true rfl⟩ rfl rfl (Nat.le_of_ble_eq_true rfl) dX12_rankWith_52 (fun H locs Z => ?_)
        clear hc15
        refine lv_imul hx hb dX12_rankWith_55 ?_
        refine lv_aload_n hx hb dX12_rankWith_56 rfl (lv_at hl 1 rfl) ?_
        refine lv_iload_n hx hb dX12_rankWith_57 rfl (lv_at hl 3 rfl) ?_
        refine lv_iconst (v := (0 : Int32)) hx hb dX12_rankWith_58 (by decide) ?_
        obtain ⟨r19, hc17, h11⟩ := db1_s h10
        clear h10
        refine cV_I [.int a2, .int (0 : Int32)] [.int (r15 * r17)] B mx_yX12_at (c_fMM_at l X _ a2 (0 : Int32) σ r19 hc17) kl_RX12_87 mi_yX12_at (rv_33 _ _) hcl_12 Z hl rfl rfl ⟨Nat.le_of_ble_eq_true rfl, Nat.le_of_ble_eq_true rfl⟩ rfl rfl (Nat.le_of_ble_eq_true rfl) dX12_rankWith_59 (fun H locs Z => ?_)
        clear hc17
        refine lv_aload_n hx hb dX12_rankWith_62 rfl (lv_at hl 1 rfl) ?_
        refine lv_iload hx hb dX12_rankWith_63 (lv_at hl 5 rfl) ?_
        refine lv_iconst (v := (2 : Int32)) hx hb dX12_rankWith_65 (by decide) ?_
        obtain ⟨r21, hc19, h12⟩ := db1_s h11
        clear h11
        refine cV_I [.int x2, .int (2 : Int32)] [.int r19, .int (r15 * r17)] B mx_yX12_at (c_fMM_at l X _ x2 (2 : Int32) σ r21 hc19) kl_RX12_87 mi_yX12_at (rv_33 _ _) hcl_12 Z hl rfl rfl ⟨Nat.le_of_ble_eq_true rfl, Nat.le_of_ble_eq_true rfl⟩ rfl rfl (Nat.le_of_ble_eq_true rfl) dX12_rankWith_66 (fun H locs Z => ?_)
        clear hc19
        refine lv_imul hx hb dX12_rankWith_69 ?_
        refine lv_isub hx hb dX12_rankWith_70 ?_
        refine lv_topi (fun x22 ex22 => ?_)
        have h13 := dlt_e ex22 h12
        clear ex22 h12
        refine lv_istore (lv' := [(6, .int x22), (5, .int x13), (0, .ref (X.2.1 33)), (1, .int a1), (2, .int a2), (3, .int x1), (4, .int x2)]) hx hb dX12_rankWith_71 hl (by decide) rfl (fun ls hl => ?_)
        refine lv_aload_n hx hb dX12_rankWith_73 rfl (lv_at hl 2 rfl) ?_
        refine lv_iload_n hx hb dX12_rankWith_74 rfl (lv_at hl 4 rfl) ?_
        refine lv_iconst (v := (0 : Int32)) hx hb dX12_rankWith_75 (by decide) ?_
        obtain ⟨r24, hc22, h14⟩ := db1_s h13
        clear h13
        refine cV_I [.int a2, .int (0 : Int32)] [] B mx_yX12_at (c_fMM_at l X _ a2 (0 : Int32) σ r24 hc22) kl_RX12_87 mi_yX12_at (rv_33 _ _) hcl_12 Z hl rfl rfl ⟨Nat.le_of_ble_eq_true rfl, Nat.le_of_ble_eq_true rfl⟩ rfl rfl (Nat.le_of_ble_eq_true rfl) dX12_rankWith_76 (fun H locs Z => ?_)
        clear hc22
        refine lv_aload_n hx hb dX12_rankWith_79 rfl (lv_at hl 2 rfl) ?_
        refine lv_iload hx hb dX12_rankWith_80 (lv_at hl 6 rfl) ?_
        refine lv_iconst (v := (1 : Int32)) hx hb dX12_rankWith_82 (by decide) ?_
        obtain ⟨r26, hc24, h15⟩ := db1_s h14
        clear h14
        refine cV_I [.int x2, .int (1 : Int32)] [.int r24] B mx_yX12_at (c_fMM_at l X _ x2 (1 : Int32) σ r26 hc24) kl_RX12_87 mi_yX12_at (rv_33 _ _) hcl_12 Z hl rfl rfl ⟨Nat.le_of_ble_eq_true rfl, Nat.le_of_ble_eq_true rfl⟩ rfl rfl (Nat.le_of_ble_eq_true rfl) dX12_rankWith_83 (fun H locs Z => ?_)
        clear hc24
        refine lv_imul hx hb dX12_rankWith_86 ?_
        refine lv_aload_n hx hb dX12_rankWith_87 rfl (lv_at hl 2 rfl) ?_
        refine lv_iload_n hx hb dX12_rankWith_88 rfl (lv_at hl 4 rfl) ?_
        refine lv_iconst (v := (1 : Int32)) hx hb dX12_rankWith_89 (by decide) ?_
        obtain ⟨r28, hc26, h16⟩ := db1_s h15
        clear h15
        refine cV_I [.int a2, .int (1 : Int32)] [.int (r24 * r26)] B mx_yX12_at (c_fMM_at l X _ a2 (1 : Int32) σ r28 hc26) kl_RX12_87 mi_yX12_at (rv_33 _ _) hcl_12 Z hl rfl rfl ⟨Nat.le_of_ble_eq_true rfl, Nat.le_of_ble_eq_true rfl⟩ rfl rfl (Nat.le_of_ble_eq_true rfl) dX12_rankWith_90 (fun H locs Z => ?_)
        clear hc26
        refine lv_aload_n hx hb dX12_rankWith_93 rfl (lv_at hl 2 rfl) ?_
        refine lv_iload hx hb dX12_rankWith_94 (lv_at hl 6 rfl) ?_
        refine lv_iconst (v := (0 : Int32)) hx hb dX12_rankWith_96 (by decide) ?_
        obtain ⟨r30, hc28, h17⟩ := db1_s h16
        clear h16
        refine cV_I [.int x2, .int (0 : Int32)] [.int r28, .int (r24 * r26)] B mx_yX12_at (c_fMM_at l X _ x2 (0 : Int32) σ r30 hc28) kl_RX12_87 mi_yX12_at (rv_33 _ _) hcl_12 Z hl rfl rfl ⟨Nat.le_of_ble_eq_true rfl, Nat.le_of_ble_eq_true rfl⟩ rfl rfl (Nat.le_of_ble_eq_true rfl) dX12_rankWith_97 (fun H locs Z => ?_)
        clear hc28
        refine lv_imul hx hb dX12_rankWith_100 ?_
        refine lv_isub hx hb dX12_rankWith_101 ?_
        refine lv_topi (fun x31 ex31 => ?_)
        have h18 := dlt_e ex31 h17
        clear ex31 h17
        refine lv_istore (lv' := [(7, .int x31), (6, .int x22), (5, .int x13), (0, .ref (X.2.1 33)), (1, .int a1), (2, .int a2), (3, .int x1), (4, .int x2)]) hx hb dX12_rankWith_102 hl (by decide) rfl (fun ls hl => ?_)
        refine lv_iload_n hx hb dX12_rankWith_104 rfl (lv_at hl 4 rfl) ?_
        refine lv_iload hx hb dX12_rankWith_105 (lv_at hl 7 rfl) ?_
        obtain ⟨r33, hc31, h19⟩ := db1_s h18
        clear h18
        refine cS_I [.int a1, .int x2] [] B mx_yX12_has (c_fMM_has l X _ a1 x2 σ r33 hc31) kl_RX12_95 ks_yX12_has Z hl rfl rfl ⟨Nat.le_of_ble_eq_true rfl, Nat.le_of_ble_eq_true rfl⟩ rfl rfl (Nat.le_of_ble_eq_true rfl) dX12_rankWith_107 (fun H locs Z => ?_)
        clear hc31
        obtain ⟨J35, eJ35, h50⟩ := dlt_s h19
        clear h19
        have kJ35 : ∀ (x34 : Int32) (H : Heap) (locs : List Loc) (ls : Array Slot), Wd (wM X) (tM X) (aM X) X s σ H locs → lv_has ls 11 [(0, .ref (X.2.1 33)), (1, .int a1), (2, .int a2), (3, .int x1), (4, .int x2), (5, .int x13), (6, .int x22), (7, .int x31)] → J35 x34 = some rz → W p l e rm_fMM_rankWith s m args below meth c H locs 0 0 (MQ below (va_Qi (fun a u => a = rz ∧ u = σ) (poW (wM X) (tM X) (aM X) X sz) (aA (aM X) sz)) args s 0 0 (aA (aM X) sz)) (F0 m 133 ls [.int x34]) := by
          intro x34 H locs ls Z hl h20
          rw [eJ35] at h20
          refine lv_istore (lv' := [(8, .int x34), (0, .ref (X.2.1 33)), (1, .int a1), (2, .int a2), (3, .int x1), (4, .int x2), (5, .int x13), (6, .int x22), (7, .int x31)]) hx hb dX12_rankWith_133 hl (by decide) rfl (fun ls hl => ?_)
          refine lv_iload hx hb dX12_rankWith_135 (lv_at hl 0 rfl) ?_
          obtain ⟨J37, eJ37, h43⟩ := dlt_s h20
          clear h20
          have kJ37 : ∀ (x36 : Int32) (H : Heap) (locs : List Loc) (ls : Array Slot), Wd (wM X) (tM X) (aM X) X s σ H locs → lv_has ls 11 [(0, .ref (X.2.1 33)), (1, .int a1), (2, .int a2), (4, .int x2), (5, .int x13), (6, .int x22), (7, .int x31), (8, .int x34)] → J37 x36 = some rz → W p l e rm_fMM_rankWith s m args below meth c H locs 0 0 (MQ below (va_Qi (fun a u => a = rz ∧ u = σ) (poW (wM X) (tM X) (aM X) X sz) (aA (aM X) sz)) args s 0 0 (aA (aM X) sz)) (F0 m 150 ls [.int x36]) := by
            intro x36 H locs ls Z hl h21
            rw [eJ37] at h21
            refine lv_istore_n (lv' := [(3, .int x36), (0, .ref (X.2.1 33)), (1, .int a1), (2, .int a2), (4, .int x2), (5, .int x13), (6, .int x22), (7, .int x31), (8, .int x34)]) hx hb dX12_rankWith_150 rfl hl (by decide) rfl (fun ls hl => ?_)
            refine lv_iconst (v := (0 : Int32)) hx hb dX12_rankWith_151 (by decide) ?_
            refine lv_istore (lv' := [(9, .int (0 : Int32)), (3, .int x36), (0, .ref (X.2.1 33)), (1, .int a1), (2, .int a2), (4, .int x2), (5, .int x13), (6, .int x22), (7, .int x31), (8, .int x34)]) hx hb dX12_rankWith_152 hl (by decide) rfl (fun ls hl => ?_)
            obtain ⟨K41, eK41, h23⟩ := dlt_s h21
            clear h21
            have kK41 : ∀ (x40 : Int32) (H : Heap) (locs : List Loc) (ls : Array Slot), Wd (wM X) (tM X) (aM X) X s σ H locs → lv_has ls 11 [(0, .ref (X.2.1 33)), (1, .int a1), (2, .int a2), (3, .int x40), (4, .int x2)] → K41 x40 = some rz → W p l e rm_fMM_rankWith s m args below meth c H locs 0 0 (MQ below (va_Qi (fun a u => a = rz ∧ u = σ) (poW (wM X) (tM X) (aM X) X sz) (aA (aM X) sz)) args s 0 0 (aA (aM X) sz)) (F0 m 234 ls []) := by
              intro x40 H locs ls Z hl h22
              rw [eK41] at h22
              refine lv_iinc (v := x2 + (1 : Int32)) (lv' := [(4, .int (x2 + (1 : Int32))), (0, .ref (X.2.1 33)), (1, .int a1), (2, .int a2), (3, .int x40)]) hx hb dX12_rankWith_234 hl (k := 4) rfl (by rfl) (by decide) rfl (fun ls hl => ?_)
              refine lv_goto (tgt := 5) hx hb dX12_rankWith_237 (by decide) ?_
              exact ih4 x40 (x2 + (1 : Int32)) _ _ _ Z (lv_sub hl [1, 2, 3, 4, 0] rfl) h22
            clear eK41
            have lL154 : ∀ (n : Nat), ∀ (x38 : Int32) (x39 : Int32) (H : Heap) (locs : List Loc) (ls : Array Slot), Wd (wM X) (tM X) (aM X) X s σ H locs → lv_has ls 11 [(0, .ref (X.2.1 33)), (1, .int a1), (2, .int a2), (3, .int x38), (4, .int x2), (5, .int x13), (6, .int x22), (7, .int x31), (8, .int x34), (9, .int x39)] → fMM_rankWith_L154 a1 σ x2 x13 x22 x31 x34 K41 n x38 x39 = some rz → W p l e rm_fMM_rankWith s m args below meth c H locs 0 0 (MQ below (va_Qi (fun a u => a = rz ∧ u = σ) (poW (wM X) (tM X) (aM X) X sz) (aA (aM X) sz)) args s 0 0 (aA (aM X) sz)) (F0 m 154 ls []) := by
              intro n
              induction n with
              | zero =>
                intro x38 x39 H locs ls Z hl h
                exact nomatch (show (none : Option (Int32)) = some _ from h)
              | succ n42 ih92 =>
                intro x38 x39 H locs ls Z hl h24
                unfold fMM_rankWith_L154 at h24
                refine lv_iload hx hb dX12_rankWith_154 (lv_at hl 9 rfl) ?_
                refine lv_iload hx hb dX12_rankWith_156 (lv_at hl 4 rfl) ?_
                refine lv_icmp_ge (tgt := 234) hx hb dX12_rankWith_158 (by decide) (fun c43 => ?_) (fun c43 => ?_)
                · have h25 := dit h24 c43
                  clear h24
                  exact kK41 x38 _ _ _ Z (lv_sub hl [0, 1, 2, 3, 4] rfl) h25
                · have h26 := dif h24 c43
                  clear h24
                  refine lv_iload hx hb dX12_rankWith_161 (lv_at hl 8 rfl) ?_
                  refine lv_if_eq (tgt := 234) hx hb dX12_rankWith_163 (by decide) (fun c44 => ?_) (fun c44 => ?_)
                  · have h27 := dit h26 c44
                    clear h26
                    exact kK41 x38 _ _ _ Z (lv_sub hl [0, 1, 2, 3, 4] rfl) h27
                  · have h28 := dif h26 c44
                    clear h26
                    refine lv_iload_n hx hb dX12_rankWith_166 rfl (lv_at hl 1 rfl) ?_
                    refine lv_iload hx hb dX12_rankWith_167 (lv_at hl 9 rfl) ?_
                    obtain ⟨r46, hc44, h29⟩ := db1_s h28
                    clear h28
                    refine cS_I [.int a1, .int x39] [] B mx_yX12_has (c_fMM_has l X _ a1 x39 σ r46 hc44) kl_RX12_95 ks_yX12_has Z hl rfl rfl ⟨Nat.le_of_ble_eq_true rfl, Nat.le_of_ble_eq_true rfl⟩ rfl rfl (Nat.le_of_ble_eq_true rfl) dX12_rankWith_169 (fun H locs Z => ?_)
                    clear hc44
                    obtain ⟨J48, eJ48, h33⟩ := dlt_s h29
                    clear h29
                    have kJ48 : ∀ (x47 : Int32) (H : Heap) (locs : List Loc) (ls : Array Slot), Wd (wM X) (tM X) (aM X) X s σ H locs → lv_has ls 11 [(0, .ref (X.2.1 33)), (1, .int a1), (2, .int a2), (3, .int x38), (4, .int x2), (5, .int x13), (6, .int x22), (7, .int x31), (8, .int x34), (9, .int x39)] → J48 x47 = some rz → W p l e rm_fMM_rankWith s m args below meth c H locs 0 0 (MQ below (va_Qi (fun a u => a = rz ∧ u = σ) (poW (wM X) (tM X) (aM X) X sz) (aA (aM X) sz)) args s 0 0 (aA (aM X) sz)) (F0 m 215 ls [.int x47]) := by
                      intro x47 H locs ls Z hl h30
                      rw [eJ48] at h30
                      refine lv_istore (lv' := [(10, .int x47), (0, .ref (X.2.1 33)), (1, .int a1), (2, .int a2), (3, .int x38), (4, .int x2), (5, .int x13), (6, .int x22), (7, .int x31), (8, .int x34), (9, .int x39)]) hx hb dX12_rankWith_215 hl (by decide) rfl (fun ls hl => ?_)
                      refine lv_iload hx hb dX12_rankWith_217 (lv_at hl 0 rfl) ?_
                      refine lv_if_eq (tgt := 226) hx hb dX12_rankWith_219 (by decide) (fun c49 => ?_) (fun c49 => ?_)
                      · have h31 := dit h30 c49
                        clear h30
                        refine lv_iload_n hx hb dX12_rankWith_226 rfl (lv_at hl 4 rfl) ?_
                        refine lv_istore_n (lv' := [(3, .int x38), (10, .int x47), (0, .ref (X.2.1 33)), (1, .int a1), (2, .int a2), (4, .int x2), (5, .int x13), (6, .int x22), (7, .int x31), (8, .int x34), (9, .int x39)]) hx hb dX12_rankWith_227 rfl hl (by decide) rfl (fun ls hl => ?_)
                        refine lv_iinc (v := x39 + (1 : Int32)) (lv' := [(9, .int (x39 + (1 : Int32))), (3, .int x38), (10, .int x47), (0, .ref (X.2.1 33)), (1, .int a1), (2, .int a2), (4, .int x2), (5, .int x13), (6, .int x22), (7, .int x31), (8, .int x34)]) hx hb dX12_rankWith_228 hl (k := 10) rfl (by rfl) (by decide) rfl (fun ls hl => ?_)
                        refine lv_goto (tgt := 154) hx hb dX12_rankWith_231 (by decide) ?_
                        exact ih92 x38 (x39 + (1 : Int32)) _ _ _ Z (lv_sub hl [3, 4, 5, 1, 6, 7, 8, 9, 10, 0] rfl) h31
                      · have h32 := dif h30 c49
                        clear h30
                        refine lv_iconst (v := (3 : Int32)) hx hb dX12_rankWith_222 (by decide) ?_
                        refine lv_goto (tgt := 227) hx hb dX12_rankWith_223 (by decide) ?_
                        refine lv_istore_n (lv' := [(3, .int (3 : Int32)), (10, .int x47), (0, .ref (X.2.1 33)), (1, .int a1), (2, .int a2), (4, .int x2), (5, .int x13), (6, .int x22), (7, .int x31), (8, .int x34), (9, .int x39)]) hx hb dX12_rankWith_227 rfl hl (by decide) rfl (fun ls hl => ?_)
                        refine lv_iinc (v := x39 + (1 : Int32)) (lv' := [(9, .int (x39 + (1 : Int32))), (3, .int (3 : Int32)), (10, .int x47), (0, .ref (X.2.1 33)), (1, .int a1), (2, .int a2), (4, .int x2), (5, .int x13), (6, .int x22), (7, .int x31), (8, .int x34)]) hx hb dX12_rankWith_228 hl (k := 10) rfl (by rfl) (by decide) rfl (fun ls hl => ?_)
                        refine lv_goto (tgt := 154) hx hb dX12_rankWith_231 (by decide) ?_
                        exact ih92 (3 : Int32) (x39 + (1 : Int32)) _ _ _ Z (lv_sub hl [3, 4, 5, 1, 6, 7, 8, 9, 10, 0] rfl) h32
                    clear eJ48
                    obtain ⟨J50, eJ50, h35⟩ := dlt_s h33
                    clear h33
                    have kJ50 : ∀ (H : Heap) (locs : List Loc) (ls : Array Slot), Wd (wM X) (tM X) (aM X) X s σ H locs → lv_has ls 11 [(0, .ref (X.2.1 33)), (1, .int a1), (2, .int a2), (3, .int x38), (4, .int x2), (5, .int x13), (6, .int x22), (7, .int x31), (8, .int x34), (9, .int x39)] → J50 () = some rz → W p l e rm_fMM_rankWith s m args below meth c H locs 0 0 (MQ below (va_Qi (fun a u => a = rz ∧ u = σ) (poW (wM X) (tM X) (aM X) X sz) (aA (aM X) sz)) args s 0 0 (aA (aM X) sz)) (F0 m 214 ls []) := by
                      intro  H locs ls Z hl h34
                      rw [eJ50] at h34
                      refine lv_iconst (v := (0 : Int32)) hx hb dX12_rankWith_214 (by decide) ?_
                      exact kJ48 (0 : Int32) _ _ _ Z (lv_sub hl [0, 1, 2, 3, 4, 5, 6, 7, 8, 9] rfl) h34
                    clear eJ50
                    refine lv_if_eq (tgt := 214) hx hb dX12_rankWith_172 (by decide) (fun c51 => ?_) (fun c51 => ?_)
                    · have h36 := dit h35 c51
                      clear h35
                      exact kJ50  _ _ _ Z (lv_sub hl [0, 1, 2, 3, 4, 5, 6, 7, 8, 9] rfl) h36
                    · have h37 := dif h35 c51
                      clear h35
                      refine lv_iload hx hb dX12_rankWith_175 (lv_at hl 5 rfl) ?_
                      refine lv_aload_n hx hb dX12_rankWith_177 rfl (lv_at hl 0 rfl) ?_
                      refine lv_iload hx hb dX12_rankWith_178 (lv_at hl 9 rfl) ?_
                      refine lv_iconst (v := (0 : Int32)) hx hb dX12_rankWith_180 (by decide) ?_
                      obtain ⟨r53, hc51, h38⟩ := db1_s h37
                      clear h37
                      refine cV_I [.int x39, .int (0 : Int32)] [.int x13] B mx_yX12_at (c_fMM_at l X _ x39 (0 : Int32) σ r53 hc51) kl_RX12_87 mi_yX12_at (rv_33 _ _) hcl_12 Z hl rfl rfl ⟨Nat.le_of_ble_eq_true rfl, Nat.le_of_ble_eq_true rfl⟩ rfl rfl (Nat.le_of_ble_eq_true rfl) dX12_rankWith_181 (fun H locs Z => ?_)
                      clear hc51
                      refine lv_imul hx hb dX12_rankWith_184 ?_
                      refine lv_iload hx hb dX12_rankWith_185 (lv_at hl 6 rfl) ?_
                      refine lv_aload_n hx hb dX12_rankWith_187 rfl (lv_at hl 0 rfl) ?_
                      refine lv_iload hx hb dX12_rankWith_188 (lv_at hl 9 rfl) ?_
                      refine lv_iconst (v := (1 : Int32)) hx hb dX12_rankWith_190 (by decide) ?_
                      obtain ⟨r55, hc53, h39⟩ := db1_s h38
                      clear h38
                      refine cV_I [.int x39, .int (1 : Int32)] [.int x22, .int (x13 * r53)] B mx_yX12_at (c_fMM_at l X _ x39 (1 : Int32) σ r55 hc53) kl_RX12_87 mi_yX12_at (rv_33 _ _) hcl_12 Z hl rfl rfl ⟨Nat.le_of_ble_eq_true rfl, Nat.le_of_ble_eq_true rfl⟩ rfl rfl (Nat.le_of_ble_eq_true rfl) dX12_rankWith_191 (fun H locs Z => ?_)
                      clear hc53
                      refine lv_imul hx hb dX12_rankWith_194 ?_
                      refine lv_iadd hx hb dX12_rankWith_195 ?_
                      refine lv_iload hx hb dX12_rankWith_196 (lv_at hl 7 rfl) ?_
                      refine lv_aload_n hx hb dX12_rankWith_198 rfl (lv_at hl 0 rfl) ?_
                      refine lv_iload hx hb dX12_rankWith_199 (lv_at hl 9 rfl) ?_
                      refine lv_iconst (v := (2 : Int32)) hx hb dX12_rankWith_201 (by decide) ?_
                      obtain ⟨r57, hc55, h40⟩ := db1_s h39
                      clear h39
                      refine cV_I [.int x39, .int (2 : Int32)] [.int x31, .int ((x13 * r53) + (x22 * r55))] B mx_yX12_at (c_fMM_at l X _ x39 (2 : Int32) σ r57 hc55) kl_RX12_87 mi_yX12_at (rv_33 _ _) hcl_12 Z hl rfl rfl ⟨Nat.le_of_ble_eq_true rfl, Nat.le_of_ble_eq_true rfl⟩ rfl rfl (Nat.le_of_ble_eq_true rfl) dX12_rankWith_202 (fun H locs Z => ?_)
                      clear hc55
                      refine lv_imul hx hb dX12_rankWith_205 ?_
                      refine lv_iadd hx hb dX12_rankWith_206 ?_
                      refine lv_if_eq (tgt := 214) hx hb dX12_rankWith_207 (by decide) (fun c58 => ?_) (fun c58 => ?_)
                      · have h41 := dit h40 c58
                        clear h40
                        exact kJ50  _ _ _ Z (lv_sub hl [0, 1, 2, 3, 4, 5, 6, 7, 8, 9] rfl) h41
                      · have h42 := dif h40 c58
                        clear h40
                        refine lv_iconst (v := (1 : Int32)) hx hb dX12_rankWith_210 (by decide) ?_
                        refine lv_goto (tgt := 215) hx hb dX12_rankWith_211 (by decide) ?_
                        exact kJ48 (1 : Int32) _ _ _ Z (lv_sub hl [0, 1, 2, 3, 4, 5, 6, 7, 8, 9] rfl) h42
            exact lL154 FU x36 (0 : Int32) _ _ _ Z (lv_sub hl [2, 3, 4, 1, 5, 6, 7, 8, 9, 0] rfl) h23
          clear eJ37
          obtain ⟨J59, eJ59, h45⟩ := dlt_s h43
          clear h43
          have kJ59 : ∀ (H : Heap) (locs : List Loc) (ls : Array Slot), Wd (wM X) (tM X) (aM X) X s σ H locs → lv_has ls 11 [(0, .ref (X.2.1 33)), (1, .int a1), (2, .int a2), (3, .int x1), (4, .int x2), (5, .int x13), (6, .int x22), (7, .int x31), (8, .int x34)] → J59 () = some rz → W p l e rm_fMM_rankWith s m args below meth c H locs 0 0 (MQ below (va_Qi (fun a u => a = rz ∧ u = σ) (poW (wM X) (tM X) (aM X) X sz) (aA (aM X) sz)) args s 0 0 (aA (aM X) sz)) (F0 m 149 ls []) := by
            intro  H locs ls Z hl h44
            rw [eJ59] at h44
            refine lv_iload_n hx hb dX12_rankWith_149 rfl (lv_at hl 3 rfl) ?_
            exact kJ37 x1 _ _ _ Z (lv_sub hl [0, 1, 2, 4, 5, 6, 7, 8] rfl) h44
          clear eJ59
          refine lv_if_eq (tgt := 149) hx hb dX12_rankWith_137 (by decide) (fun c60 => ?_) (fun c60 => ?_)
          · have h46 := dit h45 c60
            clear h45
            exact kJ59  _ _ _ Z (lv_sub hl [1, 2, 3, 4, 5, 6, 7, 8, 0] rfl) h46
          · have h47 := dif h45 c60
            clear h45
            refine lv_iload_n hx hb dX12_rankWith_140 rfl (lv_at hl 4 rfl) ?_
            refine lv_iconst (v := (2 : Int32)) hx hb dX12_rankWith_141 (by decide) ?_
            refine lv_icmp_ge (tgt := 149) hx hb dX12_rankWith_142 (by decide) (fun c61 => ?_) (fun c61 => ?_)
            · have h48 := dit h47 c61
              clear h47
              exact kJ59  _ _ _ Z (lv_sub hl [1, 2, 3, 4, 5, 6, 7, 8, 0] rfl) h48
            · have h49 := dif h47 c61
              clear h47
              refine lv_iconst (v := (2 : Int32)) hx hb dX12_rankWith_145 (by decide) ?_
              refine lv_goto (tgt := 150) hx hb dX12_rankWith_146 (by decide) ?_
              exact kJ37 (2 : Int32) _ _ _ Z (lv_sub hl [1, 2, 3, 5, 6, 7, 8, 0] rfl) h49
        clear eJ35
        obtain ⟨J62, eJ62, h52⟩ := dlt_s h50
        clear h50
        have kJ62 : ∀ (H : Heap) (locs : List Loc) (ls : Array Slot), Wd (wM X) (tM X) (aM X) X s σ H locs → lv_has ls 11 [(0, .ref (X.2.1 33)), (1, .int a1), (2, .int a2), (3, .int x1), (4, .int x2), (5, .int x13), (6, .int x22), (7, .int x31)] → J62 () = some rz → W p l e rm_fMM_rankWith s m args below meth c H locs 0 0 (MQ below (va_Qi (fun a u => a = rz ∧ u = σ) (poW (wM X) (tM X) (aM X) X sz) (aA (aM X) sz)) args s 0 0 (aA (aM X) sz)) (F0 m 132 ls []) := by
          intro  H locs ls Z hl h51
          rw [eJ62] at h51
          refine lv_iconst (v := (0 : Int32)) hx hb dX12_rankWith_132 (by decide) ?_
          exact kJ35 (0 : Int32) _ _ _ Z (lv_sub hl [0, 1, 2, 3, 4, 5, 6, 7] rfl) h51
        clear eJ62
        refine lv_if_eq (tgt := 132) hx hb dX12_rankWith_110 (by decide) (fun c63 => ?_) (fun c63 => ?_)
        · have h53 := dit h52 c63
          clear h52
          exact kJ62  _ _ _ Z (lv_sub hl [3, 4, 5, 6, 7, 2, 1, 0] rfl) h53
        · have h54 := dif h52 c63
          clear h52
          refine lv_iload hx hb dX12_rankWith_113 (lv_at hl 2 rfl) ?_
          obtain ⟨J64, eJ64, h56⟩ := dlt_s h54
          clear h54
          have kJ64 : ∀ (H : Heap) (locs : List Loc) (ls : Array Slot), Wd (wM X) (tM X) (aM X) X s σ H locs → lv_has ls 11 [(0, .ref (X.2.1 33)), (1, .int a1), (2, .int a2), (3, .int x1), (4, .int x2), (5, .int x13), (6, .int x22), (7, .int x31)] → J64 () = some rz → W p l e rm_fMM_rankWith s m args below meth c H locs 0 0 (MQ below (va_Qi (fun a u => a = rz ∧ u = σ) (poW (wM X) (tM X) (aM X) X sz) (aA (aM X) sz)) args s 0 0 (aA (aM X) sz)) (F0 m 128 ls []) := by
            intro  H locs ls Z hl h55
            rw [eJ64] at h55
            refine lv_iconst (v := (1 : Int32)) hx hb dX12_rankWith_128 (by decide) ?_
            refine lv_goto (tgt := 133) hx hb dX12_rankWith_129 (by decide) ?_
            exact kJ35 (1 : Int32) _ _ _ Z (lv_sub hl [0, 1, 2, 3, 4, 5, 6, 7] rfl) h55
          clear eJ64
          refine lv_if_ne (tgt := 128) hx hb dX12_rankWith_115 (by decide) (fun c65 => ?_) (fun c65 => ?_)
          · have h57 := dif h56 c65
            clear h56
            exact kJ64  _ _ _ Z (lv_sub hl [3, 4, 5, 6, 7, 2, 1, 0] rfl) h57
          · have h58 := dit h56 c65
            clear h56
            refine lv_iload hx hb dX12_rankWith_118 (lv_at hl 1 rfl) ?_
            refine lv_if_ne (tgt := 128) hx hb dX12_rankWith_120 (by decide) (fun c66 => ?_) (fun c66 => ?_)
            · have h59 := dif h58 c66
              clear h58
              exact kJ64  _ _ _ Z (lv_sub hl [3, 4, 5, 6, 7, 2, 1, 0] rfl) h59
            · have h60 := dit h58 c66
              clear h58
              refine lv_iload hx hb dX12_rankWith_123 (lv_at hl 0 rfl) ?_
              refine lv_if_eq (tgt := 132) hx hb dX12_rankWith_125 (by decide) (fun c67 => ?_) (fun c67 => ?_)
              · have h61 := dit h60 c67
                clear h60
                exact kJ62  _ _ _ Z (lv_sub hl [3, 4, 5, 6, 7, 2, 1, 0] rfl) h61
              · have h62 := dif h60 c67
                clear h60
                exact kJ64  _ _ _ Z (lv_sub hl [3, 4, 5, 6, 7, 2, 1, 0] rfl) h62
  exact lL5 FU (1 : Int32) (0 : Int32) _ _ _ Z (lv_sub hl [2, 3, 4, 1, 0] rfl) h0
theorem dX12_rank_0 : decode cX12_rank 0 = .ok (.iconst 0, 1) := by decide +kernel
theorem dX12_rank_1 : decode cX12_rank 1 = .ok (.istore_n 2, 1) := by decide +kernel
theorem dX12_rank_2 : decode cX12_rank 2 = .ok (.iconst 0, 1) := by decide +kernel
theorem dX12_rank_3 : decode cX12_rank 3 = .ok (.istore_n 3, 1) := by decide +kernel
theorem dX12_rank_4 : decode cX12_rank 4 = .ok (.iload_n 3, 1) := by decide +kernel
theorem dX12_rank_5 : decode cX12_rank 5 = .ok (.aload_n 0, 1) := by decide +kernel
theorem dX12_rank_6 : decode cX12_rank 6 = .ok (.getfield 7, 3) := by decide +kernel
theorem dX12_rank_9 : decode cX12_rank 9 = .ok (.iconst 0, 1) := by decide +kernel
theorem dX12_rank_10 : decode cX12_rank 10 = .ok (.iaload, 1) := by decide +kernel
theorem dX12_rank_11 : decode cX12_rank 11 = .ok (.if_icmp .ge 88, 3) := by decide +kernel
theorem dX12_rank_14 : decode cX12_rank 14 = .ok (.aload_n 0, 1) := by decide +kernel
theorem dX12_rank_15 : decode cX12_rank 15 = .ok (.iload_n 3, 1) := by decide +kernel
theorem dX12_rank_16 : decode cX12_rank 16 = .ok (.iconst 0, 1) := by decide +kernel
theorem dX12_rank_17 : decode cX12_rank 17 = .ok (.invokevirtual 87, 3) := by decide +kernel
theorem dX12_rank_20 : decode cX12_rank 20 = .ok (.ifCond .ne 21, 3) := by decide +kernel
theorem dX12_rank_23 : decode cX12_rank 23 = .ok (.aload_n 0, 1) := by decide +kernel
theorem dX12_rank_24 : decode cX12_rank 24 = .ok (.iload_n 3, 1) := by decide +kernel
theorem dX12_rank_25 : decode cX12_rank 25 = .ok (.iconst 1, 1) := by decide +kernel
theorem dX12_rank_26 : decode cX12_rank 26 = .ok (.invokevirtual 87, 3) := by decide +kernel
theorem dX12_rank_29 : decode cX12_rank 29 = .ok (.ifCond .ne 12, 3) := by decide +kernel
theorem dX12_rank_32 : decode cX12_rank 32 = .ok (.aload_n 0, 1) := by decide +kernel
theorem dX12_rank_33 : decode cX12_rank 33 = .ok (.iload_n 3, 1) := by decide +kernel
theorem dX12_rank_34 : decode cX12_rank 34 = .ok (.iconst 2, 1) := by decide +kernel
theorem dX12_rank_35 : decode cX12_rank 35 = .ok (.invokevirtual 87, 3) := by decide +kernel
theorem dX12_rank_38 : decode cX12_rank 38 = .ok (.ifCond .eq 7, 3) := by decide +kernel
theorem dX12_rank_41 : decode cX12_rank 41 = .ok (.iconst 1, 1) := by decide +kernel
theorem dX12_rank_42 : decode cX12_rank 42 = .ok (.goto 4, 3) := by decide +kernel
theorem dX12_rank_45 : decode cX12_rank 45 = .ok (.iconst 0, 1) := by decide +kernel
theorem dX12_rank_46 : decode cX12_rank 46 = .ok (.istore 4, 2) := by decide +kernel
theorem dX12_rank_48 : decode cX12_rank 48 = .ok (.iload_n 1, 1) := by decide +kernel
theorem dX12_rank_49 : decode cX12_rank 49 = .ok (.iload_n 3, 1) := by decide +kernel
theorem dX12_rank_50 : decode cX12_rank 50 = .ok (.invokestatic 95, 3) := by decide +kernel
theorem dX12_rank_53 : decode cX12_rank 53 = .ok (.ifCond .eq 40, 3) := by decide +kernel
theorem dX12_rank_56 : decode cX12_rank 56 = .ok (.iload 4, 2) := by decide +kernel
theorem dX12_rank_58 : decode cX12_rank 58 = .ok (.ifCond .eq 35, 3) := by decide +kernel
theorem dX12_rank_61 : decode cX12_rank 61 = .ok (.iload_n 2, 1) := by decide +kernel
theorem dX12_rank_62 : decode cX12_rank 62 = .ok (.iconst 1, 1) := by decide +kernel
theorem dX12_rank_63 : decode cX12_rank 63 = .ok (.if_icmp .ge 7, 3) := by decide +kernel
theorem dX12_rank_66 : decode cX12_rank 66 = .ok (.iconst 1, 1) := by decide +kernel
theorem dX12_rank_67 : decode cX12_rank 67 = .ok (.goto 4, 3) := by decide +kernel
theorem dX12_rank_70 : decode cX12_rank 70 = .ok (.iload_n 2, 1) := by decide +kernel
theorem dX12_rank_71 : decode cX12_rank 71 = .ok (.istore_n 2, 1) := by decide +kernel
theorem dX12_rank_72 : decode cX12_rank 72 = .ok (.aload_n 0, 1) := by decide +kernel
theorem dX12_rank_73 : decode cX12_rank 73 = .ok (.iload_n 1, 1) := by decide +kernel
theorem dX12_rank_74 : decode cX12_rank 74 = .ok (.iload_n 3, 1) := by decide +kernel
theorem dX12_rank_75 : decode cX12_rank 75 = .ok (.invokevirtual 189, 3) := by decide +kernel
theorem dX12_rank_78 : decode cX12_rank 78 = .ok (.istore 5, 2) := by decide +kernel
theorem dX12_rank_80 : decode cX12_rank 80 = .ok (.iload 5, 2) := by decide +kernel
theorem dX12_rank_82 : decode cX12_rank 82 = .ok (.iload_n 2, 1) := by decide +kernel
theorem dX12_rank_83 : decode cX12_rank 83 = .ok (.if_icmp .le 8, 3) := by decide +kernel
theorem dX12_rank_86 : decode cX12_rank 86 = .ok (.iload 5, 2) := by decide +kernel
theorem dX12_rank_88 : decode cX12_rank 88 = .ok (.goto 4, 3) := by decide +kernel
theorem dX12_rank_91 : decode cX12_rank 91 = .ok (.iload_n 2, 1) := by decide +kernel
theorem dX12_rank_92 : decode cX12_rank 92 = .ok (.istore_n 2, 1) := by decide +kernel
theorem dX12_rank_93 : decode cX12_rank 93 = .ok (.iinc 3 1, 3) := by decide +kernel
theorem dX12_rank_96 : decode cX12_rank 96 = .ok (.goto (-92), 3) := by decide +kernel
theorem dX12_rank_99 : decode cX12_rank 99 = .ok (.iload_n 2, 1) := by decide +kernel
theorem dX12_rank_100 : decode cX12_rank 100 = .ok (.ireturn, 1) := by decide +kernel
def rm_fMM_rank : Room := { frames := 3, cells := 0, slots := 0, locals := 112 }
set_option maxHeartbeats 4000000 in
set_option maxRecDepth 100000 in
theorem c_fMM_rank (l : Launch) (X : eX) (sz : Nat) (a1 : Int32) (σ : sT) (rz : Int32) (h0 : fMM_rank a1 σ = some rz) : ctI l yX12_rank cX12_rank 6 (some .int) rm_fMM_rank [.ref (X.2.1 33), .int a1] (wM X) (tM X) (aM X) X sz σ rz σ := by
  refine ct_of (by decide +kernel) (Nat.le_of_ble_eq_true rfl) ?_
  intro p e s m args below meth c ls hz B hl Z
  have B : Bd p s m args meth c RX12 cX12_rank 6 (some .int) := B
  have hl : lv_has ls 6 [(0, .ref (X.2.1 33)), (1, .int a1)] := hl
  have hx := B.1
  have hb := B.2.1
  unfold fMM_rank at h0
  refine lv_iconst (v := (0 : Int32)) hx hb dX12_rank_0 (by decide) ?_
  refine lv_istore_n (lv' := [(2, .int (0 : Int32)), (0, .ref (X.2.1 33)), (1, .int a1)]) hx hb dX12_rank_1 rfl hl (by decide) rfl (fun ls hl => ?_)
  refine lv_iconst (v := (0 : Int32)) hx hb dX12_rank_2 (by decide) ?_
  refine lv_istore_n (lv' := [(3, .int (0 : Int32)), (2, .int (0 : Int32)), (0, .ref (X.2.1 33)), (1, .int a1)]) hx hb dX12_rank_3 rfl hl (by decide) rfl (fun ls hl => ?_)
  have lL4 : ∀ (n : Nat), ∀ (x1 : Int32) (x2 : Int32) (H : Heap) (locs : List Loc) (ls : Array Slot), Wd (wM X) (tM X) (aM X) X s σ H locs → lv_has ls 6 [(0, .ref (X.2.1 33)), (1, .int a1), (2, .int x1), (3, .int x2)] → fMM_rank_L4 a1 σ n x1 x2 = some rz → W p l e rm_fMM_rank s m args below meth c H locs 0 0 (MQ below (va_Qi (fun a u => a = rz ∧ u = σ) (poW (wM X) (tM X) (aM X) X sz) (aA (aM X) sz)) args s 0 0 (aA (aM X) sz)) (F0 m 4 ls []) := by
    intro n
    induction n with
    | zero =>
      intro x1 x2 H locs ls Z hl h
      exact nomatch (show (none : Option (Int32)) = some _ from h)
    | succ n3 ih4 =>
      intro x1 x2 H locs ls Z hl h1
      unfold fMM_rank_L4 at h1
      refine lv_iload_n hx hb dX12_rank_4 rfl (lv_at hl 3 rfl) ?_
      refine lv_aload_n hx hb dX12_rank_5 rfl (lv_at hl 0 rfl) ?_
      refine g_33_0 B Z kf_RX12_7 dX12_rank_6 ?_
      refine lv_iconst (v := (0 : Int32)) hx hb dX12_rank_9 (by decide) ?_
      obtain ⟨z4, h2⟩ := dck_s h1
      clear h1
      refine ld_34 B Z z4 dX12_rank_10 ?_
      refine lv_icmp_ge (tgt := 99) hx hb dX12_rank_11 (by decide) (fun c5 => ?_) (fun c5 => ?_)
      · have h3 := dit h2 c5
        clear h2
        refine lv_iload_n hx hb dX12_rank_99 rfl (lv_at hl 2 rfl) ?_
        exact reI B Z rfl hz (congrArg (Option.map (fun q => (q, σ))) h3) dX12_rank_100
      · have h4 := dif h2 c5
        clear h2
        refine lv_aload_n hx hb dX12_rank_14 rfl (lv_at hl 0 rfl) ?_
        refine lv_iload_n hx hb dX12_rank_15 rfl (lv_at hl 3 rfl) ?_
        refine lv_iconst (v := (0 : Int32)) hx hb dX12_rank_16 (by decide) ?_
        obtain ⟨r7, hc5, h5⟩ := db1_s h4
        clear h4
        refine cV_I [.int x2, .int (0 : Int32)] [] B mx_yX12_at (c_fMM_at l X _ x2 (0 : Int32) σ r7 hc5) kl_RX12_87 mi_yX12_at (rv_33 _ _) hcl_12 Z hl rfl rfl ⟨Nat.le_of_ble_eq_true rfl, Nat.le_of_ble_eq_true rfl⟩ rfl rfl (Nat.le_of_ble_eq_true rfl) dX12_rank_17 (fun H locs Z => ?_)
        clear hc5
        obtain ⟨J9, eJ9, h19⟩ := dlt_s h5
        clear h5
        have kJ9 : ∀ (x8 : Int32) (H : Heap) (locs : List Loc) (ls : Array Slot), Wd (wM X) (tM X) (aM X) X s σ H locs → lv_has ls 6 [(0, .ref (X.2.1 33)), (1, .int a1), (2, .int x1), (3, .int x2)] → J9 x8 = some rz → W p l e rm_fMM_rank s m args below meth c H locs 0 0 (MQ below (va_Qi (fun a u => a = rz ∧ u = σ) (poW (wM X) (tM X) (aM X) X sz) (aA (aM X) sz)) args s 0 0 (aA (aM X) sz)) (F0 m 46 ls [.int x8]) := by
          intro x8 H locs ls Z hl h6
          rw [eJ9] at h6
          refine lv_istore (lv' := [(4, .int x8), (0, .ref (X.2.1 33)), (1, .int a1), (2, .int x1), (3, .int x2)]) hx hb dX12_rank_46 hl (by decide) rfl (fun ls hl => ?_)
          refine lv_iload_n hx hb dX12_rank_48 rfl (lv_at hl 2 rfl) ?_
          refine lv_iload_n hx hb dX12_rank_49 rfl (lv_at hl 4 rfl) ?_
          obtain ⟨r11, hc9, h7⟩ := db1_s h6
          clear h6
          refine cS_I [.int a1, .int x2] [] B mx_yX12_has (c_fMM_has l X _ a1 x2 σ r11 hc9) kl_RX12_95 ks_yX12_has Z hl rfl rfl ⟨Nat.le_of_ble_eq_true rfl, Nat.le_of_ble_eq_true rfl⟩ rfl rfl (Nat.le_of_ble_eq_true rfl) dX12_rank_50 (fun H locs Z => ?_)
          clear hc9
          refine lv_if_eq (tgt := 93) hx hb dX12_rank_53 (by decide) (fun c12 => ?_) (fun c12 => ?_)
          · have h8 := dit h7 c12
            clear h7
            refine lv_iinc (v := x2 + (1 : Int32)) (lv' := [(3, .int (x2 + (1 : Int32))), (4, .int x8), (0, .ref (X.2.1 33)), (1, .int a1), (2, .int x1)]) hx hb dX12_rank_93 hl (k := 4) rfl (by rfl) (by decide) rfl (fun ls hl => ?_)
            refine lv_goto (tgt := 4) hx hb dX12_rank_96 (by decide) ?_
            exact ih4 x1 (x2 + (1 : Int32)) _ _ _ Z (lv_sub hl [2, 3, 4, 0] rfl) h8
          · have h9 := dif h7 c12
            clear h7
            refine lv_iload hx hb dX12_rank_56 (lv_at hl 0 rfl) ?_
            refine lv_if_eq (tgt := 93) hx hb dX12_rank_58 (by decide) (fun c13 => ?_) (fun c13 => ?_)
            · have h10 := dit h9 c13
              clear h9
              refine lv_iinc (v := x2 + (1 : Int32)) (lv' := [(3, .int (x2 + (1 : Int32))), (4, .int x8), (0, .ref (X.2.1 33)), (1, .int a1), (2, .int x1)]) hx hb dX12_rank_93 hl (k := 4) rfl (by rfl) (by decide) rfl (fun ls hl => ?_)
              refine lv_goto (tgt := 4) hx hb dX12_rank_96 (by decide) ?_
              exact ih4 x1 (x2 + (1 : Int32)) _ _ _ Z (lv_sub hl [2, 3, 4, 0] rfl) h10
            · have h11 := dif h9 c13
              clear h9
              refine lv_iload_n hx hb dX12_rank_61 rfl (lv_at hl 3 rfl) ?_
              refine lv_iconst (v := (1 : Int32)) hx hb dX12_rank_62 (by decide) ?_
              obtain ⟨J15, eJ15, h16⟩ := dlt_s h11
              clear h11
              have kJ15 : ∀ (x14 : Int32) (H : Heap) (locs : List Loc) (ls : Array Slot), Wd (wM X) (tM X) (aM X) X s σ H locs → lv_has ls 6 [(0, .ref (X.2.1 33)), (1, .int a1), (3, .int x2)] → J15 x14 = some rz → W p l e rm_fMM_rank s m args below meth c H locs 0 0 (MQ below (va_Qi (fun a u => a = rz ∧ u = σ) (poW (wM X) (tM X) (aM X) X sz) (aA (aM X) sz)) args s 0 0 (aA (aM X) sz)) (F0 m 71 ls [.int x14]) := by
                intro x14 H locs ls Z hl h12
                rw [eJ15] at h12
                refine lv_istore_n (lv' := [(2, .int x14), (0, .ref (X.2.1 33)), (1, .int a1), (3, .int x2)]) hx hb dX12_rank_71 rfl hl (by decide) rfl (fun ls hl => ?_)
                refine lv_aload_n hx hb dX12_rank_72 rfl (lv_at hl 1 rfl) ?_
                refine lv_iload_n hx hb dX12_rank_73 rfl (lv_at hl 2 rfl) ?_
                refine lv_iload_n hx hb dX12_rank_74 rfl (lv_at hl 3 rfl) ?_
                obtain ⟨r17, hc15, h13⟩ := db1_s h12
                clear h12
                refine cV_I [.int a1, .int x2] [] B mx_yX12_rankWith (c_fMM_rankWith l X _ a1 x2 σ r17 hc15) kl_RX12_189 mi_yX12_rankWith (rv_33 _ _) hcl_12 Z hl rfl rfl ⟨Nat.le_of_ble_eq_true rfl, Nat.le_of_ble_eq_true rfl⟩ rfl rfl (Nat.le_of_ble_eq_true rfl) dX12_rank_75 (fun H locs Z => ?_)
                clear hc15
                refine lv_istore (lv' := [(5, .int r17), (2, .int x14), (0, .ref (X.2.1 33)), (1, .int a1), (3, .int x2)]) hx hb dX12_rank_78 hl (by decide) rfl (fun ls hl => ?_)
                refine lv_iload hx hb dX12_rank_80 (lv_at hl 0 rfl) ?_
                refine lv_iload_n hx hb dX12_rank_82 rfl (lv_at hl 1 rfl) ?_
                refine lv_icmp_le (tgt := 91) hx hb dX12_rank_83 (by decide) (fun c18 => ?_) (fun c18 => ?_)
                · have h14 := dit h13 c18
                  clear h13
                  refine lv_iload_n hx hb dX12_rank_91 rfl (lv_at hl 1 rfl) ?_
                  refine lv_istore_n (lv' := [(2, .int x14), (5, .int r17), (0, .ref (X.2.1 33)), (1, .int a1), (3, .int x2)]) hx hb dX12_rank_92 rfl hl (by decide) rfl (fun ls hl => ?_)
                  refine lv_iinc (v := x2 + (1 : Int32)) (lv' := [(3, .int (x2 + (1 : Int32))), (2, .int x14), (5, .int r17), (0, .ref (X.2.1 33)), (1, .int a1)]) hx hb dX12_rank_93 hl (k := 4) rfl (by rfl) (by decide) rfl (fun ls hl => ?_)
                  refine lv_goto (tgt := 4) hx hb dX12_rank_96 (by decide) ?_
                  exact ih4 x14 (x2 + (1 : Int32)) _ _ _ Z (lv_sub hl [3, 4, 1, 0] rfl) h14
                · have h15 := dif h13 c18
                  clear h13
                  refine lv_iload hx hb dX12_rank_86 (lv_at hl 0 rfl) ?_
                  refine lv_goto (tgt := 92) hx hb dX12_rank_88 (by decide) ?_
                  refine lv_istore_n (lv' := [(2, .int r17), (5, .int r17), (0, .ref (X.2.1 33)), (1, .int a1), (3, .int x2)]) hx hb dX12_rank_92 rfl hl (by decide) rfl (fun ls hl => ?_)
                  refine lv_iinc (v := x2 + (1 : Int32)) (lv' := [(3, .int (x2 + (1 : Int32))), (2, .int r17), (5, .int r17), (0, .ref (X.2.1 33)), (1, .int a1)]) hx hb dX12_rank_93 hl (k := 4) rfl (by rfl) (by decide) rfl (fun ls hl => ?_)
                  refine lv_goto (tgt := 4) hx hb dX12_rank_96 (by decide) ?_
                  exact ih4 r17 (x2 + (1 : Int32)) _ _ _ Z (lv_sub hl [3, 4, 1, 0] rfl) h15
              clear eJ15
              refine lv_icmp_ge (tgt := 70) hx hb dX12_rank_63 (by decide) (fun c19 => ?_) (fun c19 => ?_)
              · have h17 := dit h16 c19
                clear h16
                refine lv_iload_n hx hb dX12_rank_70 rfl (lv_at hl 3 rfl) ?_
                exact kJ15 x1 _ _ _ Z (lv_sub hl [1, 2, 4] rfl) h17
              · have h18 := dif h16 c19
                clear h16
                refine lv_iconst (v := (1 : Int32)) hx hb dX12_rank_66 (by decide) ?_
                refine lv_goto (tgt := 71) hx hb dX12_rank_67 (by decide) ?_
                exact kJ15 (1 : Int32) _ _ _ Z (lv_sub hl [1, 2, 4] rfl) h18
        clear eJ9
        obtain ⟨J20, eJ20, h21⟩ := dlt_s h19
        clear h19
        have kJ20 : ∀ (H : Heap) (locs : List Loc) (ls : Array Slot), Wd (wM X) (tM X) (aM X) X s σ H locs → lv_has ls 6 [(0, .ref (X.2.1 33)), (1, .int a1), (2, .int x1), (3, .int x2)] → J20 () = some rz → W p l e rm_fMM_rank s m args below meth c H locs 0 0 (MQ below (va_Qi (fun a u => a = rz ∧ u = σ) (poW (wM X) (tM X) (aM X) X sz) (aA (aM X) sz)) args s 0 0 (aA (aM X) sz)) (F0 m 41 ls []) := by
          intro  H locs ls Z hl h20
          rw [eJ20] at h20
          refine lv_iconst (v := (1 : Int32)) hx hb dX12_rank_41 (by decide) ?_
          refine lv_goto (tgt := 46) hx hb dX12_rank_42 (by decide) ?_
          exact kJ9 (1 : Int32) _ _ _ Z (lv_sub hl [0, 1, 2, 3] rfl) h20
        clear eJ20
        refine lv_if_ne (tgt := 41) hx hb dX12_rank_20 (by decide) (fun c21 => ?_) (fun c21 => ?_)
        · have h22 := dif h21 c21
          clear h21
          exact kJ20  _ _ _ Z (lv_sub hl [0, 1, 2, 3] rfl) h22
        · have h23 := dit h21 c21
          clear h21
          refine lv_aload_n hx hb dX12_rank_23 rfl (lv_at hl 0 rfl) ?_
          refine lv_iload_n hx hb dX12_rank_24 rfl (lv_at hl 3 rfl) ?_
          refine lv_iconst (v := (1 : Int32)) hx hb dX12_rank_25 (by decide) ?_
          obtain ⟨r23, hc21, h24⟩ := db1_s h23
          clear h23
          refine cV_I [.int x2, .int (1 : Int32)] [] B mx_yX12_at (c_fMM_at l X _ x2 (1 : Int32) σ r23 hc21) kl_RX12_87 mi_yX12_at (rv_33 _ _) hcl_12 Z hl rfl rfl ⟨Nat.le_of_ble_eq_true rfl, Nat.le_of_ble_eq_true rfl⟩ rfl rfl (Nat.le_of_ble_eq_true rfl) dX12_rank_26 (fun H locs Z => ?_)
          clear hc21
          refine lv_if_ne (tgt := 41) hx hb dX12_rank_29 (by decide) (fun c24 => ?_) (fun c24 => ?_)
          · have h25 := dif h24 c24
            clear h24
            exact kJ20  _ _ _ Z (lv_sub hl [0, 1, 2, 3] rfl) h25
          · have h26 := dit h24 c24
            clear h24
            refine lv_aload_n hx hb dX12_rank_32 rfl (lv_at hl 0 rfl) ?_
            refine lv_iload_n hx hb dX12_rank_33 rfl (lv_at hl 3 rfl) ?_
            refine lv_iconst (v := (2 : Int32)) hx hb dX12_rank_34 (by decide) ?_
            obtain ⟨r26, hc24, h27⟩ := db1_s h26
            clear h26
            refine cV_I [.int x2, .int (2 : Int32)] [] B mx_yX12_at (c_fMM_at l X _ x2 (2 : Int32) σ r26 hc24) kl_RX12_87 mi_yX12_at (rv_33 _ _) hcl_12 Z hl rfl rfl ⟨Nat.le_of_ble_eq_true rfl, Nat.le_of_ble_eq_true rfl⟩ rfl rfl (Nat.le_of_ble_eq_true rfl) dX12_rank_35 (fun H locs Z => ?_)
            clear hc24
            refine lv_if_eq (tgt := 45) hx hb dX12_rank_38 (by decide) (fun c27 => ?_) (fun c27 => ?_)
            · have h28 := dit h27 c27
              clear h27
              refine lv_iconst (v := (0 : Int32)) hx hb dX12_rank_45 (by decide) ?_
              exact kJ9 (0 : Int32) _ _ _ Z (lv_sub hl [0, 1, 2, 3] rfl) h28
            · have h29 := dif h27 c27
              clear h27
              exact kJ20  _ _ _ Z (lv_sub hl [0, 1, 2, 3] rfl) h29
  exact lL4 FU (0 : Int32) (0 : Int32) _ _ _ Z (lv_sub hl [2, 3, 1, 0] rfl) h0
theorem dX12_dimensionOf_0 : decode cX12_dimensionOf 0 = .ok (.iconst 3, 1) := by decide +kernel
theorem dX12_dimensionOf_1 : decode cX12_dimensionOf 1 = .ok (.aload_n 0, 1) := by decide +kernel
theorem dX12_dimensionOf_2 : decode cX12_dimensionOf 2 = .ok (.aload_n 0, 1) := by decide +kernel
theorem dX12_dimensionOf_3 : decode cX12_dimensionOf 3 = .ok (.iload_n 1, 1) := by decide +kernel
theorem dX12_dimensionOf_4 : decode cX12_dimensionOf 4 = .ok (.invokevirtual 192, 3) := by decide +kernel
theorem dX12_dimensionOf_7 : decode cX12_dimensionOf 7 = .ok (.invokevirtual 195, 3) := by decide +kernel
theorem dX12_dimensionOf_10 : decode cX12_dimensionOf 10 = .ok (.isub, 1) := by decide +kernel
theorem dX12_dimensionOf_11 : decode cX12_dimensionOf 11 = .ok (.ireturn, 1) := by decide +kernel
def rm_fMM_dimensionOf : Room := { frames := 6, cells := 0, slots := 0, locals := 191 }
set_option maxHeartbeats 4000000 in
set_option maxRecDepth 100000 in
theorem c_fMM_dimensionOf (l : Launch) (X : eX) (sz : Nat) (a1 : Int32) (σ : sT) (rz : Int32) (σz : sT) (h0 : fMM_dimensionOf a1 σ = some (rz, σz)) : ctI l yX12_dimensionOf cX12_dimensionOf 2 (some .int) rm_fMM_dimensionOf [.ref (X.2.1 33), .int a1] (wM X) (tM X) (aM X) X sz σ rz σz := by
  refine ct_of (by decide +kernel) (Nat.le_of_ble_eq_true rfl) ?_
  intro p e s m args below meth c ls hz B hl Z
  have B : Bd p s m args meth c RX12 cX12_dimensionOf 2 (some .int) := B
  have hl : lv_has ls 2 [(0, .ref (X.2.1 33)), (1, .int a1)] := hl
  have hx := B.1
  have hb := B.2.1
  unfold fMM_dimensionOf at h0
  refine lv_iconst (v := (3 : Int32)) hx hb dX12_dimensionOf_0 (by decide) ?_
  refine lv_aload_n hx hb dX12_dimensionOf_1 rfl (lv_at hl 0 rfl) ?_
  refine lv_aload_n hx hb dX12_dimensionOf_2 rfl (lv_at hl 0 rfl) ?_
  refine lv_iload_n hx hb dX12_dimensionOf_3 rfl (lv_at hl 1 rfl) ?_
  obtain ⟨r2, σ3, hc0, h1⟩ := db2_s h0
  clear h0
  refine cV_I [.int a1] [.ref (X.2.1 33), .int (3 : Int32)] B mx_yX12_fixed (c_fMM_fixed l X _ a1 σ r2 σ3 hc0) kl_RX12_192 mi_yX12_fixed (rv_33 _ _) hcl_12 Z hl rfl rfl ⟨Nat.le_of_ble_eq_true rfl, Nat.le_of_ble_eq_true rfl⟩ rfl rfl (Nat.le_of_ble_eq_true rfl) dX12_dimensionOf_4 (fun H locs Z => ?_)
  clear hc0
  obtain ⟨r5, hc3, h2⟩ := db1_s h1
  clear h1
  refine cV_I [.int r2] [.int (3 : Int32)] B mx_yX12_rank (c_fMM_rank l X _ r2 σ3 r5 hc3) kl_RX12_195 mi_yX12_rank (rv_33 _ _) hcl_12 Z hl rfl rfl ⟨Nat.le_of_ble_eq_true rfl, Nat.le_of_ble_eq_true rfl⟩ rfl rfl (Nat.le_of_ble_eq_true rfl) dX12_dimensionOf_7 (fun H locs Z => ?_)
  clear hc3
  refine lv_isub hx hb dX12_dimensionOf_10 ?_
  exact reI B Z rfl hz h2 dX12_dimensionOf_11
theorem dX12_dimension_0 : decode cX12_dimension 0 = .ok (.aload_n 0, 1) := by decide +kernel
theorem dX12_dimension_1 : decode cX12_dimension 1 = .ok (.iload_n 1, 1) := by decide +kernel
theorem dX12_dimension_2 : decode cX12_dimension 2 = .ok (.invokevirtual 183, 3) := by decide +kernel
theorem dX12_dimension_5 : decode cX12_dimension 5 = .ok (.ifCond .ne 10, 3) := by decide +kernel
theorem dX12_dimension_8 : decode cX12_dimension 8 = .ok (.aload_n 0, 1) := by decide +kernel
theorem dX12_dimension_9 : decode cX12_dimension 9 = .ok (.ldc 63, 2) := by decide +kernel
theorem dX12_dimension_11 : decode cX12_dimension 11 = .ok (.invokevirtual 168, 3) := by decide +kernel
theorem dX12_dimension_14 : decode cX12_dimension 14 = .ok (.ireturn, 1) := by decide +kernel
theorem dX12_dimension_15 : decode cX12_dimension 15 = .ok (.aload_n 0, 1) := by decide +kernel
theorem dX12_dimension_16 : decode cX12_dimension 16 = .ok (.iload_n 1, 1) := by decide +kernel
theorem dX12_dimension_17 : decode cX12_dimension 17 = .ok (.invokevirtual 186, 3) := by decide +kernel
theorem dX12_dimension_20 : decode cX12_dimension 20 = .ok (.ifCond .eq 11, 3) := by decide +kernel
theorem dX12_dimension_23 : decode cX12_dimension 23 = .ok (.aload_n 0, 1) := by decide +kernel
theorem dX12_dimension_24 : decode cX12_dimension 24 = .ok (.iload_n 1, 1) := by decide +kernel
theorem dX12_dimension_25 : decode cX12_dimension 25 = .ok (.invokevirtual 198, 3) := by decide +kernel
theorem dX12_dimension_28 : decode cX12_dimension 28 = .ok (.goto 9, 3) := by decide +kernel
theorem dX12_dimension_31 : decode cX12_dimension 31 = .ok (.aload_n 0, 1) := by decide +kernel
theorem dX12_dimension_32 : decode cX12_dimension 32 = .ok (.ldc 201, 2) := by decide +kernel
theorem dX12_dimension_34 : decode cX12_dimension 34 = .ok (.invokevirtual 168, 3) := by decide +kernel
theorem dX12_dimension_37 : decode cX12_dimension 37 = .ok (.ireturn, 1) := by decide +kernel
def rm_fMM_dimension : Room := { frames := 7, cells := 0, slots := 0, locals := 212 }
set_option maxHeartbeats 4000000 in
set_option maxRecDepth 100000 in
theorem c_fMM_dimension (l : Launch) (X : eX) (sz : Nat) (a1 : Int32) (σ : sT) (rz : Int32) (σz : sT) (h0 : fMM_dimension a1 σ = some (rz, σz)) : ctI l yX12_dimension cX12_dimension 2 (some .int) rm_fMM_dimension [.ref (X.2.1 33), .int a1] (wM X) (tM X) (aM X) X sz σ rz σz := by
  refine ct_of (by decide +kernel) (Nat.le_of_ble_eq_true rfl) ?_
  intro p e s m args below meth c ls hz B hl Z
  have B : Bd p s m args meth c RX12 cX12_dimension 2 (some .int) := B
  have hl : lv_has ls 2 [(0, .ref (X.2.1 33)), (1, .int a1)] := hl
  have hx := B.1
  have hb := B.2.1
  unfold fMM_dimension at h0
  refine lv_aload_n hx hb dX12_dimension_0 rfl (lv_at hl 0 rfl) ?_
  refine lv_iload_n hx hb dX12_dimension_1 rfl (lv_at hl 1 rfl) ?_
  obtain ⟨r2, hc0, h1⟩ := db1_s h0
  clear h0
  refine cV_I [.int a1] [] B mx_yX12_isSet (c_fMM_isSet l X _ a1 σ r2 hc0) kl_RX12_183 mi_yX12_isSet (rv_33 _ _) hcl_12 Z hl rfl rfl ⟨Nat.le_of_ble_eq_true rfl, Nat.le_of_ble_eq_true rfl⟩ rfl rfl (Nat.le_of_ble_eq_true rfl) dX12_dimension_2 (fun H locs Z => ?_)
  clear hc0
  refine lv_if_ne (tgt := 15) hx hb dX12_dimension_5 (by decide) (fun c3 => ?_) (fun c3 => ?_)
  · have h2 := dif h1 c3
    clear h1
    refine lv_aload_n hx hb dX12_dimension_15 rfl (lv_at hl 0 rfl) ?_
    refine lv_iload_n hx hb dX12_dimension_16 rfl (lv_at hl 1 rfl) ?_
    obtain ⟨r5, σ6, hc3, h3⟩ := db2_s h2
    clear h2
    refine cV_I [.int a1] [] B mx_yX12_canSet (c_fMM_canSet l X _ a1 σ r5 σ6 hc3) kl_RX12_186 mi_yX12_canSet (rv_33 _ _) hcl_12 Z hl rfl rfl ⟨Nat.le_of_ble_eq_true rfl, Nat.le_of_ble_eq_true rfl⟩ rfl rfl (Nat.le_of_ble_eq_true rfl) dX12_dimension_17 (fun H locs Z => ?_)
    clear hc3
    refine lv_if_eq (tgt := 31) hx hb dX12_dimension_20 (by decide) (fun c7 => ?_) (fun c7 => ?_)
    · have h4 := dit h3 c7
      clear h3
      refine lv_aload_n hx hb dX12_dimension_31 rfl (lv_at hl 0 rfl) ?_
      refine lv_ldc hx hb B.2.2.2.1 (B.2.2.2.2.1 _ kc_RX12_201) dX12_dimension_32 ?_
      obtain ⟨r9, σ10, hc7, h5⟩ := db2_s h4
      clear h4
      refine cV_I [.int (-1000003 : Int32)] [] B mx_yX12_refuses (c_fMM_refuses l X _ (-1000003 : Int32) σ6 r9 σ10 hc7) kl_RX12_168 mi_yX12_refuses (rv_33 _ _) hcl_12 Z hl rfl rfl ⟨Nat.le_of_ble_eq_true rfl, Nat.le_of_ble_eq_true rfl⟩ rfl rfl (Nat.le_of_ble_eq_true rfl) dX12_dimension_34 (fun H locs Z => ?_)
      clear hc7
      exact reI B Z rfl hz h5 dX12_dimension_37
    · have h6 := dif h3 c7
      clear h3
      refine lv_aload_n hx hb dX12_dimension_23 rfl (lv_at hl 0 rfl) ?_
      refine lv_iload_n hx hb dX12_dimension_24 rfl (lv_at hl 1 rfl) ?_
      obtain ⟨r12, σ13, hc10, h7⟩ := db2_s h6
      clear h6
      refine cV_I [.int a1] [] B mx_yX12_dimensionOf (c_fMM_dimensionOf l X _ a1 σ6 r12 σ13 hc10) kl_RX12_198 mi_yX12_dimensionOf (rv_33 _ _) hcl_12 Z hl rfl rfl ⟨Nat.le_of_ble_eq_true rfl, Nat.le_of_ble_eq_true rfl⟩ rfl rfl (Nat.le_of_ble_eq_true rfl) dX12_dimension_25 (fun H locs Z => ?_)
      clear hc10
      refine lv_goto (tgt := 37) hx hb dX12_dimension_28 (by decide) ?_
      exact reI B Z rfl hz h7 dX12_dimension_37
  · have h8 := dit h1 c3
    clear h1
    refine lv_aload_n hx hb dX12_dimension_8 rfl (lv_at hl 0 rfl) ?_
    refine lv_ldc hx hb B.2.2.2.1 (B.2.2.2.2.1 _ kc_RX12_63) dX12_dimension_9 ?_
    obtain ⟨r15, σ16, hc13, h9⟩ := db2_s h8
    clear h8
    refine cV_I [.int (-1000002 : Int32)] [] B mx_yX12_refuses (c_fMM_refuses l X _ (-1000002 : Int32) σ r15 σ16 hc13) kl_RX12_168 mi_yX12_refuses (rv_33 _ _) hcl_12 Z hl rfl rfl ⟨Nat.le_of_ble_eq_true rfl, Nat.le_of_ble_eq_true rfl⟩ rfl rfl (Nat.le_of_ble_eq_true rfl) dX12_dimension_11 (fun H locs Z => ?_)
    clear hc13
    exact reI B Z rfl hz h9 dX12_dimension_14
theorem dX12_size_0 : decode cX12_size 0 = .ok (.lload_n 0, 1) := by decide +kernel
theorem dX12_size_1 : decode cX12_size 1 = .ok (.lconst 0, 1) := by decide +kernel
theorem dX12_size_2 : decode cX12_size 2 = .ok (.lcmp, 1) := by decide +kernel
theorem dX12_size_3 : decode cX12_size 3 = .ok (.ifCond .ge 8, 3) := by decide +kernel
theorem dX12_size_6 : decode cX12_size 6 = .ok (.lload_n 0, 1) := by decide +kernel
theorem dX12_size_7 : decode cX12_size 7 = .ok (.lneg, 1) := by decide +kernel
theorem dX12_size_8 : decode cX12_size 8 = .ok (.goto 4, 3) := by decide +kernel
theorem dX12_size_11 : decode cX12_size 11 = .ok (.lload_n 0, 1) := by decide +kernel
theorem dX12_size_12 : decode cX12_size 12 = .ok (.lreturn, 1) := by decide +kernel
def rm_fMM_size : Room := { frames := 1, cells := 0, slots := 0, locals := 60 }
set_option maxHeartbeats 4000000 in
set_option maxRecDepth 100000 in
theorem c_fMM_size (l : Launch) (X : eX) (sz : Nat) (a1 : Int64) (σ : sT) (rz : Int64) (h0 : fMM_size a1 = some rz) : ctL l yX12_size cX12_size 2 (some .long) rm_fMM_size [.long a1] (wM X) (tM X) (aM X) X sz σ rz σ := by
  refine ct_of (by decide +kernel) (Nat.le_of_ble_eq_true rfl) ?_
  intro p e s m args below meth c ls hz B hl Z
  have B : Bd p s m args meth c RX12 cX12_size 2 (some .long) := B
  have hl : lv_has ls 2 [(0, .long a1)] := hl
  have hx := B.1
  have hb := B.2.1
  unfold fMM_size at h0
  refine lv_lload_n hx hb dX12_size_0 rfl (lv_at hl 0 rfl) ?_
  refine lv_lconst (v := (0 : Int64)) hx hb dX12_size_1 (by decide) ?_
  refine W.lcmp hx hb dX12_size_2 ?_
  refine lv_if_ge (tgt := 11) hx hb dX12_size_3 (by decide) (fun c1 => ?_) (fun c1 => ?_)
  · have h1 := dit h0 c1
    clear h0
    refine lv_lload_n hx hb dX12_size_11 rfl (lv_at hl 0 rfl) ?_
    exact reL B Z hz (congrArg (Option.map (fun q => (q, σ))) h1) dX12_size_12
  · have h2 := dif h0 c1
    clear h0
    refine lv_lload_n hx hb dX12_size_6 rfl (lv_at hl 0 rfl) ?_
    refine lv_lneg hx hb dX12_size_7 ?_
    refine lv_goto (tgt := 12) hx hb dX12_size_8 (by decide) ?_
    exact reL B Z hz (congrArg (Option.map (fun q => (q, σ))) h2) dX12_size_12
theorem dX12_divisor_0 : decode cX12_divisor 0 = .ok (.lload_n 0, 1) := by decide +kernel
theorem dX12_divisor_1 : decode cX12_divisor 1 = .ok (.invokestatic 76, 3) := by decide +kernel
theorem dX12_divisor_4 : decode cX12_divisor 4 = .ok (.lstore 4, 2) := by decide +kernel
theorem dX12_divisor_6 : decode cX12_divisor 6 = .ok (.lload_n 2, 1) := by decide +kernel
theorem dX12_divisor_7 : decode cX12_divisor 7 = .ok (.invokestatic 76, 3) := by decide +kernel
theorem dX12_divisor_10 : decode cX12_divisor 10 = .ok (.lstore 6, 2) := by decide +kernel
theorem dX12_divisor_12 : decode cX12_divisor 12 = .ok (.lload 6, 2) := by decide +kernel
theorem dX12_divisor_14 : decode cX12_divisor 14 = .ok (.lconst 0, 1) := by decide +kernel
theorem dX12_divisor_15 : decode cX12_divisor 15 = .ok (.lcmp, 1) := by decide +kernel
theorem dX12_divisor_16 : decode cX12_divisor 16 = .ok (.ifCond .eq 21, 3) := by decide +kernel
theorem dX12_divisor_19 : decode cX12_divisor 19 = .ok (.lload 4, 2) := by decide +kernel
theorem dX12_divisor_21 : decode cX12_divisor 21 = .ok (.lload 6, 2) := by decide +kernel
theorem dX12_divisor_23 : decode cX12_divisor 23 = .ok (.lrem, 1) := by decide +kernel
theorem dX12_divisor_24 : decode cX12_divisor 24 = .ok (.lstore 8, 2) := by decide +kernel
theorem dX12_divisor_26 : decode cX12_divisor 26 = .ok (.lload 6, 2) := by decide +kernel
theorem dX12_divisor_28 : decode cX12_divisor 28 = .ok (.lstore 4, 2) := by decide +kernel
theorem dX12_divisor_30 : decode cX12_divisor 30 = .ok (.lload 8, 2) := by decide +kernel
theorem dX12_divisor_32 : decode cX12_divisor 32 = .ok (.lstore 6, 2) := by decide +kernel
theorem dX12_divisor_34 : decode cX12_divisor 34 = .ok (.goto (-22), 3) := by decide +kernel
theorem dX12_divisor_37 : decode cX12_divisor 37 = .ok (.lload 4, 2) := by decide +kernel
theorem dX12_divisor_39 : decode cX12_divisor 39 = .ok (.lreturn, 1) := by decide +kernel
def rm_fMM_divisor : Room := { frames := 2, cells := 0, slots := 0, locals := 81 }
set_option maxHeartbeats 4000000 in
set_option maxRecDepth 100000 in
theorem c_fMM_divisor (l : Launch) (X : eX) (sz : Nat) (a1 : Int64) (a2 : Int64) (σ : sT) (rz : Int64) (h0 : fMM_divisor a1 a2 = some rz) : ctL l yX12_divisor cX12_divisor 10 (some .long) rm_fMM_divisor [.long a1, .long a2] (wM X) (tM X) (aM X) X sz σ rz σ := by
  refine ct_of (by decide +kernel) (Nat.le_of_ble_eq_true rfl) ?_
  intro p e s m args below meth c ls hz B hl Z
  have B : Bd p s m args meth c RX12 cX12_divisor 10 (some .long) := B
  have hl : lv_has ls 10 [(0, .long a1), (2, .long a2)] := hl
  have hx := B.1
  have hb := B.2.1
  unfold fMM_divisor at h0
  refine lv_lload_n hx hb dX12_divisor_0 rfl (lv_at hl 0 rfl) ?_
  obtain ⟨r2, hc0, h1⟩ := db1_s h0
  clear h0
  refine cS_L [.long a1] [] B mx_yX12_size (c_fMM_size l X _ a1 σ r2 hc0) kl_RX12_76 ks_yX12_size Z hl rfl rfl ⟨Nat.le_of_ble_eq_true rfl, Nat.le_of_ble_eq_true rfl⟩ rfl rfl (Nat.le_of_ble_eq_true rfl) dX12_divisor_1 (fun H locs Z => ?_)
  clear hc0
  refine lv_lstore (lv' := [(4, .long r2), (0, .long a1), (2, .long a2)]) hx hb dX12_divisor_4 hl (by decide) rfl (fun ls hl => ?_)
  refine lv_lload_n hx hb dX12_divisor_6 rfl (lv_at hl 2 rfl) ?_
  obtain ⟨r4, hc2, h2⟩ := db1_s h1
  clear h1
  refine cS_L [.long a2] [] B mx_yX12_size (c_fMM_size l X _ a2 σ r4 hc2) kl_RX12_76 ks_yX12_size Z hl rfl rfl ⟨Nat.le_of_ble_eq_true rfl, Nat.le_of_ble_eq_true rfl⟩ rfl rfl (Nat.le_of_ble_eq_true rfl) dX12_divisor_7 (fun H locs Z => ?_)
  clear hc2
  refine lv_lstore (lv' := [(6, .long r4), (4, .long r2), (0, .long a1), (2, .long a2)]) hx hb dX12_divisor_10 hl (by decide) rfl (fun ls hl => ?_)
  have lL12 : ∀ (n : Nat), ∀ (x5 : Int64) (x6 : Int64) (H : Heap) (locs : List Loc) (ls : Array Slot), Wd (wM X) (tM X) (aM X) X s σ H locs → lv_has ls 10 [(4, .long x5), (6, .long x6)] → fMM_divisor_L12 n x5 x6 = some rz → W p l e rm_fMM_divisor s m args below meth c H locs 0 0 (MQ below (va_Ql (fun a u => a = rz ∧ u = σ) (poW (wM X) (tM X) (aM X) X sz) (aA (aM X) sz)) args s 0 0 (aA (aM X) sz)) (F0 m 12 ls []) := by
    intro n
    induction n with
    | zero =>
      intro x5 x6 H locs ls Z hl h
      exact nomatch (show (none : Option (Int64)) = some _ from h)
    | succ n7 ih6 =>
      intro x5 x6 H locs ls Z hl h3
      unfold fMM_divisor_L12 at h3
      refine lv_lload hx hb dX12_divisor_12 (lv_at hl 1 rfl) ?_
      refine lv_lconst (v := (0 : Int64)) hx hb dX12_divisor_14 (by decide) ?_
      refine W.lcmp hx hb dX12_divisor_15 ?_
      refine lv_if_eq (tgt := 37) hx hb dX12_divisor_16 (by decide) (fun c8 => ?_) (fun c8 => ?_)
      · have h4 := dit h3 c8
        clear h3
        refine lv_lload hx hb dX12_divisor_37 (lv_at hl 0 rfl) ?_
        exact reL B Z hz (congrArg (Option.map (fun q => (q, σ))) h4) dX12_divisor_39
      · have h5 := dif h3 c8
        clear h3
        refine lv_lload hx hb dX12_divisor_19 (lv_at hl 0 rfl) ?_
        refine lv_lload hx hb dX12_divisor_21 (lv_at hl 1 rfl) ?_
        obtain ⟨z9, h6⟩ := dck_s h5
        clear h5
        refine lv_lrem hx hb dX12_divisor_23 (okE_s z9) ?_
        refine lv_topl (fun x10 ex10 => ?_)
        have h7 := dlt_e ex10 h6
        clear ex10 h6
        refine lv_lstore (lv' := [(8, .long x10), (4, .long x5), (6, .long x6)]) hx hb dX12_divisor_24 hl (by decide) rfl (fun ls hl => ?_)
        refine lv_lload hx hb dX12_divisor_26 (lv_at hl 2 rfl) ?_
        refine lv_lstore (lv' := [(4, .long x6), (8, .long x10), (6, .long x6)]) hx hb dX12_divisor_28 hl (by decide) rfl (fun ls hl => ?_)
        refine lv_lload hx hb dX12_divisor_30 (lv_at hl 1 rfl) ?_
        refine lv_lstore (lv' := [(6, .long x10), (4, .long x6), (8, .long x10)]) hx hb dX12_divisor_32 hl (by decide) rfl (fun ls hl => ?_)
        refine lv_goto (tgt := 12) hx hb dX12_divisor_34 (by decide) ?_
        exact ih6 x6 x10 _ _ _ Z (lv_sub hl [1, 0] rfl) h7
  exact lL12 FU r2 r4 _ _ _ Z (lv_sub hl [1, 0] rfl) h2
theorem dX12_bound_0 : decode cX12_bound 0 = .ok (.aload_n 0, 1) := by decide +kernel
theorem dX12_bound_1 : decode cX12_bound 1 = .ok (.iload_n 1, 1) := by decide +kernel
theorem dX12_bound_2 : decode cX12_bound 2 = .ok (.invokevirtual 183, 3) := by decide +kernel
theorem dX12_bound_5 : decode cX12_bound 5 = .ok (.ifCond .eq 38, 3) := by decide +kernel
theorem dX12_bound_8 : decode cX12_bound 8 = .ok (.iload_n 2, 1) := by decide +kernel
theorem dX12_bound_9 : decode cX12_bound 9 = .ok (.i2l, 1) := by decide +kernel
theorem dX12_bound_10 : decode cX12_bound 10 = .ok (.lconst 0, 1) := by decide +kernel
theorem dX12_bound_11 : decode cX12_bound 11 = .ok (.ldc2_w 162, 3) := by decide +kernel
theorem dX12_bound_14 : decode cX12_bound 14 = .ok (.invokestatic 68, 3) := by decide +kernel
theorem dX12_bound_17 : decode cX12_bound 17 = .ok (.ifCond .eq 26, 3) := by decide +kernel
theorem dX12_bound_20 : decode cX12_bound 20 = .ok (.iload_n 3, 1) := by decide +kernel
theorem dX12_bound_21 : decode cX12_bound 21 = .ok (.i2l, 1) := by decide +kernel
theorem dX12_bound_22 : decode cX12_bound 22 = .ok (.lconst 0, 1) := by decide +kernel
theorem dX12_bound_23 : decode cX12_bound 23 = .ok (.lconst 1, 1) := by decide +kernel
theorem dX12_bound_24 : decode cX12_bound 24 = .ok (.invokestatic 68, 3) := by decide +kernel
theorem dX12_bound_27 : decode cX12_bound 27 = .ok (.ifCond .eq 16, 3) := by decide +kernel
theorem dX12_bound_30 : decode cX12_bound 30 = .ok (.iload 4, 2) := by decide +kernel
theorem dX12_bound_32 : decode cX12_bound 32 = .ok (.i2l, 1) := by decide +kernel
theorem dX12_bound_33 : decode cX12_bound 33 = .ok (.lconst 0, 1) := by decide +kernel
theorem dX12_bound_34 : decode cX12_bound 34 = .ok (.ldc2_w 162, 3) := by decide +kernel
theorem dX12_bound_37 : decode cX12_bound 37 = .ok (.invokestatic 68, 3) := by decide +kernel
theorem dX12_bound_40 : decode cX12_bound 40 = .ok (.ifCond .ne 11, 3) := by decide +kernel
theorem dX12_bound_43 : decode cX12_bound 43 = .ok (.aload_n 0, 1) := by decide +kernel
theorem dX12_bound_44 : decode cX12_bound 44 = .ok (.ldc 63, 2) := by decide +kernel
theorem dX12_bound_46 : decode cX12_bound 46 = .ok (.invokevirtual 168, 3) := by decide +kernel
theorem dX12_bound_49 : decode cX12_bound 49 = .ok (.i2l, 1) := by decide +kernel
theorem dX12_bound_50 : decode cX12_bound 50 = .ok (.lreturn, 1) := by decide +kernel
theorem dX12_bound_51 : decode cX12_bound 51 = .ok (.aload_n 0, 1) := by decide +kernel
theorem dX12_bound_52 : decode cX12_bound 52 = .ok (.iload_n 1, 1) := by decide +kernel
theorem dX12_bound_53 : decode cX12_bound 53 = .ok (.invokevirtual 147, 3) := by decide +kernel
theorem dX12_bound_56 : decode cX12_bound 56 = .ok (.aload_n 0, 1) := by decide +kernel
theorem dX12_bound_57 : decode cX12_bound 57 = .ok (.iload_n 2, 1) := by decide +kernel
theorem dX12_bound_58 : decode cX12_bound 58 = .ok (.invokevirtual 143, 3) := by decide +kernel
theorem dX12_bound_61 : decode cX12_bound 61 = .ok (.aload_n 0, 1) := by decide +kernel
theorem dX12_bound_62 : decode cX12_bound 62 = .ok (.getfield 110, 3) := by decide +kernel
theorem dX12_bound_65 : decode cX12_bound 65 = .ok (.ifCond .ne 11, 3) := by decide +kernel
theorem dX12_bound_68 : decode cX12_bound 68 = .ok (.aload_n 0, 1) := by decide +kernel
theorem dX12_bound_69 : decode cX12_bound 69 = .ok (.ldc 201, 2) := by decide +kernel
theorem dX12_bound_71 : decode cX12_bound 71 = .ok (.invokevirtual 168, 3) := by decide +kernel
theorem dX12_bound_74 : decode cX12_bound 74 = .ok (.i2l, 1) := by decide +kernel
theorem dX12_bound_75 : decode cX12_bound 75 = .ok (.lreturn, 1) := by decide +kernel
theorem dX12_bound_76 : decode cX12_bound 76 = .ok (.iload_n 3, 1) := by decide +kernel
theorem dX12_bound_77 : decode cX12_bound 77 = .ok (.iconst 1, 1) := by decide +kernel
theorem dX12_bound_78 : decode cX12_bound 78 = .ok (.if_icmp .ne 10, 3) := by decide +kernel
theorem dX12_bound_81 : decode cX12_bound 81 = .ok (.aload_n 0, 1) := by decide +kernel
theorem dX12_bound_82 : decode cX12_bound 82 = .ok (.getfield 120, 3) := by decide +kernel
theorem dX12_bound_85 : decode cX12_bound 85 = .ok (.goto 7, 3) := by decide +kernel
theorem dX12_bound_88 : decode cX12_bound 88 = .ok (.aload_n 0, 1) := by decide +kernel
theorem dX12_bound_89 : decode cX12_bound 89 = .ok (.getfield 129, 3) := by decide +kernel
theorem dX12_bound_92 : decode cX12_bound 92 = .ok (.lstore 5, 2) := by decide +kernel
theorem dX12_bound_94 : decode cX12_bound 94 = .ok (.iload_n 3, 1) := by decide +kernel
theorem dX12_bound_95 : decode cX12_bound 95 = .ok (.iconst 1, 1) := by decide +kernel
theorem dX12_bound_96 : decode cX12_bound 96 = .ok (.if_icmp .ne 10, 3) := by decide +kernel
theorem dX12_bound_99 : decode cX12_bound 99 = .ok (.aload_n 0, 1) := by decide +kernel
theorem dX12_bound_100 : decode cX12_bound 100 = .ok (.getfield 114, 3) := by decide +kernel
theorem dX12_bound_103 : decode cX12_bound 103 = .ok (.goto 7, 3) := by decide +kernel
theorem dX12_bound_106 : decode cX12_bound 106 = .ok (.aload_n 0, 1) := by decide +kernel
theorem dX12_bound_107 : decode cX12_bound 107 = .ok (.getfield 126, 3) := by decide +kernel
theorem dX12_bound_110 : decode cX12_bound 110 = .ok (.lstore 7, 2) := by decide +kernel
theorem dX12_bound_112 : decode cX12_bound 112 = .ok (.lload 7, 2) := by decide +kernel
theorem dX12_bound_114 : decode cX12_bound 114 = .ok (.lconst 0, 1) := by decide +kernel
theorem dX12_bound_115 : decode cX12_bound 115 = .ok (.lcmp, 1) := by decide +kernel
theorem dX12_bound_116 : decode cX12_bound 116 = .ok (.ifCond .ne 7, 3) := by decide +kernel
theorem dX12_bound_119 : decode cX12_bound 119 = .ok (.ldc2_w 202, 3) := by decide +kernel
theorem dX12_bound_122 : decode cX12_bound 122 = .ok (.lreturn, 1) := by decide +kernel
theorem dX12_bound_123 : decode cX12_bound 123 = .ok (.lload 5, 2) := by decide +kernel
theorem dX12_bound_125 : decode cX12_bound 125 = .ok (.lload 7, 2) := by decide +kernel
theorem dX12_bound_127 : decode cX12_bound 127 = .ok (.invokestatic 204, 3) := by decide +kernel
theorem dX12_bound_130 : decode cX12_bound 130 = .ok (.lstore 9, 2) := by decide +kernel
theorem dX12_bound_132 : decode cX12_bound 132 = .ok (.iload_n 3, 1) := by decide +kernel
theorem dX12_bound_133 : decode cX12_bound 133 = .ok (.iconst 1, 1) := by decide +kernel
theorem dX12_bound_134 : decode cX12_bound 134 = .ok (.if_icmp .ne 10, 3) := by decide +kernel
theorem dX12_bound_137 : decode cX12_bound 137 = .ok (.aload_n 0, 1) := by decide +kernel
theorem dX12_bound_138 : decode cX12_bound 138 = .ok (.getfield 123, 3) := by decide +kernel
theorem dX12_bound_141 : decode cX12_bound 141 = .ok (.goto 7, 3) := by decide +kernel
theorem dX12_bound_144 : decode cX12_bound 144 = .ok (.aload_n 0, 1) := by decide +kernel
theorem dX12_bound_145 : decode cX12_bound 145 = .ok (.getfield 132, 3) := by decide +kernel
theorem dX12_bound_148 : decode cX12_bound 148 = .ok (.istore 11, 2) := by decide +kernel
theorem dX12_bound_150 : decode cX12_bound 150 = .ok (.iload 4, 2) := by decide +kernel
theorem dX12_bound_152 : decode cX12_bound 152 = .ok (.ifCond .ne 11, 3) := by decide +kernel
theorem dX12_bound_155 : decode cX12_bound 155 = .ok (.lload 5, 2) := by decide +kernel
theorem dX12_bound_157 : decode cX12_bound 157 = .ok (.lload 9, 2) := by decide +kernel
theorem dX12_bound_159 : decode cX12_bound 159 = .ok (.ldiv, 1) := by decide +kernel
theorem dX12_bound_160 : decode cX12_bound 160 = .ok (.goto 27, 3) := by decide +kernel
theorem dX12_bound_163 : decode cX12_bound 163 = .ok (.iload 4, 2) := by decide +kernel
theorem dX12_bound_165 : decode cX12_bound 165 = .ok (.iconst 1, 1) := by decide +kernel
theorem dX12_bound_166 : decode cX12_bound 166 = .ok (.if_icmp .ne 11, 3) := by decide +kernel
theorem dX12_bound_169 : decode cX12_bound 169 = .ok (.lload 7, 2) := by decide +kernel
theorem dX12_bound_171 : decode cX12_bound 171 = .ok (.lload 9, 2) := by decide +kernel
theorem dX12_bound_173 : decode cX12_bound 173 = .ok (.ldiv, 1) := by decide +kernel
theorem dX12_bound_174 : decode cX12_bound 174 = .ok (.goto 13, 3) := by decide +kernel
theorem dX12_bound_177 : decode cX12_bound 177 = .ok (.iload 11, 2) := by decide +kernel
theorem dX12_bound_179 : decode cX12_bound 179 = .ok (.ifCond .eq 7, 3) := by decide +kernel
theorem dX12_bound_182 : decode cX12_bound 182 = .ok (.lconst 0, 1) := by decide +kernel
theorem dX12_bound_183 : decode cX12_bound 183 = .ok (.goto 4, 3) := by decide +kernel
theorem dX12_bound_186 : decode cX12_bound 186 = .ok (.lconst 1, 1) := by decide +kernel
theorem dX12_bound_187 : decode cX12_bound 187 = .ok (.lreturn, 1) := by decide +kernel
def rm_fMM_bound : Room := { frames := 5, cells := 0, slots := 0, locals := 163 }
set_option maxHeartbeats 4000000 in
set_option maxRecDepth 100000 in
theorem c_fMM_bound (l : Launch) (X : eX) (sz : Nat) (a1 : Int32) (a2 : Int32) (a3 : Int32) (a4 : Int32) (σ : sT) (rz : Int64) (σz : sT) (h0 : fMM_bound a1 a2 a3 a4 σ = some (rz, σz)) : ctL l yX12_bound cX12_bound 12 (some .long) rm_fMM_bound [.ref (X.2.1 33), .int a1, .int a2, .int a3, .int a4] (wM X) (tM X) (aM X) X sz σ rz σz := by
  refine ct_of (by decide +kernel) (Nat.le_of_ble_eq_true rfl) ?_
  intro p e s m args below meth c ls hz B hl Z
  have B : Bd p s m args meth c RX12 cX12_bound 12 (some .long) := B
  have hl : lv_has ls 12 [(0, .ref (X.2.1 33)), (1, .int a1), (2, .int a2), (3, .int a3), (4, .int a4)] := hl
  have hx := B.1
  have hb := B.2.1
  unfold fMM_bound at h0
  refine lv_aload_n hx hb dX12_bound_0 rfl (lv_at hl 0 rfl) ?_
  refine lv_iload_n hx hb dX12_bound_1 rfl (lv_at hl 1 rfl) ?_
  obtain ⟨r2, hc0, h1⟩ := db1_s h0
  clear h0
  refine cV_I [.int a1] [] B mx_yX12_isSet (c_fMM_isSet l X _ a1 σ r2 hc0) kl_RX12_183 mi_yX12_isSet (rv_33 _ _) hcl_12 Z hl rfl rfl ⟨Nat.le_of_ble_eq_true rfl, Nat.le_of_ble_eq_true rfl⟩ rfl rfl (Nat.le_of_ble_eq_true rfl) dX12_bound_2 (fun H locs Z => ?_)
  clear hc0
  obtain ⟨J3, eJ3, h4⟩ := dlt_s h1
  clear h1
  have kJ3 : ∀ (H : Heap) (locs : List Loc) (ls : Array Slot), Wd (wM X) (tM X) (aM X) X s σ H locs → lv_has ls 12 [(0, .ref (X.2.1 33))] → J3 () = some (rz, σz) → W p l e rm_fMM_bound s m args below meth c H locs 0 0 (MQ below (va_Ql (fun a u => a = rz ∧ u = σz) (poW (wM X) (tM X) (aM X) X sz) (aA (aM X) sz)) args s 0 0 (aA (aM X) sz)) (F0 m 43 ls []) := by
    intro  H locs ls Z hl h2
    rw [eJ3] at h2
    refine lv_aload_n hx hb dX12_bound_43 rfl (lv_at hl 0 rfl) ?_
    refine lv_ldc hx hb B.2.2.2.1 (B.2.2.2.2.1 _ kc_RX12_63) dX12_bound_44 ?_
    obtain ⟨r5, σ6, hc3, h3⟩ := db2_s h2
    clear h2
    refine cV_I [.int (-1000002 : Int32)] [] B mx_yX12_refuses (c_fMM_refuses l X _ (-1000002 : Int32) σ r5 σ6 hc3) kl_RX12_168 mi_yX12_refuses (rv_33 _ _) hcl_12 Z hl rfl rfl ⟨Nat.le_of_ble_eq_true rfl, Nat.le_of_ble_eq_true rfl⟩ rfl rfl (Nat.le_of_ble_eq_true rfl) dX12_bound_46 (fun H locs Z => ?_)
    clear hc3
    refine lv_i2l hx hb dX12_bound_49 rfl ?_
    exact reL B Z hz h3 dX12_bound_50
  clear eJ3
  refine lv_if_eq (tgt := 43) hx hb dX12_bound_5 (by decide) (fun c7 => ?_) (fun c7 => ?_)
  · have h5 := dit h4 c7
    clear h4
    exact kJ3  _ _ _ Z (lv_sub hl [0] rfl) h5
  · have h6 := dif h4 c7
    clear h4
    refine lv_iload_n hx hb dX12_bound_8 rfl (lv_at hl 2 rfl) ?_
    refine lv_i2l hx hb dX12_bound_9 rfl ?_
    refine lv_lconst (v := (0 : Int64)) hx hb dX12_bound_10 (by decide) ?_
    refine lv_ldc2 hx hb B.2.2.2.1 (B.2.2.2.2.1 _ kc_RX12_162) dX12_bound_11 ?_
    obtain ⟨r9, hc7, h7⟩ := db1_s h6
    clear h6
    refine cS_I [.long a2.toInt64, .long (0 : Int64), .long (2 : Int64)] [] B mx_yX12_in (c_fMM_in l X _ a2.toInt64 (0 : Int64) (2 : Int64) σ r9 hc7) kl_RX12_68 ks_yX12_in Z hl rfl rfl ⟨Nat.le_of_ble_eq_true rfl, Nat.le_of_ble_eq_true rfl⟩ rfl rfl (Nat.le_of_ble_eq_true rfl) dX12_bound_14 (fun H locs Z => ?_)
    clear hc7
    refine lv_if_eq (tgt := 43) hx hb dX12_bound_17 (by decide) (fun c10 => ?_) (fun c10 => ?_)
    · have h8 := dit h7 c10
      clear h7
      exact kJ3  _ _ _ Z (lv_sub hl [0] rfl) h8
    · have h9 := dif h7 c10
      clear h7
      refine lv_iload_n hx hb dX12_bound_20 rfl (lv_at hl 3 rfl) ?_
      refine lv_i2l hx hb dX12_bound_21 rfl ?_
      refine lv_lconst (v := (0 : Int64)) hx hb dX12_bound_22 (by decide) ?_
      refine lv_lconst (v := (1 : Int64)) hx hb dX12_bound_23 (by decide) ?_
      obtain ⟨r12, hc10, h10⟩ := db1_s h9
      clear h9
      refine cS_I [.long a3.toInt64, .long (0 : Int64), .long (1 : Int64)] [] B mx_yX12_in (c_fMM_in l X _ a3.toInt64 (0 : Int64) (1 : Int64) σ r12 hc10) kl_RX12_68 ks_yX12_in Z hl rfl rfl ⟨Nat.le_of_ble_eq_true rfl, Nat.le_of_ble_eq_true rfl⟩ rfl rfl (Nat.le_of_ble_eq_true rfl) dX12_bound_24 (fun H locs Z => ?_)
      clear hc10
      refine lv_if_eq (tgt := 43) hx hb dX12_bound_27 (by decide) (fun c13 => ?_) (fun c13 => ?_)
      · have h11 := dit h10 c13
        clear h10
        exact kJ3  _ _ _ Z (lv_sub hl [0] rfl) h11
      · have h12 := dif h10 c13
        clear h10
        refine lv_iload hx hb dX12_bound_30 (lv_at hl 4 rfl) ?_
        refine lv_i2l hx hb dX12_bound_32 rfl ?_
        refine lv_lconst (v := (0 : Int64)) hx hb dX12_bound_33 (by decide) ?_
        refine lv_ldc2 hx hb B.2.2.2.1 (B.2.2.2.2.1 _ kc_RX12_162) dX12_bound_34 ?_
        obtain ⟨r15, hc13, h13⟩ := db1_s h12
        clear h12
        refine cS_I [.long a4.toInt64, .long (0 : Int64), .long (2 : Int64)] [] B mx_yX12_in (c_fMM_in l X _ a4.toInt64 (0 : Int64) (2 : Int64) σ r15 hc13) kl_RX12_68 ks_yX12_in Z hl rfl rfl ⟨Nat.le_of_ble_eq_true rfl, Nat.le_of_ble_eq_true rfl⟩ rfl rfl (Nat.le_of_ble_eq_true rfl) dX12_bound_37 (fun H locs Z => ?_)
        clear hc13
        refine lv_if_ne (tgt := 51) hx hb dX12_bound_40 (by decide) (fun c16 => ?_) (fun c16 => ?_)
        · have h14 := dif h13 c16
          clear h13
          refine lv_aload_n hx hb dX12_bound_51 rfl (lv_at hl 0 rfl) ?_
          refine lv_iload_n hx hb dX12_bound_52 rfl (lv_at hl 1 rfl) ?_
          obtain ⟨σ18, hc16, h15⟩ := db1_s h14
          clear h14
          refine cV_V [.int a1] [] B mx_yX12_laysSet (c_fMM_laysSet l X _ a1 σ σ18 hc16) kl_RX12_147 mi_yX12_laysSet (rv_33 _ _) hcl_12 Z hl rfl rfl ⟨Nat.le_of_ble_eq_true rfl, Nat.le_of_ble_eq_true rfl⟩ rfl rfl (Nat.le_of_ble_eq_true rfl) dX12_bound_53 (fun H locs Z => ?_)
          clear hc16
          refine lv_aload_n hx hb dX12_bound_56 rfl (lv_at hl 0 rfl) ?_
          refine lv_iload_n hx hb dX12_bound_57 rfl (lv_at hl 2 rfl) ?_
          obtain ⟨σ20, hc18, h16⟩ := db1_s h15
          clear h15
          refine cV_V [.int a2] [] B mx_yX12_solves (c_fMM_solves l X _ a2 σ18 σ20 hc18) kl_RX12_143 mi_yX12_solves (rv_33 _ _) hcl_12 Z hl rfl rfl ⟨Nat.le_of_ble_eq_true rfl, Nat.le_of_ble_eq_true rfl⟩ rfl rfl (Nat.le_of_ble_eq_true rfl) dX12_bound_58 (fun H locs Z => ?_)
          clear hc18
          refine lv_aload_n hx hb dX12_bound_61 rfl (lv_at hl 0 rfl) ?_
          refine g_33_8 B Z kf_RX12_110 dX12_bound_62 ?_
          refine lv_if_ne (tgt := 76) hx hb dX12_bound_65 (by decide) (fun c21 => ?_) (fun c21 => ?_)
          · have h17 := dif h16 c21
            clear h16
            refine lv_iload_n hx hb dX12_bound_76 rfl (lv_at hl 3 rfl) ?_
            refine lv_iconst (v := (1 : Int32)) hx hb dX12_bound_77 (by decide) ?_
            obtain ⟨J23, eJ23, h38⟩ := dlt_s h17
            clear h17
            have kJ23 : ∀ (x22 : Int64) (H : Heap) (locs : List Loc) (ls : Array Slot), Wd (wM X) (tM X) (aM X) X s σ20 H locs → lv_has ls 12 [(0, .ref (X.2.1 33)), (3, .int a3), (4, .int a4)] → J23 x22 = some (rz, σz) → W p l e rm_fMM_bound s m args below meth c H locs 0 0 (MQ below (va_Ql (fun a u => a = rz ∧ u = σz) (poW (wM X) (tM X) (aM X) X sz) (aA (aM X) sz)) args s 0 0 (aA (aM X) sz)) (F0 m 92 ls [.long x22]) := by
              intro x22 H locs ls Z hl h18
              rw [eJ23] at h18
              refine lv_lstore (lv' := [(5, .long x22), (0, .ref (X.2.1 33)), (3, .int a3), (4, .int a4)]) hx hb dX12_bound_92 hl (by decide) rfl (fun ls hl => ?_)
              refine lv_iload_n hx hb dX12_bound_94 rfl (lv_at hl 2 rfl) ?_
              refine lv_iconst (v := (1 : Int32)) hx hb dX12_bound_95 (by decide) ?_
              obtain ⟨J25, eJ25, h35⟩ := dlt_s h18
              clear h18
              have kJ25 : ∀ (x24 : Int64) (H : Heap) (locs : List Loc) (ls : Array Slot), Wd (wM X) (tM X) (aM X) X s σ20 H locs → lv_has ls 12 [(0, .ref (X.2.1 33)), (3, .int a3), (4, .int a4), (5, .long x22)] → J25 x24 = some (rz, σz) → W p l e rm_fMM_bound s m args below meth c H locs 0 0 (MQ below (va_Ql (fun a u => a = rz ∧ u = σz) (poW (wM X) (tM X) (aM X) X sz) (aA (aM X) sz)) args s 0 0 (aA (aM X) sz)) (F0 m 110 ls [.long x24]) := by
                intro x24 H locs ls Z hl h19
                rw [eJ25] at h19
                refine lv_lstore (lv' := [(7, .long x24), (0, .ref (X.2.1 33)), (3, .int a3), (4, .int a4), (5, .long x22)]) hx hb dX12_bound_110 hl (by decide) rfl (fun ls hl => ?_)
                refine lv_lload hx hb dX12_bound_112 (lv_at hl 0 rfl) ?_
                refine lv_lconst (v := (0 : Int64)) hx hb dX12_bound_114 (by decide) ?_
                refine W.lcmp hx hb dX12_bound_115 ?_
                refine lv_if_ne (tgt := 123) hx hb dX12_bound_116 (by decide) (fun c26 => ?_) (fun c26 => ?_)
                · have h20 := dif h19 c26
                  clear h19
                  refine lv_lload hx hb dX12_bound_123 (lv_at hl 4 rfl) ?_
                  refine lv_lload hx hb dX12_bound_125 (lv_at hl 0 rfl) ?_
                  obtain ⟨r28, hc26, h21⟩ := db1_s h20
                  clear h20
                  refine cS_L [.long x22, .long x24] [] B mx_yX12_divisor (c_fMM_divisor l X _ x22 x24 σ20 r28 hc26) kl_RX12_204 ks_yX12_divisor Z hl rfl rfl ⟨Nat.le_of_ble_eq_true rfl, Nat.le_of_ble_eq_true rfl⟩ rfl rfl (Nat.le_of_ble_eq_true rfl) dX12_bound_127 (fun H locs Z => ?_)
                  clear hc26
                  refine lv_lstore (lv' := [(9, .long r28), (7, .long x24), (0, .ref (X.2.1 33)), (3, .int a3), (4, .int a4), (5, .long x22)]) hx hb dX12_bound_130 hl (by decide) rfl (fun ls hl => ?_)
                  refine lv_iload_n hx hb dX12_bound_132 rfl (lv_at hl 3 rfl) ?_
                  refine lv_iconst (v := (1 : Int32)) hx hb dX12_bound_133 (by decide) ?_
                  obtain ⟨J30, eJ30, h31⟩ := dlt_s h21
                  clear h21
                  have kJ30 : ∀ (x29 : Int32) (H : Heap) (locs : List Loc) (ls : Array Slot), Wd (wM X) (tM X) (aM X) X s σ20 H locs → lv_has ls 12 [(4, .int a4), (5, .long x22), (7, .long x24), (9, .long r28)] → J30 x29 = some (rz, σz) → W p l e rm_fMM_bound s m args below meth c H locs 0 0 (MQ below (va_Ql (fun a u => a = rz ∧ u = σz) (poW (wM X) (tM X) (aM X) X sz) (aA (aM X) sz)) args s 0 0 (aA (aM X) sz)) (F0 m 148 ls [.int x29]) := by
                    intro x29 H locs ls Z hl h22
                    rw [eJ30] at h22
                    refine lv_istore (lv' := [(11, .int x29), (4, .int a4), (5, .long x22), (7, .long x24), (9, .long r28)]) hx hb dX12_bound_148 hl (by decide) rfl (fun ls hl => ?_)
                    refine lv_iload hx hb dX12_bound_150 (lv_at hl 1 rfl) ?_
                    refine lv_if_ne (tgt := 163) hx hb dX12_bound_152 (by decide) (fun c31 => ?_) (fun c31 => ?_)
                    · have h23 := dif h22 c31
                      clear h22
                      refine lv_iload hx hb dX12_bound_163 (lv_at hl 1 rfl) ?_
                      refine lv_iconst (v := (1 : Int32)) hx hb dX12_bound_165 (by decide) ?_
                      refine lv_icmp_ne (tgt := 177) hx hb dX12_bound_166 (by decide) (fun c32 => ?_) (fun c32 => ?_)
                      · have h24 := dif h23 c32
                        clear h23
                        refine lv_iload hx hb dX12_bound_177 (lv_at hl 0 rfl) ?_
                        refine lv_if_eq (tgt := 186) hx hb dX12_bound_179 (by decide) (fun c33 => ?_) (fun c33 => ?_)
                        · have h25 := dit h24 c33
                          clear h24
                          refine lv_lconst (v := (1 : Int64)) hx hb dX12_bound_186 (by decide) ?_
                          exact reL B Z hz h25 dX12_bound_187
                        · have h26 := dif h24 c33
                          clear h24
                          refine lv_lconst (v := (0 : Int64)) hx hb dX12_bound_182 (by decide) ?_
                          refine lv_goto (tgt := 187) hx hb dX12_bound_183 (by decide) ?_
                          exact reL B Z hz h26 dX12_bound_187
                      · have h27 := dit h23 c32
                        clear h23
                        refine lv_lload hx hb dX12_bound_169 (lv_at hl 3 rfl) ?_
                        refine lv_lload hx hb dX12_bound_171 (lv_at hl 4 rfl) ?_
                        obtain ⟨z34, h28⟩ := dck_s h27
                        clear h27
                        refine lv_ldiv hx hb dX12_bound_173 (okE_s z34) ?_
                        refine lv_goto (tgt := 187) hx hb dX12_bound_174 (by decide) ?_
                        exact reL B Z hz h28 dX12_bound_187
                    · have h29 := dit h22 c31
                      clear h22
                      refine lv_lload hx hb dX12_bound_155 (lv_at hl 2 rfl) ?_
                      refine lv_lload hx hb dX12_bound_157 (lv_at hl 4 rfl) ?_
                      obtain ⟨z35, h30⟩ := dck_s h29
                      clear h29
                      refine lv_ldiv hx hb dX12_bound_159 (okE_s z35) ?_
                      refine lv_goto (tgt := 187) hx hb dX12_bound_160 (by decide) ?_
                      exact reL B Z hz h30 dX12_bound_187
                  clear eJ30
                  refine lv_icmp_ne (tgt := 144) hx hb dX12_bound_134 (by decide) (fun c36 => ?_) (fun c36 => ?_)
                  · have h32 := dif h31 c36
                    clear h31
                    refine lv_aload_n hx hb dX12_bound_144 rfl (lv_at hl 2 rfl) ?_
                    refine g_33_11 B Z kf_RX12_132 dX12_bound_145 ?_
                    exact kJ30 (σ20.1 33 11) _ _ _ Z (lv_sub hl [4, 5, 1, 0] rfl) h32
                  · have h33 := dit h31 c36
                    clear h31
                    refine lv_aload_n hx hb dX12_bound_137 rfl (lv_at hl 2 rfl) ?_
                    refine g_33_14 B Z kf_RX12_123 dX12_bound_138 ?_
                    refine lv_goto (tgt := 148) hx hb dX12_bound_141 (by decide) ?_
                    exact kJ30 (σ20.1 33 14) _ _ _ Z (lv_sub hl [4, 5, 1, 0] rfl) h33
                · have h34 := dit h19 c26
                  clear h19
                  refine lv_ldc2 hx hb B.2.2.2.1 (B.2.2.2.2.1 _ kc_RX12_202) dX12_bound_119 ?_
                  exact reL B Z hz h34 dX12_bound_122
              clear eJ25
              refine lv_icmp_ne (tgt := 106) hx hb dX12_bound_96 (by decide) (fun c37 => ?_) (fun c37 => ?_)
              · have h36 := dif h35 c37
                clear h35
                refine lv_aload_n hx hb dX12_bound_106 rfl (lv_at hl 1 rfl) ?_
                refine g_33_10 B Z kf_RX12_126 dX12_bound_107 ?_
                exact kJ25 (σ20.2 33 10) _ _ _ Z (lv_sub hl [1, 2, 3, 0] rfl) h36
              · have h37 := dit h35 c37
                clear h35
                refine lv_aload_n hx hb dX12_bound_99 rfl (lv_at hl 1 rfl) ?_
                refine g_33_13 B Z kf_RX12_114 dX12_bound_100 ?_
                refine lv_goto (tgt := 110) hx hb dX12_bound_103 (by decide) ?_
                exact kJ25 (σ20.2 33 13) _ _ _ Z (lv_sub hl [1, 2, 3, 0] rfl) h37
            clear eJ23
            refine lv_icmp_ne (tgt := 88) hx hb dX12_bound_78 (by decide) (fun c38 => ?_) (fun c38 => ?_)
            · have h39 := dif h38 c38
              clear h38
              refine lv_aload_n hx hb dX12_bound_88 rfl (lv_at hl 0 rfl) ?_
              refine g_33_9 B Z kf_RX12_129 dX12_bound_89 ?_
              exact kJ23 (σ20.2 33 9) _ _ _ Z (lv_sub hl [0, 3, 4] rfl) h39
            · have h40 := dit h38 c38
              clear h38
              refine lv_aload_n hx hb dX12_bound_81 rfl (lv_at hl 0 rfl) ?_
              refine g_33_12 B Z kf_RX12_120 dX12_bound_82 ?_
              refine lv_goto (tgt := 92) hx hb dX12_bound_85 (by decide) ?_
              exact kJ23 (σ20.2 33 12) _ _ _ Z (lv_sub hl [0, 3, 4] rfl) h40
          · have h41 := dit h16 c21
            clear h16
            refine lv_aload_n hx hb dX12_bound_68 rfl (lv_at hl 0 rfl) ?_
            refine lv_ldc hx hb B.2.2.2.1 (B.2.2.2.2.1 _ kc_RX12_201) dX12_bound_69 ?_
            obtain ⟨r40, σ41, hc38, h42⟩ := db2_s h41
            clear h41
            refine cV_I [.int (-1000003 : Int32)] [] B mx_yX12_refuses (c_fMM_refuses l X _ (-1000003 : Int32) σ20 r40 σ41 hc38) kl_RX12_168 mi_yX12_refuses (rv_33 _ _) hcl_12 Z hl rfl rfl ⟨Nat.le_of_ble_eq_true rfl, Nat.le_of_ble_eq_true rfl⟩ rfl rfl (Nat.le_of_ble_eq_true rfl) dX12_bound_71 (fun H locs Z => ?_)
            clear hc38
            refine lv_i2l hx hb dX12_bound_74 rfl ?_
            exact reL B Z hz h42 dX12_bound_75
        · have h43 := dit h13 c16
          clear h13
          exact kJ3  _ _ _ Z (lv_sub hl [0] rfl) h43
