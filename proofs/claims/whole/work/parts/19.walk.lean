theorem dX12_takes_0 : decode cX12_takes 0 = .ok (.lload_n 1, 1) := by decide +kernel
theorem dX12_takes_1 : decode cX12_takes 1 = .ok (.lconst 0, 1) := by decide +kernel
theorem dX12_takes_2 : decode cX12_takes 2 = .ok (.lcmp, 1) := by decide +kernel
theorem dX12_takes_3 : decode cX12_takes 3 = .ok (.ifCond .ne 39, 3) := by decide +kernel
theorem dX12_takes_6 : decode cX12_takes 6 = .ok (.aload_n 0, 1) := by decide +kernel
theorem dX12_takes_7 : decode cX12_takes 7 = .ok (.aload_n 0, 1) := by decide +kernel
theorem dX12_takes_8 : decode cX12_takes 8 = .ok (.getfield 110, 3) := by decide +kernel
theorem dX12_takes_11 : decode cX12_takes 11 = .ok (.ifCond .eq 24, 3) := by decide +kernel
theorem dX12_takes_14 : decode cX12_takes 14 = .ok (.lload_n 3, 1) := by decide +kernel
theorem dX12_takes_15 : decode cX12_takes 15 = .ok (.lconst 0, 1) := by decide +kernel
theorem dX12_takes_16 : decode cX12_takes 16 = .ok (.lcmp, 1) := by decide +kernel
theorem dX12_takes_17 : decode cX12_takes 17 = .ok (.ifCond .gt 14, 3) := by decide +kernel
theorem dX12_takes_20 : decode cX12_takes 20 = .ok (.lload_n 3, 1) := by decide +kernel
theorem dX12_takes_21 : decode cX12_takes 21 = .ok (.lconst 0, 1) := by decide +kernel
theorem dX12_takes_22 : decode cX12_takes 22 = .ok (.lcmp, 1) := by decide +kernel
theorem dX12_takes_23 : decode cX12_takes 23 = .ok (.ifCond .ne 12, 3) := by decide +kernel
theorem dX12_takes_26 : decode cX12_takes 26 = .ok (.iload 5, 2) := by decide +kernel
theorem dX12_takes_28 : decode cX12_takes 28 = .ok (.ifCond .ne 7, 3) := by decide +kernel
theorem dX12_takes_31 : decode cX12_takes 31 = .ok (.iconst 1, 1) := by decide +kernel
theorem dX12_takes_32 : decode cX12_takes 32 = .ok (.goto 4, 3) := by decide +kernel
theorem dX12_takes_35 : decode cX12_takes 35 = .ok (.iconst 0, 1) := by decide +kernel
theorem dX12_takes_36 : decode cX12_takes 36 = .ok (.putfield 110, 3) := by decide +kernel
theorem dX12_takes_39 : decode cX12_takes 39 = .ok (.goto 243, 3) := by decide +kernel
theorem dX12_takes_42 : decode cX12_takes 42 = .ok (.lload_n 1, 1) := by decide +kernel
theorem dX12_takes_43 : decode cX12_takes 43 = .ok (.lconst 0, 1) := by decide +kernel
theorem dX12_takes_44 : decode cX12_takes 44 = .ok (.lcmp, 1) := by decide +kernel
theorem dX12_takes_45 : decode cX12_takes 45 = .ok (.ifCond .le 121, 3) := by decide +kernel
theorem dX12_takes_48 : decode cX12_takes 48 = .ok (.aload_n 0, 1) := by decide +kernel
theorem dX12_takes_49 : decode cX12_takes 49 = .ok (.getfield 114, 3) := by decide +kernel
theorem dX12_takes_52 : decode cX12_takes 52 = .ok (.lconst 0, 1) := by decide +kernel
theorem dX12_takes_53 : decode cX12_takes 53 = .ok (.lcmp, 1) := by decide +kernel
theorem dX12_takes_54 : decode cX12_takes 54 = .ok (.ifCond .ne 9, 3) := by decide +kernel
theorem dX12_takes_57 : decode cX12_takes 57 = .ok (.ldc2_w 118, 3) := by decide +kernel
theorem dX12_takes_60 : decode cX12_takes 60 = .ok (.goto 16, 3) := by decide +kernel
theorem dX12_takes_63 : decode cX12_takes 63 = .ok (.lload_n 3, 1) := by decide +kernel
theorem dX12_takes_64 : decode cX12_takes 64 = .ok (.aload_n 0, 1) := by decide +kernel
theorem dX12_takes_65 : decode cX12_takes 65 = .ok (.getfield 114, 3) := by decide +kernel
theorem dX12_takes_68 : decode cX12_takes 68 = .ok (.lmul, 1) := by decide +kernel
theorem dX12_takes_69 : decode cX12_takes 69 = .ok (.aload_n 0, 1) := by decide +kernel
theorem dX12_takes_70 : decode cX12_takes 70 = .ok (.getfield 120, 3) := by decide +kernel
theorem dX12_takes_73 : decode cX12_takes 73 = .ok (.lload_n 1, 1) := by decide +kernel
theorem dX12_takes_74 : decode cX12_takes 74 = .ok (.lmul, 1) := by decide +kernel
theorem dX12_takes_75 : decode cX12_takes 75 = .ok (.lsub, 1) := by decide +kernel
theorem dX12_takes_76 : decode cX12_takes 76 = .ok (.lstore 6, 2) := by decide +kernel
theorem dX12_takes_78 : decode cX12_takes 78 = .ok (.aload_n 0, 1) := by decide +kernel
theorem dX12_takes_79 : decode cX12_takes 79 = .ok (.lload 6, 2) := by decide +kernel
theorem dX12_takes_81 : decode cX12_takes 81 = .ok (.lconst 0, 1) := by decide +kernel
theorem dX12_takes_82 : decode cX12_takes 82 = .ok (.lcmp, 1) := by decide +kernel
theorem dX12_takes_83 : decode cX12_takes 83 = .ok (.ifCond .ge 8, 3) := by decide +kernel
theorem dX12_takes_86 : decode cX12_takes 86 = .ok (.iload 5, 2) := by decide +kernel
theorem dX12_takes_88 : decode cX12_takes 88 = .ok (.goto 34, 3) := by decide +kernel
theorem dX12_takes_91 : decode cX12_takes 91 = .ok (.lload 6, 2) := by decide +kernel
theorem dX12_takes_93 : decode cX12_takes 93 = .ok (.lconst 0, 1) := by decide +kernel
theorem dX12_takes_94 : decode cX12_takes 94 = .ok (.lcmp, 1) := by decide +kernel
theorem dX12_takes_95 : decode cX12_takes 95 = .ok (.ifCond .ne 23, 3) := by decide +kernel
theorem dX12_takes_98 : decode cX12_takes 98 = .ok (.aload_n 0, 1) := by decide +kernel
theorem dX12_takes_99 : decode cX12_takes 99 = .ok (.getfield 123, 3) := by decide +kernel
theorem dX12_takes_102 : decode cX12_takes 102 = .ok (.ifCond .ne 8, 3) := by decide +kernel
theorem dX12_takes_105 : decode cX12_takes 105 = .ok (.iload 5, 2) := by decide +kernel
theorem dX12_takes_107 : decode cX12_takes 107 = .ok (.ifCond .eq 7, 3) := by decide +kernel
theorem dX12_takes_110 : decode cX12_takes 110 = .ok (.iconst 1, 1) := by decide +kernel
theorem dX12_takes_111 : decode cX12_takes 111 = .ok (.goto 11, 3) := by decide +kernel
theorem dX12_takes_114 : decode cX12_takes 114 = .ok (.iconst 0, 1) := by decide +kernel
theorem dX12_takes_115 : decode cX12_takes 115 = .ok (.goto 7, 3) := by decide +kernel
theorem dX12_takes_118 : decode cX12_takes 118 = .ok (.aload_n 0, 1) := by decide +kernel
theorem dX12_takes_119 : decode cX12_takes 119 = .ok (.getfield 123, 3) := by decide +kernel
theorem dX12_takes_122 : decode cX12_takes 122 = .ok (.putfield 123, 3) := by decide +kernel
theorem dX12_takes_125 : decode cX12_takes 125 = .ok (.aload_n 0, 1) := by decide +kernel
theorem dX12_takes_126 : decode cX12_takes 126 = .ok (.lload 6, 2) := by decide +kernel
theorem dX12_takes_128 : decode cX12_takes 128 = .ok (.lconst 0, 1) := by decide +kernel
theorem dX12_takes_129 : decode cX12_takes 129 = .ok (.lcmp, 1) := by decide +kernel
theorem dX12_takes_130 : decode cX12_takes 130 = .ok (.ifCond .ge 7, 3) := by decide +kernel
theorem dX12_takes_133 : decode cX12_takes 133 = .ok (.lload_n 3, 1) := by decide +kernel
theorem dX12_takes_134 : decode cX12_takes 134 = .ok (.goto 7, 3) := by decide +kernel
theorem dX12_takes_137 : decode cX12_takes 137 = .ok (.aload_n 0, 1) := by decide +kernel
theorem dX12_takes_138 : decode cX12_takes 138 = .ok (.getfield 120, 3) := by decide +kernel
theorem dX12_takes_141 : decode cX12_takes 141 = .ok (.putfield 120, 3) := by decide +kernel
theorem dX12_takes_144 : decode cX12_takes 144 = .ok (.aload_n 0, 1) := by decide +kernel
theorem dX12_takes_145 : decode cX12_takes 145 = .ok (.lload 6, 2) := by decide +kernel
theorem dX12_takes_147 : decode cX12_takes 147 = .ok (.lconst 0, 1) := by decide +kernel
theorem dX12_takes_148 : decode cX12_takes 148 = .ok (.lcmp, 1) := by decide +kernel
theorem dX12_takes_149 : decode cX12_takes 149 = .ok (.ifCond .ge 7, 3) := by decide +kernel
theorem dX12_takes_152 : decode cX12_takes 152 = .ok (.lload_n 1, 1) := by decide +kernel
theorem dX12_takes_153 : decode cX12_takes 153 = .ok (.goto 7, 3) := by decide +kernel
theorem dX12_takes_156 : decode cX12_takes 156 = .ok (.aload_n 0, 1) := by decide +kernel
theorem dX12_takes_157 : decode cX12_takes 157 = .ok (.getfield 114, 3) := by decide +kernel
theorem dX12_takes_160 : decode cX12_takes 160 = .ok (.putfield 114, 3) := by decide +kernel
theorem dX12_takes_163 : decode cX12_takes 163 = .ok (.goto 119, 3) := by decide +kernel
theorem dX12_takes_166 : decode cX12_takes 166 = .ok (.aload_n 0, 1) := by decide +kernel
theorem dX12_takes_167 : decode cX12_takes 167 = .ok (.getfield 126, 3) := by decide +kernel
theorem dX12_takes_170 : decode cX12_takes 170 = .ok (.lconst 0, 1) := by decide +kernel
theorem dX12_takes_171 : decode cX12_takes 171 = .ok (.lcmp, 1) := by decide +kernel
theorem dX12_takes_172 : decode cX12_takes 172 = .ok (.ifCond .ne 7, 3) := by decide +kernel
theorem dX12_takes_175 : decode cX12_takes 175 = .ok (.lconst 1, 1) := by decide +kernel
theorem dX12_takes_176 : decode cX12_takes 176 = .ok (.goto 17, 3) := by decide +kernel
theorem dX12_takes_179 : decode cX12_takes 179 = .ok (.lload_n 3, 1) := by decide +kernel
theorem dX12_takes_180 : decode cX12_takes 180 = .ok (.lneg, 1) := by decide +kernel
theorem dX12_takes_181 : decode cX12_takes 181 = .ok (.aload_n 0, 1) := by decide +kernel
theorem dX12_takes_182 : decode cX12_takes 182 = .ok (.getfield 126, 3) := by decide +kernel
theorem dX12_takes_185 : decode cX12_takes 185 = .ok (.lmul, 1) := by decide +kernel
theorem dX12_takes_186 : decode cX12_takes 186 = .ok (.aload_n 0, 1) := by decide +kernel
theorem dX12_takes_187 : decode cX12_takes 187 = .ok (.getfield 129, 3) := by decide +kernel
theorem dX12_takes_190 : decode cX12_takes 190 = .ok (.lload_n 1, 1) := by decide +kernel
theorem dX12_takes_191 : decode cX12_takes 191 = .ok (.lmul, 1) := by decide +kernel
theorem dX12_takes_192 : decode cX12_takes 192 = .ok (.ladd, 1) := by decide +kernel
theorem dX12_takes_193 : decode cX12_takes 193 = .ok (.lstore 6, 2) := by decide +kernel
theorem dX12_takes_195 : decode cX12_takes 195 = .ok (.aload_n 0, 1) := by decide +kernel
theorem dX12_takes_196 : decode cX12_takes 196 = .ok (.lload 6, 2) := by decide +kernel
theorem dX12_takes_198 : decode cX12_takes 198 = .ok (.lconst 0, 1) := by decide +kernel
theorem dX12_takes_199 : decode cX12_takes 199 = .ok (.lcmp, 1) := by decide +kernel
theorem dX12_takes_200 : decode cX12_takes 200 = .ok (.ifCond .le 8, 3) := by decide +kernel
theorem dX12_takes_203 : decode cX12_takes 203 = .ok (.iload 5, 2) := by decide +kernel
theorem dX12_takes_205 : decode cX12_takes 205 = .ok (.goto 34, 3) := by decide +kernel
theorem dX12_takes_208 : decode cX12_takes 208 = .ok (.lload 6, 2) := by decide +kernel
theorem dX12_takes_210 : decode cX12_takes 210 = .ok (.lconst 0, 1) := by decide +kernel
theorem dX12_takes_211 : decode cX12_takes 211 = .ok (.lcmp, 1) := by decide +kernel
theorem dX12_takes_212 : decode cX12_takes 212 = .ok (.ifCond .ne 23, 3) := by decide +kernel
theorem dX12_takes_215 : decode cX12_takes 215 = .ok (.aload_n 0, 1) := by decide +kernel
theorem dX12_takes_216 : decode cX12_takes 216 = .ok (.getfield 132, 3) := by decide +kernel
theorem dX12_takes_219 : decode cX12_takes 219 = .ok (.ifCond .ne 8, 3) := by decide +kernel
theorem dX12_takes_222 : decode cX12_takes 222 = .ok (.iload 5, 2) := by decide +kernel
theorem dX12_takes_224 : decode cX12_takes 224 = .ok (.ifCond .eq 7, 3) := by decide +kernel
theorem dX12_takes_227 : decode cX12_takes 227 = .ok (.iconst 1, 1) := by decide +kernel
theorem dX12_takes_228 : decode cX12_takes 228 = .ok (.goto 11, 3) := by decide +kernel
theorem dX12_takes_231 : decode cX12_takes 231 = .ok (.iconst 0, 1) := by decide +kernel
theorem dX12_takes_232 : decode cX12_takes 232 = .ok (.goto 7, 3) := by decide +kernel
theorem dX12_takes_235 : decode cX12_takes 235 = .ok (.aload_n 0, 1) := by decide +kernel
theorem dX12_takes_236 : decode cX12_takes 236 = .ok (.getfield 132, 3) := by decide +kernel
theorem dX12_takes_239 : decode cX12_takes 239 = .ok (.putfield 132, 3) := by decide +kernel
theorem dX12_takes_242 : decode cX12_takes 242 = .ok (.aload_n 0, 1) := by decide +kernel
theorem dX12_takes_243 : decode cX12_takes 243 = .ok (.lload 6, 2) := by decide +kernel
theorem dX12_takes_245 : decode cX12_takes 245 = .ok (.lconst 0, 1) := by decide +kernel
theorem dX12_takes_246 : decode cX12_takes 246 = .ok (.lcmp, 1) := by decide +kernel
theorem dX12_takes_247 : decode cX12_takes 247 = .ok (.ifCond .le 8, 3) := by decide +kernel
theorem dX12_takes_250 : decode cX12_takes 250 = .ok (.lload_n 3, 1) := by decide +kernel
theorem dX12_takes_251 : decode cX12_takes 251 = .ok (.lneg, 1) := by decide +kernel
theorem dX12_takes_252 : decode cX12_takes 252 = .ok (.goto 7, 3) := by decide +kernel
theorem dX12_takes_255 : decode cX12_takes 255 = .ok (.aload_n 0, 1) := by decide +kernel
theorem dX12_takes_256 : decode cX12_takes 256 = .ok (.getfield 129, 3) := by decide +kernel
theorem dX12_takes_259 : decode cX12_takes 259 = .ok (.putfield 129, 3) := by decide +kernel
theorem dX12_takes_262 : decode cX12_takes 262 = .ok (.aload_n 0, 1) := by decide +kernel
theorem dX12_takes_263 : decode cX12_takes 263 = .ok (.lload 6, 2) := by decide +kernel
theorem dX12_takes_265 : decode cX12_takes 265 = .ok (.lconst 0, 1) := by decide +kernel
theorem dX12_takes_266 : decode cX12_takes 266 = .ok (.lcmp, 1) := by decide +kernel
theorem dX12_takes_267 : decode cX12_takes 267 = .ok (.ifCond .le 8, 3) := by decide +kernel
theorem dX12_takes_270 : decode cX12_takes 270 = .ok (.lload_n 1, 1) := by decide +kernel
theorem dX12_takes_271 : decode cX12_takes 271 = .ok (.lneg, 1) := by decide +kernel
theorem dX12_takes_272 : decode cX12_takes 272 = .ok (.goto 7, 3) := by decide +kernel
theorem dX12_takes_275 : decode cX12_takes 275 = .ok (.aload_n 0, 1) := by decide +kernel
theorem dX12_takes_276 : decode cX12_takes 276 = .ok (.getfield 126, 3) := by decide +kernel
theorem dX12_takes_279 : decode cX12_takes 279 = .ok (.putfield 126, 3) := by decide +kernel
theorem dX12_takes_282 : decode cX12_takes 282 = .ok (.return_, 1) := by decide +kernel
def rm_fMM_takes : Room := { frames := 1, cells := 0, slots := 0, locals := 60 }
set_option maxHeartbeats 4000000 in
set_option maxRecDepth 100000 in
theorem c_fMM_takes (l : Launch) (X : eX) (sz : Nat) (a1 : Int64) (a2 : Int64) (a3 : Int32) (σ : sT) (σz : sT) (h0 : fMM_takes a1 a2 a3 σ = some σz) : ctV l yX12_takes cX12_takes 8 none rm_fMM_takes [.ref (X.2.1 33), .long a1, .long a2, .int a3] (wM X) (tM X) (aM X) X sz σ σz := by
  refine ct_of (by decide +kernel) (Nat.le_of_ble_eq_true rfl) ?_
  intro p e s m args below meth c ls hz B hl Z
  have B : Bd p s m args meth c RX12 cX12_takes 8 none := B
  have hl : lv_has ls 8 [(0, .ref (X.2.1 33)), (1, .long a1), (3, .long a2), (5, .int a3)] := hl
  have hx := B.1
  have hb := B.2.1
  unfold fMM_takes at h0
  refine lv_lload_n hx hb dX12_takes_0 rfl (lv_at hl 1 rfl) ?_
  refine lv_lconst (v := (0 : Int64)) hx hb dX12_takes_1 (by decide) ?_
  refine W.lcmp hx hb dX12_takes_2 ?_
  refine lv_if_ne (tgt := 42) hx hb dX12_takes_3 (by decide) (fun c1 => ?_) (fun c1 => ?_)
  · have h1 := dif h0 c1
    clear h0
    refine lv_lload_n hx hb dX12_takes_42 rfl (lv_at hl 1 rfl) ?_
    refine lv_lconst (v := (0 : Int64)) hx hb dX12_takes_43 (by decide) ?_
    refine W.lcmp hx hb dX12_takes_44 ?_
    refine lv_if_le (tgt := 166) hx hb dX12_takes_45 (by decide) (fun c2 => ?_) (fun c2 => ?_)
    · have h2 := dit h1 c2
      clear h1
      refine lv_aload_n hx hb dX12_takes_166 rfl (lv_at hl 0 rfl) ?_
      refine g_33_10 B Z kf_RX12_126 dX12_takes_167 ?_
      refine lv_lconst (v := (0 : Int64)) hx hb dX12_takes_170 (by decide) ?_
      refine W.lcmp hx hb dX12_takes_171 ?_
      obtain ⟨J4, eJ4, h28⟩ := dlt_s h2
      clear h2
      have kJ4 : ∀ (x3 : Int64) (H : Heap) (locs : List Loc) (ls : Array Slot), Wd (wM X) (tM X) (aM X) X s σ H locs → lv_has ls 8 [(0, .ref (X.2.1 33)), (1, .long a1), (3, .long a2), (5, .int a3)] → J4 x3 = some σz → W p l e rm_fMM_takes s m args below meth c H locs 0 0 (MQ below (va_Qv (fun u => u = σz) (poW (wM X) (tM X) (aM X) X sz) (aA (aM X) sz)) args s 0 0 (aA (aM X) sz)) (F0 m 193 ls [.long x3]) := by
        intro x3 H locs ls Z hl h3
        rw [eJ4] at h3
        refine lv_lstore (lv' := [(6, .long x3), (0, .ref (X.2.1 33)), (1, .long a1), (3, .long a2), (5, .int a3)]) hx hb dX12_takes_193 hl (by decide) rfl (fun ls hl => ?_)
        refine lv_aload_n hx hb dX12_takes_195 rfl (lv_at hl 1 rfl) ?_
        refine lv_lload hx hb dX12_takes_196 (lv_at hl 0 rfl) ?_
        refine lv_lconst (v := (0 : Int64)) hx hb dX12_takes_198 (by decide) ?_
        refine W.lcmp hx hb dX12_takes_199 ?_
        obtain ⟨J6, eJ6, h17⟩ := dlt_s h3
        clear h3
        have kJ6 : ∀ (x5 : Int32) (H : Heap) (locs : List Loc) (ls : Array Slot), Wd (wM X) (tM X) (aM X) X s σ H locs → lv_has ls 8 [(0, .ref (X.2.1 33)), (1, .long a1), (3, .long a2), (6, .long x3)] → J6 x5 = some σz → W p l e rm_fMM_takes s m args below meth c H locs 0 0 (MQ below (va_Qv (fun u => u = σz) (poW (wM X) (tM X) (aM X) X sz) (aA (aM X) sz)) args s 0 0 (aA (aM X) sz)) (F0 m 239 ls [.int x5, .ref (X.2.1 33)]) := by
          intro x5 H locs ls Z hl h4
          rw [eJ6] at h4
          obtain ⟨z7, h5⟩ := dck_s h4
          clear h4
          refine s_33_11 B Z z7 kf_RX12_132 dX12_takes_239 (fun H locs Z => ?_)
          obtain ⟨σ8, eσ8, h6⟩ := dlt_s h5
          clear h5
          replace Z := Wd.eq eσ8 Z
          clear eσ8
          refine lv_aload_n hx hb dX12_takes_242 rfl (lv_at hl 0 rfl) ?_
          refine lv_lload hx hb dX12_takes_243 (lv_at hl 3 rfl) ?_
          refine lv_lconst (v := (0 : Int64)) hx hb dX12_takes_245 (by decide) ?_
          refine W.lcmp hx hb dX12_takes_246 ?_
          obtain ⟨J10, eJ10, h14⟩ := dlt_s h6
          clear h6
          have kJ10 : ∀ (x9 : Int64) (H : Heap) (locs : List Loc) (ls : Array Slot), Wd (wM X) (tM X) (aM X) X s σ8 H locs → lv_has ls 8 [(0, .ref (X.2.1 33)), (1, .long a1), (6, .long x3)] → J10 x9 = some σz → W p l e rm_fMM_takes s m args below meth c H locs 0 0 (MQ below (va_Qv (fun u => u = σz) (poW (wM X) (tM X) (aM X) X sz) (aA (aM X) sz)) args s 0 0 (aA (aM X) sz)) (F0 m 259 ls [.long x9, .ref (X.2.1 33)]) := by
            intro x9 H locs ls Z hl h7
            rw [eJ10] at h7
            refine s_33_9 B Z kf_RX12_129 dX12_takes_259 (fun H locs Z => ?_)
            obtain ⟨σ11, eσ11, h8⟩ := dlt_s h7
            clear h7
            replace Z := Wd.eq eσ11 Z
            clear eσ11
            refine lv_aload_n hx hb dX12_takes_262 rfl (lv_at hl 0 rfl) ?_
            refine lv_lload hx hb dX12_takes_263 (lv_at hl 2 rfl) ?_
            refine lv_lconst (v := (0 : Int64)) hx hb dX12_takes_265 (by decide) ?_
            refine W.lcmp hx hb dX12_takes_266 ?_
            obtain ⟨J13, eJ13, h11⟩ := dlt_s h8
            clear h8
            have kJ13 : ∀ (x12 : Int64) (H : Heap) (locs : List Loc) (ls : Array Slot), Wd (wM X) (tM X) (aM X) X s σ11 H locs → lv_has ls 8 [] → J13 x12 = some σz → W p l e rm_fMM_takes s m args below meth c H locs 0 0 (MQ below (va_Qv (fun u => u = σz) (poW (wM X) (tM X) (aM X) X sz) (aA (aM X) sz)) args s 0 0 (aA (aM X) sz)) (F0 m 279 ls [.long x12, .ref (X.2.1 33)]) := by
              intro x12 H locs ls Z hl h9
              rw [eJ13] at h9
              refine s_33_10 B Z kf_RX12_126 dX12_takes_279 (fun H locs Z => ?_)
              obtain ⟨σ14, eσ14, h10⟩ := dlt_s h9
              clear h9
              replace Z := Wd.eq eσ14 Z
              clear eσ14
              exact reV B Z hz h10 dX12_takes_282
            clear eJ13
            refine lv_if_le (tgt := 275) hx hb dX12_takes_267 (by decide) (fun c15 => ?_) (fun c15 => ?_)
            · have h12 := dit h11 c15
              clear h11
              refine lv_aload_n hx hb dX12_takes_275 rfl (lv_at hl 0 rfl) ?_
              refine g_33_10 B Z kf_RX12_126 dX12_takes_276 ?_
              exact kJ13 (σ11.2 33 10) _ _ _ Z (lv_sub hl [] rfl) h12
            · have h13 := dif h11 c15
              clear h11
              refine lv_lload_n hx hb dX12_takes_270 rfl (lv_at hl 1 rfl) ?_
              refine lv_lneg hx hb dX12_takes_271 ?_
              refine lv_goto (tgt := 279) hx hb dX12_takes_272 (by decide) ?_
              exact kJ13 (-a1) _ _ _ Z (lv_sub hl [] rfl) h13
          clear eJ10
          refine lv_if_le (tgt := 255) hx hb dX12_takes_247 (by decide) (fun c16 => ?_) (fun c16 => ?_)
          · have h15 := dit h14 c16
            clear h14
            refine lv_aload_n hx hb dX12_takes_255 rfl (lv_at hl 0 rfl) ?_
            refine g_33_9 B Z kf_RX12_129 dX12_takes_256 ?_
            exact kJ10 (σ8.2 33 9) _ _ _ Z (lv_sub hl [0, 1, 3] rfl) h15
          · have h16 := dif h14 c16
            clear h14
            refine lv_lload_n hx hb dX12_takes_250 rfl (lv_at hl 2 rfl) ?_
            refine lv_lneg hx hb dX12_takes_251 ?_
            refine lv_goto (tgt := 259) hx hb dX12_takes_252 (by decide) ?_
            exact kJ10 (-a2) _ _ _ Z (lv_sub hl [0, 1, 3] rfl) h16
        clear eJ6
        refine lv_if_le (tgt := 208) hx hb dX12_takes_200 (by decide) (fun c17 => ?_) (fun c17 => ?_)
        · have h18 := dit h17 c17
          clear h17
          refine lv_lload hx hb dX12_takes_208 (lv_at hl 0 rfl) ?_
          refine lv_lconst (v := (0 : Int64)) hx hb dX12_takes_210 (by decide) ?_
          refine W.lcmp hx hb dX12_takes_211 ?_
          refine lv_if_ne (tgt := 235) hx hb dX12_takes_212 (by decide) (fun c18 => ?_) (fun c18 => ?_)
          · have h19 := dif h18 c18
            clear h18
            refine lv_aload_n hx hb dX12_takes_235 rfl (lv_at hl 1 rfl) ?_
            refine g_33_11 B Z kf_RX12_132 dX12_takes_236 ?_
            exact kJ6 (σ.1 33 11) _ _ _ Z (lv_sub hl [1, 2, 3, 0] rfl) h19
          · have h20 := dit h18 c18
            clear h18
            refine lv_aload_n hx hb dX12_takes_215 rfl (lv_at hl 1 rfl) ?_
            refine g_33_11 B Z kf_RX12_132 dX12_takes_216 ?_
            obtain ⟨J19, eJ19, h22⟩ := dlt_s h20
            clear h20
            have kJ19 : ∀ (H : Heap) (locs : List Loc) (ls : Array Slot), Wd (wM X) (tM X) (aM X) X s σ H locs → lv_has ls 8 [(0, .ref (X.2.1 33)), (1, .long a1), (3, .long a2), (6, .long x3)] → J19 () = some σz → W p l e rm_fMM_takes s m args below meth c H locs 0 0 (MQ below (va_Qv (fun u => u = σz) (poW (wM X) (tM X) (aM X) X sz) (aA (aM X) sz)) args s 0 0 (aA (aM X) sz)) (F0 m 227 ls [.ref (X.2.1 33)]) := by
              intro  H locs ls Z hl h21
              rw [eJ19] at h21
              refine lv_iconst (v := (1 : Int32)) hx hb dX12_takes_227 (by decide) ?_
              refine lv_goto (tgt := 239) hx hb dX12_takes_228 (by decide) ?_
              exact kJ6 (1 : Int32) _ _ _ Z (lv_sub hl [0, 1, 2, 3] rfl) h21
            clear eJ19
            refine lv_if_ne (tgt := 227) hx hb dX12_takes_219 (by decide) (fun c20 => ?_) (fun c20 => ?_)
            · have h23 := dif h22 c20
              clear h22
              exact kJ19  _ _ _ Z (lv_sub hl [1, 2, 3, 0] rfl) h23
            · have h24 := dit h22 c20
              clear h22
              refine lv_iload hx hb dX12_takes_222 (lv_at hl 4 rfl) ?_
              refine lv_if_eq (tgt := 231) hx hb dX12_takes_224 (by decide) (fun c21 => ?_) (fun c21 => ?_)
              · have h25 := dit h24 c21
                clear h24
                refine lv_iconst (v := (0 : Int32)) hx hb dX12_takes_231 (by decide) ?_
                refine lv_goto (tgt := 239) hx hb dX12_takes_232 (by decide) ?_
                exact kJ6 (0 : Int32) _ _ _ Z (lv_sub hl [1, 2, 3, 0] rfl) h25
              · have h26 := dif h24 c21
                clear h24
                exact kJ19  _ _ _ Z (lv_sub hl [1, 2, 3, 0] rfl) h26
        · have h27 := dif h17 c17
          clear h17
          refine lv_iload hx hb dX12_takes_203 (lv_at hl 4 rfl) ?_
          refine lv_goto (tgt := 239) hx hb dX12_takes_205 (by decide) ?_
          exact kJ6 a3 _ _ _ Z (lv_sub hl [1, 2, 3, 0] rfl) h27
      clear eJ4
      refine lv_if_ne (tgt := 179) hx hb dX12_takes_172 (by decide) (fun c22 => ?_) (fun c22 => ?_)
      · have h29 := dif h28 c22
        clear h28
        refine lv_lload_n hx hb dX12_takes_179 rfl (lv_at hl 2 rfl) ?_
        refine lv_lneg hx hb dX12_takes_180 ?_
        refine lv_aload_n hx hb dX12_takes_181 rfl (lv_at hl 0 rfl) ?_
        refine g_33_10 B Z kf_RX12_126 dX12_takes_182 ?_
        refine lv_lmul hx hb dX12_takes_185 ?_
        refine lv_aload_n hx hb dX12_takes_186 rfl (lv_at hl 0 rfl) ?_
        refine g_33_9 B Z kf_RX12_129 dX12_takes_187 ?_
        refine lv_lload_n hx hb dX12_takes_190 rfl (lv_at hl 1 rfl) ?_
        refine lv_lmul hx hb dX12_takes_191 ?_
        refine lv_ladd hx hb dX12_takes_192 ?_
        exact kJ4 (((-a2) * (σ.2 33 10)) + ((σ.2 33 9) * a1)) _ _ _ Z (lv_sub hl [0, 1, 2, 3] rfl) h29
      · have h30 := dit h28 c22
        clear h28
        refine lv_lconst (v := (1 : Int64)) hx hb dX12_takes_175 (by decide) ?_
        refine lv_goto (tgt := 193) hx hb dX12_takes_176 (by decide) ?_
        exact kJ4 (1 : Int64) _ _ _ Z (lv_sub hl [0, 1, 2, 3] rfl) h30
    · have h31 := dif h1 c2
      clear h1
      refine lv_aload_n hx hb dX12_takes_48 rfl (lv_at hl 0 rfl) ?_
      refine g_33_13 B Z kf_RX12_114 dX12_takes_49 ?_
      refine lv_lconst (v := (0 : Int64)) hx hb dX12_takes_52 (by decide) ?_
      refine W.lcmp hx hb dX12_takes_53 ?_
      obtain ⟨J24, eJ24, h57⟩ := dlt_s h31
      clear h31
      have kJ24 : ∀ (x23 : Int64) (H : Heap) (locs : List Loc) (ls : Array Slot), Wd (wM X) (tM X) (aM X) X s σ H locs → lv_has ls 8 [(0, .ref (X.2.1 33)), (1, .long a1), (3, .long a2), (5, .int a3)] → J24 x23 = some σz → W p l e rm_fMM_takes s m args below meth c H locs 0 0 (MQ below (va_Qv (fun u => u = σz) (poW (wM X) (tM X) (aM X) X sz) (aA (aM X) sz)) args s 0 0 (aA (aM X) sz)) (F0 m 76 ls [.long x23]) := by
        intro x23 H locs ls Z hl h32
        rw [eJ24] at h32
        refine lv_lstore (lv' := [(6, .long x23), (0, .ref (X.2.1 33)), (1, .long a1), (3, .long a2), (5, .int a3)]) hx hb dX12_takes_76 hl (by decide) rfl (fun ls hl => ?_)
        refine lv_aload_n hx hb dX12_takes_78 rfl (lv_at hl 1 rfl) ?_
        refine lv_lload hx hb dX12_takes_79 (lv_at hl 0 rfl) ?_
        refine lv_lconst (v := (0 : Int64)) hx hb dX12_takes_81 (by decide) ?_
        refine W.lcmp hx hb dX12_takes_82 ?_
        obtain ⟨J26, eJ26, h46⟩ := dlt_s h32
        clear h32
        have kJ26 : ∀ (x25 : Int32) (H : Heap) (locs : List Loc) (ls : Array Slot), Wd (wM X) (tM X) (aM X) X s σ H locs → lv_has ls 8 [(0, .ref (X.2.1 33)), (1, .long a1), (3, .long a2), (6, .long x23)] → J26 x25 = some σz → W p l e rm_fMM_takes s m args below meth c H locs 0 0 (MQ below (va_Qv (fun u => u = σz) (poW (wM X) (tM X) (aM X) X sz) (aA (aM X) sz)) args s 0 0 (aA (aM X) sz)) (F0 m 122 ls [.int x25, .ref (X.2.1 33)]) := by
          intro x25 H locs ls Z hl h33
          rw [eJ26] at h33
          obtain ⟨z27, h34⟩ := dck_s h33
          clear h33
          refine s_33_14 B Z z27 kf_RX12_123 dX12_takes_122 (fun H locs Z => ?_)
          obtain ⟨σ28, eσ28, h35⟩ := dlt_s h34
          clear h34
          replace Z := Wd.eq eσ28 Z
          clear eσ28
          refine lv_aload_n hx hb dX12_takes_125 rfl (lv_at hl 0 rfl) ?_
          refine lv_lload hx hb dX12_takes_126 (lv_at hl 3 rfl) ?_
          refine lv_lconst (v := (0 : Int64)) hx hb dX12_takes_128 (by decide) ?_
          refine W.lcmp hx hb dX12_takes_129 ?_
          obtain ⟨J30, eJ30, h43⟩ := dlt_s h35
          clear h35
          have kJ30 : ∀ (x29 : Int64) (H : Heap) (locs : List Loc) (ls : Array Slot), Wd (wM X) (tM X) (aM X) X s σ28 H locs → lv_has ls 8 [(0, .ref (X.2.1 33)), (1, .long a1), (6, .long x23)] → J30 x29 = some σz → W p l e rm_fMM_takes s m args below meth c H locs 0 0 (MQ below (va_Qv (fun u => u = σz) (poW (wM X) (tM X) (aM X) X sz) (aA (aM X) sz)) args s 0 0 (aA (aM X) sz)) (F0 m 141 ls [.long x29, .ref (X.2.1 33)]) := by
            intro x29 H locs ls Z hl h36
            rw [eJ30] at h36
            refine s_33_12 B Z kf_RX12_120 dX12_takes_141 (fun H locs Z => ?_)
            obtain ⟨σ31, eσ31, h37⟩ := dlt_s h36
            clear h36
            replace Z := Wd.eq eσ31 Z
            clear eσ31
            refine lv_aload_n hx hb dX12_takes_144 rfl (lv_at hl 0 rfl) ?_
            refine lv_lload hx hb dX12_takes_145 (lv_at hl 2 rfl) ?_
            refine lv_lconst (v := (0 : Int64)) hx hb dX12_takes_147 (by decide) ?_
            refine W.lcmp hx hb dX12_takes_148 ?_
            obtain ⟨J33, eJ33, h40⟩ := dlt_s h37
            clear h37
            have kJ33 : ∀ (x32 : Int64) (H : Heap) (locs : List Loc) (ls : Array Slot), Wd (wM X) (tM X) (aM X) X s σ31 H locs → lv_has ls 8 [] → J33 x32 = some σz → W p l e rm_fMM_takes s m args below meth c H locs 0 0 (MQ below (va_Qv (fun u => u = σz) (poW (wM X) (tM X) (aM X) X sz) (aA (aM X) sz)) args s 0 0 (aA (aM X) sz)) (F0 m 160 ls [.long x32, .ref (X.2.1 33)]) := by
              intro x32 H locs ls Z hl h38
              rw [eJ33] at h38
              refine s_33_13 B Z kf_RX12_114 dX12_takes_160 (fun H locs Z => ?_)
              obtain ⟨σ34, eσ34, h39⟩ := dlt_s h38
              clear h38
              replace Z := Wd.eq eσ34 Z
              clear eσ34
              refine lv_goto (tgt := 282) hx hb dX12_takes_163 (by decide) ?_
              exact reV B Z hz h39 dX12_takes_282
            clear eJ33
            refine lv_if_ge (tgt := 156) hx hb dX12_takes_149 (by decide) (fun c35 => ?_) (fun c35 => ?_)
            · have h41 := dit h40 c35
              clear h40
              refine lv_aload_n hx hb dX12_takes_156 rfl (lv_at hl 0 rfl) ?_
              refine g_33_13 B Z kf_RX12_114 dX12_takes_157 ?_
              exact kJ33 (σ31.2 33 13) _ _ _ Z (lv_sub hl [] rfl) h41
            · have h42 := dif h40 c35
              clear h40
              refine lv_lload_n hx hb dX12_takes_152 rfl (lv_at hl 1 rfl) ?_
              refine lv_goto (tgt := 160) hx hb dX12_takes_153 (by decide) ?_
              exact kJ33 a1 _ _ _ Z (lv_sub hl [] rfl) h42
          clear eJ30
          refine lv_if_ge (tgt := 137) hx hb dX12_takes_130 (by decide) (fun c36 => ?_) (fun c36 => ?_)
          · have h44 := dit h43 c36
            clear h43
            refine lv_aload_n hx hb dX12_takes_137 rfl (lv_at hl 0 rfl) ?_
            refine g_33_12 B Z kf_RX12_120 dX12_takes_138 ?_
            exact kJ30 (σ28.2 33 12) _ _ _ Z (lv_sub hl [0, 1, 3] rfl) h44
          · have h45 := dif h43 c36
            clear h43
            refine lv_lload_n hx hb dX12_takes_133 rfl (lv_at hl 2 rfl) ?_
            refine lv_goto (tgt := 141) hx hb dX12_takes_134 (by decide) ?_
            exact kJ30 a2 _ _ _ Z (lv_sub hl [0, 1, 3] rfl) h45
        clear eJ26
        refine lv_if_ge (tgt := 91) hx hb dX12_takes_83 (by decide) (fun c37 => ?_) (fun c37 => ?_)
        · have h47 := dit h46 c37
          clear h46
          refine lv_lload hx hb dX12_takes_91 (lv_at hl 0 rfl) ?_
          refine lv_lconst (v := (0 : Int64)) hx hb dX12_takes_93 (by decide) ?_
          refine W.lcmp hx hb dX12_takes_94 ?_
          refine lv_if_ne (tgt := 118) hx hb dX12_takes_95 (by decide) (fun c38 => ?_) (fun c38 => ?_)
          · have h48 := dif h47 c38
            clear h47
            refine lv_aload_n hx hb dX12_takes_118 rfl (lv_at hl 1 rfl) ?_
            refine g_33_14 B Z kf_RX12_123 dX12_takes_119 ?_
            exact kJ26 (σ.1 33 14) _ _ _ Z (lv_sub hl [1, 2, 3, 0] rfl) h48
          · have h49 := dit h47 c38
            clear h47
            refine lv_aload_n hx hb dX12_takes_98 rfl (lv_at hl 1 rfl) ?_
            refine g_33_14 B Z kf_RX12_123 dX12_takes_99 ?_
            obtain ⟨J39, eJ39, h51⟩ := dlt_s h49
            clear h49
            have kJ39 : ∀ (H : Heap) (locs : List Loc) (ls : Array Slot), Wd (wM X) (tM X) (aM X) X s σ H locs → lv_has ls 8 [(0, .ref (X.2.1 33)), (1, .long a1), (3, .long a2), (6, .long x23)] → J39 () = some σz → W p l e rm_fMM_takes s m args below meth c H locs 0 0 (MQ below (va_Qv (fun u => u = σz) (poW (wM X) (tM X) (aM X) X sz) (aA (aM X) sz)) args s 0 0 (aA (aM X) sz)) (F0 m 110 ls [.ref (X.2.1 33)]) := by
              intro  H locs ls Z hl h50
              rw [eJ39] at h50
              refine lv_iconst (v := (1 : Int32)) hx hb dX12_takes_110 (by decide) ?_
              refine lv_goto (tgt := 122) hx hb dX12_takes_111 (by decide) ?_
              exact kJ26 (1 : Int32) _ _ _ Z (lv_sub hl [0, 1, 2, 3] rfl) h50
            clear eJ39
            refine lv_if_ne (tgt := 110) hx hb dX12_takes_102 (by decide) (fun c40 => ?_) (fun c40 => ?_)
            · have h52 := dif h51 c40
              clear h51
              exact kJ39  _ _ _ Z (lv_sub hl [1, 2, 3, 0] rfl) h52
            · have h53 := dit h51 c40
              clear h51
              refine lv_iload hx hb dX12_takes_105 (lv_at hl 4 rfl) ?_
              refine lv_if_eq (tgt := 114) hx hb dX12_takes_107 (by decide) (fun c41 => ?_) (fun c41 => ?_)
              · have h54 := dit h53 c41
                clear h53
                refine lv_iconst (v := (0 : Int32)) hx hb dX12_takes_114 (by decide) ?_
                refine lv_goto (tgt := 122) hx hb dX12_takes_115 (by decide) ?_
                exact kJ26 (0 : Int32) _ _ _ Z (lv_sub hl [1, 2, 3, 0] rfl) h54
              · have h55 := dif h53 c41
                clear h53
                exact kJ39  _ _ _ Z (lv_sub hl [1, 2, 3, 0] rfl) h55
        · have h56 := dif h46 c37
          clear h46
          refine lv_iload hx hb dX12_takes_86 (lv_at hl 4 rfl) ?_
          refine lv_goto (tgt := 122) hx hb dX12_takes_88 (by decide) ?_
          exact kJ26 a3 _ _ _ Z (lv_sub hl [1, 2, 3, 0] rfl) h56
      clear eJ24
      refine lv_if_ne (tgt := 63) hx hb dX12_takes_54 (by decide) (fun c42 => ?_) (fun c42 => ?_)
      · have h58 := dif h57 c42
        clear h57
        refine lv_lload_n hx hb dX12_takes_63 rfl (lv_at hl 2 rfl) ?_
        refine lv_aload_n hx hb dX12_takes_64 rfl (lv_at hl 0 rfl) ?_
        refine g_33_13 B Z kf_RX12_114 dX12_takes_65 ?_
        refine lv_lmul hx hb dX12_takes_68 ?_
        refine lv_aload_n hx hb dX12_takes_69 rfl (lv_at hl 0 rfl) ?_
        refine g_33_12 B Z kf_RX12_120 dX12_takes_70 ?_
        refine lv_lload_n hx hb dX12_takes_73 rfl (lv_at hl 1 rfl) ?_
        refine lv_lmul hx hb dX12_takes_74 ?_
        refine lv_lsub hx hb dX12_takes_75 ?_
        exact kJ24 ((a2 * (σ.2 33 13)) - ((σ.2 33 12) * a1)) _ _ _ Z (lv_sub hl [0, 1, 2, 3] rfl) h58
      · have h59 := dit h57 c42
        clear h57
        refine lv_ldc2 hx hb B.2.2.2.1 (B.2.2.2.2.1 _ kc_RX12_118) dX12_takes_57 ?_
        refine lv_goto (tgt := 76) hx hb dX12_takes_60 (by decide) ?_
        exact kJ24 (-1 : Int64) _ _ _ Z (lv_sub hl [0, 1, 2, 3] rfl) h59
  · have h60 := dit h0 c1
    clear h0
    refine lv_aload_n hx hb dX12_takes_6 rfl (lv_at hl 0 rfl) ?_
    refine lv_aload_n hx hb dX12_takes_7 rfl (lv_at hl 0 rfl) ?_
    refine g_33_8 B Z kf_RX12_110 dX12_takes_8 ?_
    obtain ⟨J44, eJ44, h64⟩ := dlt_s h60
    clear h60
    have kJ44 : ∀ (x43 : Int32) (H : Heap) (locs : List Loc) (ls : Array Slot), Wd (wM X) (tM X) (aM X) X s σ H locs → lv_has ls 8 [] → J44 x43 = some σz → W p l e rm_fMM_takes s m args below meth c H locs 0 0 (MQ below (va_Qv (fun u => u = σz) (poW (wM X) (tM X) (aM X) X sz) (aA (aM X) sz)) args s 0 0 (aA (aM X) sz)) (F0 m 36 ls [.int x43, .ref (X.2.1 33)]) := by
      intro x43 H locs ls Z hl h61
      rw [eJ44] at h61
      obtain ⟨z45, h62⟩ := dck_s h61
      clear h61
      refine s_33_8 B Z z45 kf_RX12_110 dX12_takes_36 (fun H locs Z => ?_)
      obtain ⟨σ46, eσ46, h63⟩ := dlt_s h62
      clear h62
      replace Z := Wd.eq eσ46 Z
      clear eσ46
      refine lv_goto (tgt := 282) hx hb dX12_takes_39 (by decide) ?_
      exact reV B Z hz h63 dX12_takes_282
    clear eJ44
    obtain ⟨J47, eJ47, h66⟩ := dlt_s h64
    clear h64
    have kJ47 : ∀ (H : Heap) (locs : List Loc) (ls : Array Slot), Wd (wM X) (tM X) (aM X) X s σ H locs → lv_has ls 8 [] → J47 () = some σz → W p l e rm_fMM_takes s m args below meth c H locs 0 0 (MQ below (va_Qv (fun u => u = σz) (poW (wM X) (tM X) (aM X) X sz) (aA (aM X) sz)) args s 0 0 (aA (aM X) sz)) (F0 m 35 ls [.ref (X.2.1 33)]) := by
      intro  H locs ls Z hl h65
      rw [eJ47] at h65
      refine lv_iconst (v := (0 : Int32)) hx hb dX12_takes_35 (by decide) ?_
      exact kJ44 (0 : Int32) _ _ _ Z (lv_sub hl [] rfl) h65
    clear eJ47
    refine lv_if_eq (tgt := 35) hx hb dX12_takes_11 (by decide) (fun c48 => ?_) (fun c48 => ?_)
    · have h67 := dit h66 c48
      clear h66
      exact kJ47  _ _ _ Z (lv_sub hl [] rfl) h67
    · have h68 := dif h66 c48
      clear h66
      refine lv_lload_n hx hb dX12_takes_14 rfl (lv_at hl 2 rfl) ?_
      refine lv_lconst (v := (0 : Int64)) hx hb dX12_takes_15 (by decide) ?_
      refine W.lcmp hx hb dX12_takes_16 ?_
      obtain ⟨J49, eJ49, h70⟩ := dlt_s h68
      clear h68
      have kJ49 : ∀ (H : Heap) (locs : List Loc) (ls : Array Slot), Wd (wM X) (tM X) (aM X) X s σ H locs → lv_has ls 8 [] → J49 () = some σz → W p l e rm_fMM_takes s m args below meth c H locs 0 0 (MQ below (va_Qv (fun u => u = σz) (poW (wM X) (tM X) (aM X) X sz) (aA (aM X) sz)) args s 0 0 (aA (aM X) sz)) (F0 m 31 ls [.ref (X.2.1 33)]) := by
        intro  H locs ls Z hl h69
        rw [eJ49] at h69
        refine lv_iconst (v := (1 : Int32)) hx hb dX12_takes_31 (by decide) ?_
        refine lv_goto (tgt := 36) hx hb dX12_takes_32 (by decide) ?_
        exact kJ44 (1 : Int32) _ _ _ Z (lv_sub hl [] rfl) h69
      clear eJ49
      refine lv_if_gt (tgt := 31) hx hb dX12_takes_17 (by decide) (fun c50 => ?_) (fun c50 => ?_)
      · have h71 := dit h70 c50
        clear h70
        exact kJ49  _ _ _ Z (lv_sub hl [] rfl) h71
      · have h72 := dif h70 c50
        clear h70
        refine lv_lload_n hx hb dX12_takes_20 rfl (lv_at hl 2 rfl) ?_
        refine lv_lconst (v := (0 : Int64)) hx hb dX12_takes_21 (by decide) ?_
        refine W.lcmp hx hb dX12_takes_22 ?_
        refine lv_if_ne (tgt := 35) hx hb dX12_takes_23 (by decide) (fun c51 => ?_) (fun c51 => ?_)
        · have h73 := dif h72 c51
          clear h72
          exact kJ47  _ _ _ Z (lv_sub hl [] rfl) h73
        · have h74 := dit h72 c51
          clear h72
          refine lv_iload hx hb dX12_takes_26 (lv_at hl 3 rfl) ?_
          refine lv_if_ne (tgt := 35) hx hb dX12_takes_28 (by decide) (fun c52 => ?_) (fun c52 => ?_)
          · have h75 := dif h74 c52
            clear h74
            exact kJ47  _ _ _ Z (lv_sub hl [] rfl) h75
          · have h76 := dit h74 c52
            clear h74
            exact kJ49  _ _ _ Z (lv_sub hl [] rfl) h76
theorem dX12_solves_0 : decode cX12_solves 0 = .ok (.aload_n 0, 1) := by decide +kernel
theorem dX12_solves_1 : decode cX12_solves 1 = .ok (.iconst 1, 1) := by decide +kernel
theorem dX12_solves_2 : decode cX12_solves 2 = .ok (.putfield 110, 3) := by decide +kernel
theorem dX12_solves_5 : decode cX12_solves 5 = .ok (.aload_n 0, 1) := by decide +kernel
theorem dX12_solves_6 : decode cX12_solves 6 = .ok (.lconst 0, 1) := by decide +kernel
theorem dX12_solves_7 : decode cX12_solves 7 = .ok (.putfield 126, 3) := by decide +kernel
theorem dX12_solves_10 : decode cX12_solves 10 = .ok (.aload_n 0, 1) := by decide +kernel
theorem dX12_solves_11 : decode cX12_solves 11 = .ok (.lconst 0, 1) := by decide +kernel
theorem dX12_solves_12 : decode cX12_solves 12 = .ok (.putfield 114, 3) := by decide +kernel
theorem dX12_solves_15 : decode cX12_solves 15 = .ok (.aload_n 0, 1) := by decide +kernel
theorem dX12_solves_16 : decode cX12_solves 16 = .ok (.iconst 0, 1) := by decide +kernel
theorem dX12_solves_17 : decode cX12_solves 17 = .ok (.putfield 132, 3) := by decide +kernel
theorem dX12_solves_20 : decode cX12_solves 20 = .ok (.aload_n 0, 1) := by decide +kernel
theorem dX12_solves_21 : decode cX12_solves 21 = .ok (.iconst 0, 1) := by decide +kernel
theorem dX12_solves_22 : decode cX12_solves 22 = .ok (.putfield 123, 3) := by decide +kernel
theorem dX12_solves_25 : decode cX12_solves 25 = .ok (.aload_n 0, 1) := by decide +kernel
theorem dX12_solves_26 : decode cX12_solves 26 = .ok (.iload_n 1, 1) := by decide +kernel
theorem dX12_solves_27 : decode cX12_solves 27 = .ok (.iload_n 1, 1) := by decide +kernel
theorem dX12_solves_28 : decode cX12_solves 28 = .ok (.iconst 1, 1) := by decide +kernel
theorem dX12_solves_29 : decode cX12_solves 29 = .ok (.iadd, 1) := by decide +kernel
theorem dX12_solves_30 : decode cX12_solves 30 = .ok (.iconst 3, 1) := by decide +kernel
theorem dX12_solves_31 : decode cX12_solves 31 = .ok (.irem, 1) := by decide +kernel
theorem dX12_solves_32 : decode cX12_solves 32 = .ok (.iload_n 1, 1) := by decide +kernel
theorem dX12_solves_33 : decode cX12_solves 33 = .ok (.iconst 2, 1) := by decide +kernel
theorem dX12_solves_34 : decode cX12_solves 34 = .ok (.iadd, 1) := by decide +kernel
theorem dX12_solves_35 : decode cX12_solves 35 = .ok (.iconst 3, 1) := by decide +kernel
theorem dX12_solves_36 : decode cX12_solves 36 = .ok (.irem, 1) := by decide +kernel
theorem dX12_solves_37 : decode cX12_solves 37 = .ok (.invokevirtual 135, 3) := by decide +kernel
theorem dX12_solves_40 : decode cX12_solves 40 = .ok (.iconst 0, 1) := by decide +kernel
theorem dX12_solves_41 : decode cX12_solves 41 = .ok (.istore_n 2, 1) := by decide +kernel
theorem dX12_solves_42 : decode cX12_solves 42 = .ok (.iload_n 2, 1) := by decide +kernel
theorem dX12_solves_43 : decode cX12_solves 43 = .ok (.aload_n 0, 1) := by decide +kernel
theorem dX12_solves_44 : decode cX12_solves 44 = .ok (.getfield 103, 3) := by decide +kernel
theorem dX12_solves_47 : decode cX12_solves 47 = .ok (.if_icmp .ge 211, 3) := by decide +kernel
theorem dX12_solves_50 : decode cX12_solves 50 = .ok (.iconst 4, 1) := by decide +kernel
theorem dX12_solves_51 : decode cX12_solves 51 = .ok (.iload_n 2, 1) := by decide +kernel
theorem dX12_solves_52 : decode cX12_solves 52 = .ok (.imul, 1) := by decide +kernel
theorem dX12_solves_53 : decode cX12_solves 53 = .ok (.istore_n 3, 1) := by decide +kernel
theorem dX12_solves_54 : decode cX12_solves 54 = .ok (.aload_n 0, 1) := by decide +kernel
theorem dX12_solves_55 : decode cX12_solves 55 = .ok (.getfield 23, 3) := by decide +kernel
theorem dX12_solves_58 : decode cX12_solves 58 = .ok (.iload_n 3, 1) := by decide +kernel
theorem dX12_solves_59 : decode cX12_solves 59 = .ok (.iconst 1, 1) := by decide +kernel
theorem dX12_solves_60 : decode cX12_solves 60 = .ok (.iadd, 1) := by decide +kernel
theorem dX12_solves_61 : decode cX12_solves 61 = .ok (.laload, 1) := by decide +kernel
theorem dX12_solves_62 : decode cX12_solves 62 = .ok (.lconst 0, 1) := by decide +kernel
theorem dX12_solves_63 : decode cX12_solves 63 = .ok (.lcmp, 1) := by decide +kernel
theorem dX12_solves_64 : decode cX12_solves 64 = .ok (.ifCond .ne 39, 3) := by decide +kernel
theorem dX12_solves_67 : decode cX12_solves 67 = .ok (.aload_n 0, 1) := by decide +kernel
theorem dX12_solves_68 : decode cX12_solves 68 = .ok (.aload_n 0, 1) := by decide +kernel
theorem dX12_solves_69 : decode cX12_solves 69 = .ok (.getfield 23, 3) := by decide +kernel
theorem dX12_solves_72 : decode cX12_solves 72 = .ok (.iload_n 3, 1) := by decide +kernel
theorem dX12_solves_73 : decode cX12_solves 73 = .ok (.laload, 1) := by decide +kernel
theorem dX12_solves_74 : decode cX12_solves 74 = .ok (.aload_n 0, 1) := by decide +kernel
theorem dX12_solves_75 : decode cX12_solves 75 = .ok (.getfield 23, 3) := by decide +kernel
theorem dX12_solves_78 : decode cX12_solves 78 = .ok (.iload_n 3, 1) := by decide +kernel
theorem dX12_solves_79 : decode cX12_solves 79 = .ok (.iconst 2, 1) := by decide +kernel
theorem dX12_solves_80 : decode cX12_solves 80 = .ok (.iadd, 1) := by decide +kernel
theorem dX12_solves_81 : decode cX12_solves 81 = .ok (.laload, 1) := by decide +kernel
theorem dX12_solves_82 : decode cX12_solves 82 = .ok (.aload_n 0, 1) := by decide +kernel
theorem dX12_solves_83 : decode cX12_solves 83 = .ok (.getfield 23, 3) := by decide +kernel
theorem dX12_solves_86 : decode cX12_solves 86 = .ok (.iload_n 3, 1) := by decide +kernel
theorem dX12_solves_87 : decode cX12_solves 87 = .ok (.iconst 3, 1) := by decide +kernel
theorem dX12_solves_88 : decode cX12_solves 88 = .ok (.iadd, 1) := by decide +kernel
theorem dX12_solves_89 : decode cX12_solves 89 = .ok (.laload, 1) := by decide +kernel
theorem dX12_solves_90 : decode cX12_solves 90 = .ok (.lconst 1, 1) := by decide +kernel
theorem dX12_solves_91 : decode cX12_solves 91 = .ok (.lcmp, 1) := by decide +kernel
theorem dX12_solves_92 : decode cX12_solves 92 = .ok (.ifCond .ne 7, 3) := by decide +kernel
theorem dX12_solves_95 : decode cX12_solves 95 = .ok (.iconst 1, 1) := by decide +kernel
theorem dX12_solves_96 : decode cX12_solves 96 = .ok (.goto 4, 3) := by decide +kernel
theorem dX12_solves_99 : decode cX12_solves 99 = .ok (.iconst 0, 1) := by decide +kernel
theorem dX12_solves_100 : decode cX12_solves 100 = .ok (.invokevirtual 139, 3) := by decide +kernel
theorem dX12_solves_103 : decode cX12_solves 103 = .ok (.iconst 0, 1) := by decide +kernel
theorem dX12_solves_104 : decode cX12_solves 104 = .ok (.istore 4, 2) := by decide +kernel
theorem dX12_solves_106 : decode cX12_solves 106 = .ok (.iload 4, 2) := by decide +kernel
theorem dX12_solves_108 : decode cX12_solves 108 = .ok (.aload_n 0, 1) := by decide +kernel
theorem dX12_solves_109 : decode cX12_solves 109 = .ok (.getfield 103, 3) := by decide +kernel
theorem dX12_solves_112 : decode cX12_solves 112 = .ok (.if_icmp .ge 140, 3) := by decide +kernel
theorem dX12_solves_115 : decode cX12_solves 115 = .ok (.aload_n 0, 1) := by decide +kernel
theorem dX12_solves_116 : decode cX12_solves 116 = .ok (.getfield 23, 3) := by decide +kernel
theorem dX12_solves_119 : decode cX12_solves 119 = .ok (.iload_n 3, 1) := by decide +kernel
theorem dX12_solves_120 : decode cX12_solves 120 = .ok (.iconst 1, 1) := by decide +kernel
theorem dX12_solves_121 : decode cX12_solves 121 = .ok (.iadd, 1) := by decide +kernel
theorem dX12_solves_122 : decode cX12_solves 122 = .ok (.laload, 1) := by decide +kernel
theorem dX12_solves_123 : decode cX12_solves 123 = .ok (.lconst 0, 1) := by decide +kernel
theorem dX12_solves_124 : decode cX12_solves 124 = .ok (.lcmp, 1) := by decide +kernel
theorem dX12_solves_125 : decode cX12_solves 125 = .ok (.ifCond .le 127, 3) := by decide +kernel
theorem dX12_solves_128 : decode cX12_solves 128 = .ok (.iconst 4, 1) := by decide +kernel
theorem dX12_solves_129 : decode cX12_solves 129 = .ok (.iload 4, 2) := by decide +kernel
theorem dX12_solves_131 : decode cX12_solves 131 = .ok (.imul, 1) := by decide +kernel
theorem dX12_solves_132 : decode cX12_solves 132 = .ok (.istore 5, 2) := by decide +kernel
theorem dX12_solves_134 : decode cX12_solves 134 = .ok (.aload_n 0, 1) := by decide +kernel
theorem dX12_solves_135 : decode cX12_solves 135 = .ok (.getfield 23, 3) := by decide +kernel
theorem dX12_solves_138 : decode cX12_solves 138 = .ok (.iload 5, 2) := by decide +kernel
theorem dX12_solves_140 : decode cX12_solves 140 = .ok (.iconst 1, 1) := by decide +kernel
theorem dX12_solves_141 : decode cX12_solves 141 = .ok (.iadd, 1) := by decide +kernel
theorem dX12_solves_142 : decode cX12_solves 142 = .ok (.laload, 1) := by decide +kernel
theorem dX12_solves_143 : decode cX12_solves 143 = .ok (.lconst 0, 1) := by decide +kernel
theorem dX12_solves_144 : decode cX12_solves 144 = .ok (.lcmp, 1) := by decide +kernel
theorem dX12_solves_145 : decode cX12_solves 145 = .ok (.ifCond .ge 101, 3) := by decide +kernel
theorem dX12_solves_148 : decode cX12_solves 148 = .ok (.aload_n 0, 1) := by decide +kernel
theorem dX12_solves_149 : decode cX12_solves 149 = .ok (.getfield 23, 3) := by decide +kernel
theorem dX12_solves_152 : decode cX12_solves 152 = .ok (.iload 5, 2) := by decide +kernel
theorem dX12_solves_154 : decode cX12_solves 154 = .ok (.iconst 1, 1) := by decide +kernel
theorem dX12_solves_155 : decode cX12_solves 155 = .ok (.iadd, 1) := by decide +kernel
theorem dX12_solves_156 : decode cX12_solves 156 = .ok (.laload, 1) := by decide +kernel
theorem dX12_solves_157 : decode cX12_solves 157 = .ok (.lneg, 1) := by decide +kernel
theorem dX12_solves_158 : decode cX12_solves 158 = .ok (.lstore 6, 2) := by decide +kernel
theorem dX12_solves_160 : decode cX12_solves 160 = .ok (.aload_n 0, 1) := by decide +kernel
theorem dX12_solves_161 : decode cX12_solves 161 = .ok (.getfield 23, 3) := by decide +kernel
theorem dX12_solves_164 : decode cX12_solves 164 = .ok (.iload_n 3, 1) := by decide +kernel
theorem dX12_solves_165 : decode cX12_solves 165 = .ok (.iconst 1, 1) := by decide +kernel
theorem dX12_solves_166 : decode cX12_solves 166 = .ok (.iadd, 1) := by decide +kernel
theorem dX12_solves_167 : decode cX12_solves 167 = .ok (.laload, 1) := by decide +kernel
theorem dX12_solves_168 : decode cX12_solves 168 = .ok (.lstore 8, 2) := by decide +kernel
theorem dX12_solves_170 : decode cX12_solves 170 = .ok (.aload_n 0, 1) := by decide +kernel
theorem dX12_solves_171 : decode cX12_solves 171 = .ok (.lload 6, 2) := by decide +kernel
theorem dX12_solves_173 : decode cX12_solves 173 = .ok (.aload_n 0, 1) := by decide +kernel
theorem dX12_solves_174 : decode cX12_solves 174 = .ok (.getfield 23, 3) := by decide +kernel
theorem dX12_solves_177 : decode cX12_solves 177 = .ok (.iload_n 3, 1) := by decide +kernel
theorem dX12_solves_178 : decode cX12_solves 178 = .ok (.laload, 1) := by decide +kernel
theorem dX12_solves_179 : decode cX12_solves 179 = .ok (.lmul, 1) := by decide +kernel
theorem dX12_solves_180 : decode cX12_solves 180 = .ok (.lload 8, 2) := by decide +kernel
theorem dX12_solves_182 : decode cX12_solves 182 = .ok (.aload_n 0, 1) := by decide +kernel
theorem dX12_solves_183 : decode cX12_solves 183 = .ok (.getfield 23, 3) := by decide +kernel
theorem dX12_solves_186 : decode cX12_solves 186 = .ok (.iload 5, 2) := by decide +kernel
theorem dX12_solves_188 : decode cX12_solves 188 = .ok (.laload, 1) := by decide +kernel
theorem dX12_solves_189 : decode cX12_solves 189 = .ok (.lmul, 1) := by decide +kernel
theorem dX12_solves_190 : decode cX12_solves 190 = .ok (.ladd, 1) := by decide +kernel
theorem dX12_solves_191 : decode cX12_solves 191 = .ok (.lload 6, 2) := by decide +kernel
theorem dX12_solves_193 : decode cX12_solves 193 = .ok (.aload_n 0, 1) := by decide +kernel
theorem dX12_solves_194 : decode cX12_solves 194 = .ok (.getfield 23, 3) := by decide +kernel
theorem dX12_solves_197 : decode cX12_solves 197 = .ok (.iload_n 3, 1) := by decide +kernel
theorem dX12_solves_198 : decode cX12_solves 198 = .ok (.iconst 2, 1) := by decide +kernel
theorem dX12_solves_199 : decode cX12_solves 199 = .ok (.iadd, 1) := by decide +kernel
theorem dX12_solves_200 : decode cX12_solves 200 = .ok (.laload, 1) := by decide +kernel
theorem dX12_solves_201 : decode cX12_solves 201 = .ok (.lmul, 1) := by decide +kernel
theorem dX12_solves_202 : decode cX12_solves 202 = .ok (.lload 8, 2) := by decide +kernel
theorem dX12_solves_204 : decode cX12_solves 204 = .ok (.aload_n 0, 1) := by decide +kernel
theorem dX12_solves_205 : decode cX12_solves 205 = .ok (.getfield 23, 3) := by decide +kernel
theorem dX12_solves_208 : decode cX12_solves 208 = .ok (.iload 5, 2) := by decide +kernel
theorem dX12_solves_210 : decode cX12_solves 210 = .ok (.iconst 2, 1) := by decide +kernel
theorem dX12_solves_211 : decode cX12_solves 211 = .ok (.iadd, 1) := by decide +kernel
theorem dX12_solves_212 : decode cX12_solves 212 = .ok (.laload, 1) := by decide +kernel
theorem dX12_solves_213 : decode cX12_solves 213 = .ok (.lmul, 1) := by decide +kernel
theorem dX12_solves_214 : decode cX12_solves 214 = .ok (.ladd, 1) := by decide +kernel
theorem dX12_solves_215 : decode cX12_solves 215 = .ok (.aload_n 0, 1) := by decide +kernel
theorem dX12_solves_216 : decode cX12_solves 216 = .ok (.getfield 23, 3) := by decide +kernel
theorem dX12_solves_219 : decode cX12_solves 219 = .ok (.iload_n 3, 1) := by decide +kernel
theorem dX12_solves_220 : decode cX12_solves 220 = .ok (.iconst 3, 1) := by decide +kernel
theorem dX12_solves_221 : decode cX12_solves 221 = .ok (.iadd, 1) := by decide +kernel
theorem dX12_solves_222 : decode cX12_solves 222 = .ok (.laload, 1) := by decide +kernel
theorem dX12_solves_223 : decode cX12_solves 223 = .ok (.aload_n 0, 1) := by decide +kernel
theorem dX12_solves_224 : decode cX12_solves 224 = .ok (.getfield 23, 3) := by decide +kernel
theorem dX12_solves_227 : decode cX12_solves 227 = .ok (.iload 5, 2) := by decide +kernel
theorem dX12_solves_229 : decode cX12_solves 229 = .ok (.iconst 3, 1) := by decide +kernel
theorem dX12_solves_230 : decode cX12_solves 230 = .ok (.iadd, 1) := by decide +kernel
theorem dX12_solves_231 : decode cX12_solves 231 = .ok (.laload, 1) := by decide +kernel
theorem dX12_solves_232 : decode cX12_solves 232 = .ok (.ladd, 1) := by decide +kernel
theorem dX12_solves_233 : decode cX12_solves 233 = .ok (.lconst 0, 1) := by decide +kernel
theorem dX12_solves_234 : decode cX12_solves 234 = .ok (.lcmp, 1) := by decide +kernel
theorem dX12_solves_235 : decode cX12_solves 235 = .ok (.ifCond .le 7, 3) := by decide +kernel
theorem dX12_solves_238 : decode cX12_solves 238 = .ok (.iconst 1, 1) := by decide +kernel
theorem dX12_solves_239 : decode cX12_solves 239 = .ok (.goto 4, 3) := by decide +kernel
theorem dX12_solves_242 : decode cX12_solves 242 = .ok (.iconst 0, 1) := by decide +kernel
theorem dX12_solves_243 : decode cX12_solves 243 = .ok (.invokevirtual 139, 3) := by decide +kernel
theorem dX12_solves_246 : decode cX12_solves 246 = .ok (.iinc 4 1, 3) := by decide +kernel
theorem dX12_solves_249 : decode cX12_solves 249 = .ok (.goto (-143), 3) := by decide +kernel
theorem dX12_solves_252 : decode cX12_solves 252 = .ok (.iinc 2 1, 3) := by decide +kernel
theorem dX12_solves_255 : decode cX12_solves 255 = .ok (.goto (-213), 3) := by decide +kernel
theorem dX12_solves_258 : decode cX12_solves 258 = .ok (.aload_n 0, 1) := by decide +kernel
theorem dX12_solves_259 : decode cX12_solves 259 = .ok (.getfield 126, 3) := by decide +kernel
theorem dX12_solves_262 : decode cX12_solves 262 = .ok (.lconst 0, 1) := by decide +kernel
theorem dX12_solves_263 : decode cX12_solves 263 = .ok (.lcmp, 1) := by decide +kernel
theorem dX12_solves_264 : decode cX12_solves 264 = .ok (.ifCond .le 74, 3) := by decide +kernel
theorem dX12_solves_267 : decode cX12_solves 267 = .ok (.aload_n 0, 1) := by decide +kernel
theorem dX12_solves_268 : decode cX12_solves 268 = .ok (.getfield 114, 3) := by decide +kernel
theorem dX12_solves_271 : decode cX12_solves 271 = .ok (.lconst 0, 1) := by decide +kernel
theorem dX12_solves_272 : decode cX12_solves 272 = .ok (.lcmp, 1) := by decide +kernel
theorem dX12_solves_273 : decode cX12_solves 273 = .ok (.ifCond .le 65, 3) := by decide +kernel
theorem dX12_solves_276 : decode cX12_solves 276 = .ok (.aload_n 0, 1) := by decide +kernel
theorem dX12_solves_277 : decode cX12_solves 277 = .ok (.getfield 120, 3) := by decide +kernel
theorem dX12_solves_280 : decode cX12_solves 280 = .ok (.aload_n 0, 1) := by decide +kernel
theorem dX12_solves_281 : decode cX12_solves 281 = .ok (.getfield 126, 3) := by decide +kernel
theorem dX12_solves_284 : decode cX12_solves 284 = .ok (.lmul, 1) := by decide +kernel
theorem dX12_solves_285 : decode cX12_solves 285 = .ok (.aload_n 0, 1) := by decide +kernel
theorem dX12_solves_286 : decode cX12_solves 286 = .ok (.getfield 129, 3) := by decide +kernel
theorem dX12_solves_289 : decode cX12_solves 289 = .ok (.aload_n 0, 1) := by decide +kernel
theorem dX12_solves_290 : decode cX12_solves 290 = .ok (.getfield 114, 3) := by decide +kernel
theorem dX12_solves_293 : decode cX12_solves 293 = .ok (.lmul, 1) := by decide +kernel
theorem dX12_solves_294 : decode cX12_solves 294 = .ok (.lsub, 1) := by decide +kernel
theorem dX12_solves_295 : decode cX12_solves 295 = .ok (.lstore_n 2, 1) := by decide +kernel
theorem dX12_solves_296 : decode cX12_solves 296 = .ok (.aload_n 0, 1) := by decide +kernel
theorem dX12_solves_297 : decode cX12_solves 297 = .ok (.aload_n 0, 1) := by decide +kernel
theorem dX12_solves_298 : decode cX12_solves 298 = .ok (.getfield 110, 3) := by decide +kernel
theorem dX12_solves_301 : decode cX12_solves 301 = .ok (.ifCond .eq 33, 3) := by decide +kernel
theorem dX12_solves_304 : decode cX12_solves 304 = .ok (.lload_n 2, 1) := by decide +kernel
theorem dX12_solves_305 : decode cX12_solves 305 = .ok (.lconst 0, 1) := by decide +kernel
theorem dX12_solves_306 : decode cX12_solves 306 = .ok (.lcmp, 1) := by decide +kernel
theorem dX12_solves_307 : decode cX12_solves 307 = .ok (.ifCond .gt 23, 3) := by decide +kernel
theorem dX12_solves_310 : decode cX12_solves 310 = .ok (.lload_n 2, 1) := by decide +kernel
theorem dX12_solves_311 : decode cX12_solves 311 = .ok (.lconst 0, 1) := by decide +kernel
theorem dX12_solves_312 : decode cX12_solves 312 = .ok (.lcmp, 1) := by decide +kernel
theorem dX12_solves_313 : decode cX12_solves 313 = .ok (.ifCond .ne 21, 3) := by decide +kernel
theorem dX12_solves_316 : decode cX12_solves 316 = .ok (.aload_n 0, 1) := by decide +kernel
theorem dX12_solves_317 : decode cX12_solves 317 = .ok (.getfield 132, 3) := by decide +kernel
theorem dX12_solves_320 : decode cX12_solves 320 = .ok (.ifCond .ne 14, 3) := by decide +kernel
theorem dX12_solves_323 : decode cX12_solves 323 = .ok (.aload_n 0, 1) := by decide +kernel
theorem dX12_solves_324 : decode cX12_solves 324 = .ok (.getfield 123, 3) := by decide +kernel
theorem dX12_solves_327 : decode cX12_solves 327 = .ok (.ifCond .ne 7, 3) := by decide +kernel
theorem dX12_solves_330 : decode cX12_solves 330 = .ok (.iconst 1, 1) := by decide +kernel
theorem dX12_solves_331 : decode cX12_solves 331 = .ok (.goto 4, 3) := by decide +kernel
theorem dX12_solves_334 : decode cX12_solves 334 = .ok (.iconst 0, 1) := by decide +kernel
theorem dX12_solves_335 : decode cX12_solves 335 = .ok (.putfield 110, 3) := by decide +kernel
theorem dX12_solves_338 : decode cX12_solves 338 = .ok (.return_, 1) := by decide +kernel
def rm_fMM_solves : Room := { frames := 3, cells := 0, slots := 0, locals := 119 }
set_option maxHeartbeats 4000000 in
set_option maxRecDepth 100000 in
theorem c_fMM_solves (l : Launch) (X : eX) (sz : Nat) (a1 : Int32) (σ : sT) (σz : sT) (h0 : fMM_solves a1 σ = some σz) : ctV l yX12_solves cX12_solves 10 none rm_fMM_solves [.ref (X.2.1 33), .int a1] (wM X) (tM X) (aM X) X sz σ σz := by
  refine ct_of (by decide +kernel) (Nat.le_of_ble_eq_true rfl) ?_
  intro p e s m args below meth c ls hz B hl Z
  have B : Bd p s m args meth c RX12 cX12_solves 10 none := B
  have hl : lv_has ls 10 [(0, .ref (X.2.1 33)), (1, .int a1)] := hl
  have hx := B.1
  have hb := B.2.1
  unfold fMM_solves at h0
  refine lv_aload_n hx hb dX12_solves_0 rfl (lv_at hl 0 rfl) ?_
  refine lv_iconst (v := (1 : Int32)) hx hb dX12_solves_1 (by decide) ?_
  refine s_33_8 B Z (by decide) kf_RX12_110 dX12_solves_2 (fun H locs Z => ?_)
  obtain ⟨σ1, eσ1, h1⟩ := dlt_s h0
  clear h0
  replace Z := Wd.eq eσ1 Z
  clear eσ1
  refine lv_aload_n hx hb dX12_solves_5 rfl (lv_at hl 0 rfl) ?_
  refine lv_lconst (v := (0 : Int64)) hx hb dX12_solves_6 (by decide) ?_
  refine s_33_10 B Z kf_RX12_126 dX12_solves_7 (fun H locs Z => ?_)
  obtain ⟨σ2, eσ2, h2⟩ := dlt_s h1
  clear h1
  replace Z := Wd.eq eσ2 Z
  clear eσ2
  refine lv_aload_n hx hb dX12_solves_10 rfl (lv_at hl 0 rfl) ?_
  refine lv_lconst (v := (0 : Int64)) hx hb dX12_solves_11 (by decide) ?_
  refine s_33_13 B Z kf_RX12_114 dX12_solves_12 (fun H locs Z => ?_)
  obtain ⟨σ3, eσ3, h3⟩ := dlt_s h2
  clear h2
  replace Z := Wd.eq eσ3 Z
  clear eσ3
  refine lv_aload_n hx hb dX12_solves_15 rfl (lv_at hl 0 rfl) ?_
  refine lv_iconst (v := (0 : Int32)) hx hb dX12_solves_16 (by decide) ?_
  refine s_33_11 B Z (by decide) kf_RX12_132 dX12_solves_17 (fun H locs Z => ?_)
  obtain ⟨σ4, eσ4, h4⟩ := dlt_s h3
  clear h3
  replace Z := Wd.eq eσ4 Z
  clear eσ4
  refine lv_aload_n hx hb dX12_solves_20 rfl (lv_at hl 0 rfl) ?_
  refine lv_iconst (v := (0 : Int32)) hx hb dX12_solves_21 (by decide) ?_
  refine s_33_14 B Z (by decide) kf_RX12_123 dX12_solves_22 (fun H locs Z => ?_)
  obtain ⟨σ5, eσ5, h5⟩ := dlt_s h4
  clear h4
  replace Z := Wd.eq eσ5 Z
  clear eσ5
  refine lv_aload_n hx hb dX12_solves_25 rfl (lv_at hl 0 rfl) ?_
  refine lv_iload_n hx hb dX12_solves_26 rfl (lv_at hl 1 rfl) ?_
  refine lv_iload_n hx hb dX12_solves_27 rfl (lv_at hl 1 rfl) ?_
  refine lv_iconst (v := (1 : Int32)) hx hb dX12_solves_28 (by decide) ?_
  refine lv_iadd hx hb dX12_solves_29 ?_
  refine lv_iconst (v := (3 : Int32)) hx hb dX12_solves_30 (by decide) ?_
  refine lv_irem hx hb dX12_solves_31 (by decide) ?_
  refine lv_iload_n hx hb dX12_solves_32 rfl (lv_at hl 1 rfl) ?_
  refine lv_iconst (v := (2 : Int32)) hx hb dX12_solves_33 (by decide) ?_
  refine lv_iadd hx hb dX12_solves_34 ?_
  refine lv_iconst (v := (3 : Int32)) hx hb dX12_solves_35 (by decide) ?_
  refine lv_irem hx hb dX12_solves_36 (by decide) ?_
  obtain ⟨σ7, hc5, h6⟩ := db1_s h5
  clear h5
  refine cV_V [.int a1, .int ((a1 + (1 : Int32)) - (a1 + (1 : Int32)) / (3 : Int32) * (3 : Int32)), .int ((a1 + (2 : Int32)) - (a1 + (2 : Int32)) / (3 : Int32) * (3 : Int32))] [] B mx_yX12_loses (c_fMM_loses l X _ a1 ((a1 + (1 : Int32)) - (a1 + (1 : Int32)) / (3 : Int32) * (3 : Int32)) ((a1 + (2 : Int32)) - (a1 + (2 : Int32)) / (3 : Int32) * (3 : Int32)) σ5 σ7 hc5) kl_RX12_135 mi_yX12_loses (rv_33 _ _) hcl_12 Z hl rfl rfl ⟨Nat.le_of_ble_eq_true rfl, Nat.le_of_ble_eq_true rfl⟩ rfl rfl (Nat.le_of_ble_eq_true rfl) dX12_solves_37 (fun H locs Z => ?_)
  clear hc5
  refine lv_iconst (v := (0 : Int32)) hx hb dX12_solves_40 (by decide) ?_
  refine lv_istore_n (lv' := [(2, .int (0 : Int32)), (0, .ref (X.2.1 33)), (1, .int a1)]) hx hb dX12_solves_41 rfl hl (by decide) rfl (fun ls hl => ?_)
  obtain ⟨K11, eK11, h31⟩ := dlt_s h6
  clear h6
  have kK11 : ∀ (σ10 : sT) (H : Heap) (locs : List Loc) (ls : Array Slot), Wd (wM X) (tM X) (aM X) X s σ10 H locs → lv_has ls 10 [(0, .ref (X.2.1 33))] → K11 σ10 = some σz → W p l e rm_fMM_solves s m args below meth c H locs 0 0 (MQ below (va_Qv (fun u => u = σz) (poW (wM X) (tM X) (aM X) X sz) (aA (aM X) sz)) args s 0 0 (aA (aM X) sz)) (F0 m 258 ls []) := by
    intro σ10 H locs ls Z hl h7
    rw [eK11] at h7
    refine lv_aload_n hx hb dX12_solves_258 rfl (lv_at hl 0 rfl) ?_
    refine g_33_10 B Z kf_RX12_126 dX12_solves_259 ?_
    refine lv_lconst (v := (0 : Int64)) hx hb dX12_solves_262 (by decide) ?_
    refine W.lcmp hx hb dX12_solves_263 ?_
    refine lv_if_le (tgt := 338) hx hb dX12_solves_264 (by decide) (fun c12 => ?_) (fun c12 => ?_)
    · have h8 := dit h7 c12
      clear h7
      exact reV B Z hz h8 dX12_solves_338
    · have h9 := dif h7 c12
      clear h7
      refine lv_aload_n hx hb dX12_solves_267 rfl (lv_at hl 0 rfl) ?_
      refine g_33_13 B Z kf_RX12_114 dX12_solves_268 ?_
      refine lv_lconst (v := (0 : Int64)) hx hb dX12_solves_271 (by decide) ?_
      refine W.lcmp hx hb dX12_solves_272 ?_
      refine lv_if_le (tgt := 338) hx hb dX12_solves_273 (by decide) (fun c13 => ?_) (fun c13 => ?_)
      · have h10 := dit h9 c13
        clear h9
        exact reV B Z hz h10 dX12_solves_338
      · have h11 := dif h9 c13
        clear h9
        refine lv_aload_n hx hb dX12_solves_276 rfl (lv_at hl 0 rfl) ?_
        refine g_33_12 B Z kf_RX12_120 dX12_solves_277 ?_
        refine lv_aload_n hx hb dX12_solves_280 rfl (lv_at hl 0 rfl) ?_
        refine g_33_10 B Z kf_RX12_126 dX12_solves_281 ?_
        refine lv_lmul hx hb dX12_solves_284 ?_
        refine lv_aload_n hx hb dX12_solves_285 rfl (lv_at hl 0 rfl) ?_
        refine g_33_9 B Z kf_RX12_129 dX12_solves_286 ?_
        refine lv_aload_n hx hb dX12_solves_289 rfl (lv_at hl 0 rfl) ?_
        refine g_33_13 B Z kf_RX12_114 dX12_solves_290 ?_
        refine lv_lmul hx hb dX12_solves_293 ?_
        refine lv_lsub hx hb dX12_solves_294 ?_
        refine lv_topl (fun x14 ex14 => ?_)
        have h12 := dlt_e ex14 h11
        clear ex14 h11
        refine lv_lstore_n (lv' := [(2, .long x14), (0, .ref (X.2.1 33))]) hx hb dX12_solves_295 rfl hl (by decide) rfl (fun ls hl => ?_)
        refine lv_aload_n hx hb dX12_solves_296 rfl (lv_at hl 1 rfl) ?_
        refine lv_aload_n hx hb dX12_solves_297 rfl (lv_at hl 1 rfl) ?_
        refine g_33_8 B Z kf_RX12_110 dX12_solves_298 ?_
        obtain ⟨J16, eJ16, h16⟩ := dlt_s h12
        clear h12
        have kJ16 : ∀ (x15 : Int32) (H : Heap) (locs : List Loc) (ls : Array Slot), Wd (wM X) (tM X) (aM X) X s σ10 H locs → lv_has ls 10 [] → J16 x15 = some σz → W p l e rm_fMM_solves s m args below meth c H locs 0 0 (MQ below (va_Qv (fun u => u = σz) (poW (wM X) (tM X) (aM X) X sz) (aA (aM X) sz)) args s 0 0 (aA (aM X) sz)) (F0 m 335 ls [.int x15, .ref (X.2.1 33)]) := by
          intro x15 H locs ls Z hl h13
          rw [eJ16] at h13
          obtain ⟨z17, h14⟩ := dck_s h13
          clear h13
          refine s_33_8 B Z z17 kf_RX12_110 dX12_solves_335 (fun H locs Z => ?_)
          obtain ⟨σ18, eσ18, h15⟩ := dlt_s h14
          clear h14
          replace Z := Wd.eq eσ18 Z
          clear eσ18
          exact reV B Z hz h15 dX12_solves_338
        clear eJ16
        obtain ⟨J19, eJ19, h18⟩ := dlt_s h16
        clear h16
        have kJ19 : ∀ (H : Heap) (locs : List Loc) (ls : Array Slot), Wd (wM X) (tM X) (aM X) X s σ10 H locs → lv_has ls 10 [] → J19 () = some σz → W p l e rm_fMM_solves s m args below meth c H locs 0 0 (MQ below (va_Qv (fun u => u = σz) (poW (wM X) (tM X) (aM X) X sz) (aA (aM X) sz)) args s 0 0 (aA (aM X) sz)) (F0 m 334 ls [.ref (X.2.1 33)]) := by
          intro  H locs ls Z hl h17
          rw [eJ19] at h17
          refine lv_iconst (v := (0 : Int32)) hx hb dX12_solves_334 (by decide) ?_
          exact kJ16 (0 : Int32) _ _ _ Z (lv_sub hl [] rfl) h17
        clear eJ19
        refine lv_if_eq (tgt := 334) hx hb dX12_solves_301 (by decide) (fun c20 => ?_) (fun c20 => ?_)
        · have h19 := dit h18 c20
          clear h18
          exact kJ19  _ _ _ Z (lv_sub hl [] rfl) h19
        · have h20 := dif h18 c20
          clear h18
          refine lv_lload_n hx hb dX12_solves_304 rfl (lv_at hl 0 rfl) ?_
          refine lv_lconst (v := (0 : Int64)) hx hb dX12_solves_305 (by decide) ?_
          refine W.lcmp hx hb dX12_solves_306 ?_
          obtain ⟨J21, eJ21, h22⟩ := dlt_s h20
          clear h20
          have kJ21 : ∀ (H : Heap) (locs : List Loc) (ls : Array Slot), Wd (wM X) (tM X) (aM X) X s σ10 H locs → lv_has ls 10 [] → J21 () = some σz → W p l e rm_fMM_solves s m args below meth c H locs 0 0 (MQ below (va_Qv (fun u => u = σz) (poW (wM X) (tM X) (aM X) X sz) (aA (aM X) sz)) args s 0 0 (aA (aM X) sz)) (F0 m 330 ls [.ref (X.2.1 33)]) := by
            intro  H locs ls Z hl h21
            rw [eJ21] at h21
            refine lv_iconst (v := (1 : Int32)) hx hb dX12_solves_330 (by decide) ?_
            refine lv_goto (tgt := 335) hx hb dX12_solves_331 (by decide) ?_
            exact kJ16 (1 : Int32) _ _ _ Z (lv_sub hl [] rfl) h21
          clear eJ21
          refine lv_if_gt (tgt := 330) hx hb dX12_solves_307 (by decide) (fun c22 => ?_) (fun c22 => ?_)
          · have h23 := dit h22 c22
            clear h22
            exact kJ21  _ _ _ Z (lv_sub hl [] rfl) h23
          · have h24 := dif h22 c22
            clear h22
            refine lv_lload_n hx hb dX12_solves_310 rfl (lv_at hl 0 rfl) ?_
            refine lv_lconst (v := (0 : Int64)) hx hb dX12_solves_311 (by decide) ?_
            refine W.lcmp hx hb dX12_solves_312 ?_
            refine lv_if_ne (tgt := 334) hx hb dX12_solves_313 (by decide) (fun c23 => ?_) (fun c23 => ?_)
            · have h25 := dif h24 c23
              clear h24
              exact kJ19  _ _ _ Z (lv_sub hl [] rfl) h25
            · have h26 := dit h24 c23
              clear h24
              refine lv_aload_n hx hb dX12_solves_316 rfl (lv_at hl 1 rfl) ?_
              refine g_33_11 B Z kf_RX12_132 dX12_solves_317 ?_
              refine lv_if_ne (tgt := 334) hx hb dX12_solves_320 (by decide) (fun c24 => ?_) (fun c24 => ?_)
              · have h27 := dif h26 c24
                clear h26
                exact kJ19  _ _ _ Z (lv_sub hl [] rfl) h27
              · have h28 := dit h26 c24
                clear h26
                refine lv_aload_n hx hb dX12_solves_323 rfl (lv_at hl 1 rfl) ?_
                refine g_33_14 B Z kf_RX12_123 dX12_solves_324 ?_
                refine lv_if_ne (tgt := 334) hx hb dX12_solves_327 (by decide) (fun c25 => ?_) (fun c25 => ?_)
                · have h29 := dif h28 c25
                  clear h28
                  exact kJ19  _ _ _ Z (lv_sub hl [] rfl) h29
                · have h30 := dit h28 c25
                  clear h28
                  exact kJ21  _ _ _ Z (lv_sub hl [] rfl) h30
  clear eK11
  have lL42 : ∀ (n : Nat), ∀ (x8 : Int32) (σ9 : sT) (H : Heap) (locs : List Loc) (ls : Array Slot), Wd (wM X) (tM X) (aM X) X s σ9 H locs → lv_has ls 10 [(0, .ref (X.2.1 33)), (2, .int x8)] → fMM_solves_L42 K11 n x8 σ9 = some σz → W p l e rm_fMM_solves s m args below meth c H locs 0 0 (MQ below (va_Qv (fun u => u = σz) (poW (wM X) (tM X) (aM X) X sz) (aA (aM X) sz)) args s 0 0 (aA (aM X) sz)) (F0 m 42 ls []) := by
    intro n
    induction n with
    | zero =>
      intro x8 σ9 H locs ls Z hl h
      exact nomatch (show (none : Option (sT)) = some _ from h)
    | succ n26 ih30 =>
      intro x8 σ9 H locs ls Z hl h32
      unfold fMM_solves_L42 at h32
      refine lv_iload_n hx hb dX12_solves_42 rfl (lv_at hl 1 rfl) ?_
      refine lv_aload_n hx hb dX12_solves_43 rfl (lv_at hl 0 rfl) ?_
      refine g_33_7 B Z kf_RX12_103 dX12_solves_44 ?_
      refine lv_icmp_ge (tgt := 258) hx hb dX12_solves_47 (by decide) (fun c27 => ?_) (fun c27 => ?_)
      · have h33 := dit h32 c27
        clear h32
        exact kK11 σ9 _ _ _ Z (lv_sub hl [0] rfl) h33
      · have h34 := dif h32 c27
        clear h32
        refine lv_iconst (v := (4 : Int32)) hx hb dX12_solves_50 (by decide) ?_
        refine lv_iload_n hx hb dX12_solves_51 rfl (lv_at hl 1 rfl) ?_
        refine lv_imul hx hb dX12_solves_52 ?_
        refine lv_topi (fun x28 ex28 => ?_)
        have h35 := dlt_e ex28 h34
        clear ex28 h34
        refine lv_istore_n (lv' := [(3, .int x28), (0, .ref (X.2.1 33)), (2, .int x8)]) hx hb dX12_solves_53 rfl hl (by decide) rfl (fun ls hl => ?_)
        refine lv_aload_n hx hb dX12_solves_54 rfl (lv_at hl 1 rfl) ?_
        refine g_33_6 B Z kf_RX12_23 dX12_solves_55 ?_
        refine lv_iload_n hx hb dX12_solves_58 rfl (lv_at hl 0 rfl) ?_
        refine lv_iconst (v := (1 : Int32)) hx hb dX12_solves_59 (by decide) ?_
        refine lv_iadd hx hb dX12_solves_60 ?_
        obtain ⟨z29, h36⟩ := dck_s h35
        clear h35
        refine ld_38 B Z z29 dX12_solves_61 ?_
        refine lv_lconst (v := (0 : Int64)) hx hb dX12_solves_62 (by decide) ?_
        refine W.lcmp hx hb dX12_solves_63 ?_
        obtain ⟨J31, eJ31, h65⟩ := dlt_s h36
        clear h36
        have kJ31 : ∀ (σ30 : sT) (H : Heap) (locs : List Loc) (ls : Array Slot), Wd (wM X) (tM X) (aM X) X s σ30 H locs → lv_has ls 10 [(0, .ref (X.2.1 33)), (2, .int x8), (3, .int x28)] → J31 σ30 = some σz → W p l e rm_fMM_solves s m args below meth c H locs 0 0 (MQ below (va_Qv (fun u => u = σz) (poW (wM X) (tM X) (aM X) X sz) (aA (aM X) sz)) args s 0 0 (aA (aM X) sz)) (F0 m 103 ls []) := by
          intro σ30 H locs ls Z hl h37
          rw [eJ31] at h37
          refine lv_iconst (v := (0 : Int32)) hx hb dX12_solves_103 (by decide) ?_
          refine lv_istore (lv' := [(4, .int (0 : Int32)), (0, .ref (X.2.1 33)), (2, .int x8), (3, .int x28)]) hx hb dX12_solves_104 hl (by decide) rfl (fun ls hl => ?_)
          obtain ⟨K35, eK35, h39⟩ := dlt_s h37
          clear h37
          have kK35 : ∀ (σ34 : sT) (H : Heap) (locs : List Loc) (ls : Array Slot), Wd (wM X) (tM X) (aM X) X s σ34 H locs → lv_has ls 10 [(0, .ref (X.2.1 33)), (2, .int x8)] → K35 σ34 = some σz → W p l e rm_fMM_solves s m args below meth c H locs 0 0 (MQ below (va_Qv (fun u => u = σz) (poW (wM X) (tM X) (aM X) X sz) (aA (aM X) sz)) args s 0 0 (aA (aM X) sz)) (F0 m 252 ls []) := by
            intro σ34 H locs ls Z hl h38
            rw [eK35] at h38
            refine lv_iinc (v := x8 + (1 : Int32)) (lv' := [(2, .int (x8 + (1 : Int32))), (0, .ref (X.2.1 33))]) hx hb dX12_solves_252 hl (k := 1) rfl (by rfl) (by decide) rfl (fun ls hl => ?_)
            refine lv_goto (tgt := 42) hx hb dX12_solves_255 (by decide) ?_
            exact ih30 (x8 + (1 : Int32)) σ34 _ _ _ Z (lv_sub hl [1, 0] rfl) h38
          clear eK35
          have lL106 : ∀ (n : Nat), ∀ (x32 : Int32) (σ33 : sT) (H : Heap) (locs : List Loc) (ls : Array Slot), Wd (wM X) (tM X) (aM X) X s σ33 H locs → lv_has ls 10 [(0, .ref (X.2.1 33)), (2, .int x8), (3, .int x28), (4, .int x32)] → fMM_solves_L106 x28 K35 n x32 σ33 = some σz → W p l e rm_fMM_solves s m args below meth c H locs 0 0 (MQ below (va_Qv (fun u => u = σz) (poW (wM X) (tM X) (aM X) X sz) (aA (aM X) sz)) args s 0 0 (aA (aM X) sz)) (F0 m 106 ls []) := by
            intro n
            induction n with
            | zero =>
              intro x32 σ33 H locs ls Z hl h
              exact nomatch (show (none : Option (sT)) = some _ from h)
            | succ n36 ih73 =>
              intro x32 σ33 H locs ls Z hl h40
              unfold fMM_solves_L106 at h40
              refine lv_iload hx hb dX12_solves_106 (lv_at hl 3 rfl) ?_
              refine lv_aload_n hx hb dX12_solves_108 rfl (lv_at hl 0 rfl) ?_
              refine g_33_7 B Z kf_RX12_103 dX12_solves_109 ?_
              refine lv_icmp_ge (tgt := 252) hx hb dX12_solves_112 (by decide) (fun c37 => ?_) (fun c37 => ?_)
              · have h41 := dit h40 c37
                clear h40
                exact kK35 σ33 _ _ _ Z (lv_sub hl [0, 1] rfl) h41
              · have h42 := dif h40 c37
                clear h40
                refine lv_aload_n hx hb dX12_solves_115 rfl (lv_at hl 0 rfl) ?_
                refine g_33_6 B Z kf_RX12_23 dX12_solves_116 ?_
                refine lv_iload_n hx hb dX12_solves_119 rfl (lv_at hl 2 rfl) ?_
                refine lv_iconst (v := (1 : Int32)) hx hb dX12_solves_120 (by decide) ?_
                refine lv_iadd hx hb dX12_solves_121 ?_
                obtain ⟨z38, h43⟩ := dck_s h42
                clear h42
                refine ld_38 B Z z38 dX12_solves_122 ?_
                refine lv_lconst (v := (0 : Int64)) hx hb dX12_solves_123 (by decide) ?_
                refine W.lcmp hx hb dX12_solves_124 ?_
                refine lv_if_le (tgt := 252) hx hb dX12_solves_125 (by decide) (fun c39 => ?_) (fun c39 => ?_)
                · have h44 := dit h43 c39
                  clear h43
                  exact kK35 σ33 _ _ _ Z (lv_sub hl [0, 1] rfl) h44
                · have h45 := dif h43 c39
                  clear h43
                  refine lv_iconst (v := (4 : Int32)) hx hb dX12_solves_128 (by decide) ?_
                  refine lv_iload hx hb dX12_solves_129 (lv_at hl 3 rfl) ?_
                  refine lv_imul hx hb dX12_solves_131 ?_
                  refine lv_topi (fun x40 ex40 => ?_)
                  have h46 := dlt_e ex40 h45
                  clear ex40 h45
                  refine lv_istore (lv' := [(5, .int x40), (0, .ref (X.2.1 33)), (2, .int x8), (3, .int x28), (4, .int x32)]) hx hb dX12_solves_132 hl (by decide) rfl (fun ls hl => ?_)
                  refine lv_aload_n hx hb dX12_solves_134 rfl (lv_at hl 1 rfl) ?_
                  refine g_33_6 B Z kf_RX12_23 dX12_solves_135 ?_
                  refine lv_iload hx hb dX12_solves_138 (lv_at hl 0 rfl) ?_
                  refine lv_iconst (v := (1 : Int32)) hx hb dX12_solves_140 (by decide) ?_
                  refine lv_iadd hx hb dX12_solves_141 ?_
                  obtain ⟨z41, h47⟩ := dck_s h46
                  clear h46
                  refine ld_38 B Z z41 dX12_solves_142 ?_
                  refine lv_lconst (v := (0 : Int64)) hx hb dX12_solves_143 (by decide) ?_
                  refine W.lcmp hx hb dX12_solves_144 ?_
                  refine lv_if_ge (tgt := 246) hx hb dX12_solves_145 (by decide) (fun c42 => ?_) (fun c42 => ?_)
                  · have h48 := dit h47 c42
                    clear h47
                    refine lv_iinc (v := x32 + (1 : Int32)) (lv' := [(4, .int (x32 + (1 : Int32))), (5, .int x40), (0, .ref (X.2.1 33)), (2, .int x8), (3, .int x28)]) hx hb dX12_solves_246 hl (k := 4) rfl (by rfl) (by decide) rfl (fun ls hl => ?_)
                    refine lv_goto (tgt := 106) hx hb dX12_solves_249 (by decide) ?_
                    exact ih73 (x32 + (1 : Int32)) σ33 _ _ _ Z (lv_sub hl [2, 3, 4, 0] rfl) h48
                  · have h49 := dif h47 c42
                    clear h47
                    refine lv_aload_n hx hb dX12_solves_148 rfl (lv_at hl 1 rfl) ?_
                    refine g_33_6 B Z kf_RX12_23 dX12_solves_149 ?_
                    refine lv_iload hx hb dX12_solves_152 (lv_at hl 0 rfl) ?_
                    refine lv_iconst (v := (1 : Int32)) hx hb dX12_solves_154 (by decide) ?_
                    refine lv_iadd hx hb dX12_solves_155 ?_
                    obtain ⟨z43, h50⟩ := dck_s h49
                    clear h49
                    refine ld_38 B Z z43 dX12_solves_156 ?_
                    refine lv_lneg hx hb dX12_solves_157 ?_
                    refine lv_topl (fun x44 ex44 => ?_)
                    have h51 := dlt_e ex44 h50
                    clear ex44 h50
                    refine lv_lstore (lv' := [(6, .long x44), (5, .int x40), (0, .ref (X.2.1 33)), (2, .int x8), (3, .int x28), (4, .int x32)]) hx hb dX12_solves_158 hl (by decide) rfl (fun ls hl => ?_)
                    refine lv_aload_n hx hb dX12_solves_160 rfl (lv_at hl 2 rfl) ?_
                    refine g_33_6 B Z kf_RX12_23 dX12_solves_161 ?_
                    refine lv_iload_n hx hb dX12_solves_164 rfl (lv_at hl 4 rfl) ?_
                    refine lv_iconst (v := (1 : Int32)) hx hb dX12_solves_165 (by decide) ?_
                    refine lv_iadd hx hb dX12_solves_166 ?_
                    obtain ⟨z45, h52⟩ := dck_s h51
                    clear h51
                    refine ld_38 B Z z45 dX12_solves_167 ?_
                    refine lv_topl (fun x46 ex46 => ?_)
                    have h53 := dlt_e ex46 h52
                    clear ex46 h52
                    refine lv_lstore (lv' := [(8, .long x46), (6, .long x44), (5, .int x40), (0, .ref (X.2.1 33)), (2, .int x8), (3, .int x28), (4, .int x32)]) hx hb dX12_solves_168 hl (by decide) rfl (fun ls hl => ?_)
                    refine lv_aload_n hx hb dX12_solves_170 rfl (lv_at hl 3 rfl) ?_
                    refine lv_lload hx hb dX12_solves_171 (lv_at hl 1 rfl) ?_
                    refine lv_aload_n hx hb dX12_solves_173 rfl (lv_at hl 3 rfl) ?_
                    refine g_33_6 B Z kf_RX12_23 dX12_solves_174 ?_
                    refine lv_iload_n hx hb dX12_solves_177 rfl (lv_at hl 5 rfl) ?_
                    obtain ⟨z47, h54⟩ := dck_s h53
                    clear h53
                    refine ld_38 B Z z47 dX12_solves_178 ?_
                    refine lv_lmul hx hb dX12_solves_179 ?_
                    refine lv_lload hx hb dX12_solves_180 (lv_at hl 0 rfl) ?_
                    refine lv_aload_n hx hb dX12_solves_182 rfl (lv_at hl 3 rfl) ?_
                    refine g_33_6 B Z kf_RX12_23 dX12_solves_183 ?_
                    refine lv_iload hx hb dX12_solves_186 (lv_at hl 2 rfl) ?_
                    obtain ⟨z48, h55⟩ := dck_s h54
                    clear h54
                    refine ld_38 B Z z48 dX12_solves_188 ?_
                    refine lv_lmul hx hb dX12_solves_189 ?_
                    refine lv_ladd hx hb dX12_solves_190 ?_
                    refine lv_lload hx hb dX12_solves_191 (lv_at hl 1 rfl) ?_
                    refine lv_aload_n hx hb dX12_solves_193 rfl (lv_at hl 3 rfl) ?_
                    refine g_33_6 B Z kf_RX12_23 dX12_solves_194 ?_
                    refine lv_iload_n hx hb dX12_solves_197 rfl (lv_at hl 5 rfl) ?_
                    refine lv_iconst (v := (2 : Int32)) hx hb dX12_solves_198 (by decide) ?_
                    refine lv_iadd hx hb dX12_solves_199 ?_
                    obtain ⟨z49, h56⟩ := dck_s h55
                    clear h55
                    refine ld_38 B Z z49 dX12_solves_200 ?_
                    refine lv_lmul hx hb dX12_solves_201 ?_
                    refine lv_lload hx hb dX12_solves_202 (lv_at hl 0 rfl) ?_
                    refine lv_aload_n hx hb dX12_solves_204 rfl (lv_at hl 3 rfl) ?_
                    refine g_33_6 B Z kf_RX12_23 dX12_solves_205 ?_
                    refine lv_iload hx hb dX12_solves_208 (lv_at hl 2 rfl) ?_
                    refine lv_iconst (v := (2 : Int32)) hx hb dX12_solves_210 (by decide) ?_
                    refine lv_iadd hx hb dX12_solves_211 ?_
                    obtain ⟨z50, h57⟩ := dck_s h56
                    clear h56
                    refine ld_38 B Z z50 dX12_solves_212 ?_
                    refine lv_lmul hx hb dX12_solves_213 ?_
                    refine lv_ladd hx hb dX12_solves_214 ?_
                    refine lv_aload_n hx hb dX12_solves_215 rfl (lv_at hl 3 rfl) ?_
                    refine g_33_6 B Z kf_RX12_23 dX12_solves_216 ?_
                    refine lv_iload_n hx hb dX12_solves_219 rfl (lv_at hl 5 rfl) ?_
                    refine lv_iconst (v := (3 : Int32)) hx hb dX12_solves_220 (by decide) ?_
                    refine lv_iadd hx hb dX12_solves_221 ?_
                    obtain ⟨z51, h58⟩ := dck_s h57
                    clear h57
                    refine ld_38 B Z z51 dX12_solves_222 ?_
                    refine lv_aload_n hx hb dX12_solves_223 rfl (lv_at hl 3 rfl) ?_
                    refine g_33_6 B Z kf_RX12_23 dX12_solves_224 ?_
                    refine lv_iload hx hb dX12_solves_227 (lv_at hl 2 rfl) ?_
                    refine lv_iconst (v := (3 : Int32)) hx hb dX12_solves_229 (by decide) ?_
                    refine lv_iadd hx hb dX12_solves_230 ?_
                    obtain ⟨z52, h59⟩ := dck_s h58
                    clear h58
                    refine ld_38 B Z z52 dX12_solves_231 ?_
                    refine lv_ladd hx hb dX12_solves_232 ?_
                    refine lv_lconst (v := (0 : Int64)) hx hb dX12_solves_233 (by decide) ?_
                    refine W.lcmp hx hb dX12_solves_234 ?_
                    obtain ⟨J56, eJ56, h62⟩ := dlt_s h59
                    clear h59
                    have kJ56 : ∀ (x53 : Int64) (x54 : Int64) (x55 : Int32) (H : Heap) (locs : List Loc) (ls : Array Slot), Wd (wM X) (tM X) (aM X) X s σ33 H locs → lv_has ls 10 [(0, .ref (X.2.1 33)), (2, .int x8), (3, .int x28), (4, .int x32)] → J56 x53 x54 x55 = some σz → W p l e rm_fMM_solves s m args below meth c H locs 0 0 (MQ below (va_Qv (fun u => u = σz) (poW (wM X) (tM X) (aM X) X sz) (aA (aM X) sz)) args s 0 0 (aA (aM X) sz)) (F0 m 243 ls [.int x55, .long x54, .long x53, .ref (X.2.1 33)]) := by
                      intro x53 x54 x55 H locs ls Z hl h60
                      rw [eJ56] at h60
                      obtain ⟨σ58, hc56, h61⟩ := db1_s h60
                      clear h60
                      refine cV_V [.long x53, .long x54, .int x55] [] B mx_yX12_takes (c_fMM_takes l X _ x53 x54 x55 σ33 σ58 hc56) kl_RX12_139 mi_yX12_takes (rv_33 _ _) hcl_12 Z hl rfl rfl ⟨Nat.le_of_ble_eq_true rfl, Nat.le_of_ble_eq_true rfl⟩ rfl rfl (Nat.le_of_ble_eq_true rfl) dX12_solves_243 (fun H locs Z => ?_)
                      clear hc56
                      refine lv_iinc (v := x32 + (1 : Int32)) (lv' := [(4, .int (x32 + (1 : Int32))), (0, .ref (X.2.1 33)), (2, .int x8), (3, .int x28)]) hx hb dX12_solves_246 hl (k := 3) rfl (by rfl) (by decide) rfl (fun ls hl => ?_)
                      refine lv_goto (tgt := 106) hx hb dX12_solves_249 (by decide) ?_
                      exact ih73 (x32 + (1 : Int32)) σ58 _ _ _ Z (lv_sub hl [1, 2, 3, 0] rfl) h61
                    clear eJ56
                    refine lv_if_le (tgt := 242) hx hb dX12_solves_235 (by decide) (fun c59 => ?_) (fun c59 => ?_)
                    · have h63 := dit h62 c59
                      clear h62
                      refine lv_iconst (v := (0 : Int32)) hx hb dX12_solves_242 (by decide) ?_
                      exact kJ56 ((x44 * (σ33.2 38 x28.toNatClampNeg)) + (x46 * (σ33.2 38 x40.toNatClampNeg))) ((x44 * (σ33.2 38 (x28 + (2 : Int32)).toNatClampNeg)) + (x46 * (σ33.2 38 (x40 + (2 : Int32)).toNatClampNeg))) (0 : Int32) _ _ _ Z (lv_sub hl [3, 4, 5, 6] rfl) h63
                    · have h64 := dif h62 c59
                      clear h62
                      refine lv_iconst (v := (1 : Int32)) hx hb dX12_solves_238 (by decide) ?_
                      refine lv_goto (tgt := 243) hx hb dX12_solves_239 (by decide) ?_
                      exact kJ56 ((x44 * (σ33.2 38 x28.toNatClampNeg)) + (x46 * (σ33.2 38 x40.toNatClampNeg))) ((x44 * (σ33.2 38 (x28 + (2 : Int32)).toNatClampNeg)) + (x46 * (σ33.2 38 (x40 + (2 : Int32)).toNatClampNeg))) (1 : Int32) _ _ _ Z (lv_sub hl [3, 4, 5, 6] rfl) h64
          exact lL106 FU (0 : Int32) σ30 _ _ _ Z (lv_sub hl [1, 2, 3, 0] rfl) h39
        clear eJ31
        refine lv_if_ne (tgt := 103) hx hb dX12_solves_64 (by decide) (fun c60 => ?_) (fun c60 => ?_)
        · have h66 := dif h65 c60
          clear h65
          exact kJ31 σ9 _ _ _ Z (lv_sub hl [1, 2, 0] rfl) h66
        · have h67 := dit h65 c60
          clear h65
          refine lv_aload_n hx hb dX12_solves_67 rfl (lv_at hl 1 rfl) ?_
          refine lv_aload_n hx hb dX12_solves_68 rfl (lv_at hl 1 rfl) ?_
          refine g_33_6 B Z kf_RX12_23 dX12_solves_69 ?_
          refine lv_iload_n hx hb dX12_solves_72 rfl (lv_at hl 0 rfl) ?_
          obtain ⟨z61, h68⟩ := dck_s h67
          clear h67
          refine ld_38 B Z z61 dX12_solves_73 ?_
          refine lv_aload_n hx hb dX12_solves_74 rfl (lv_at hl 1 rfl) ?_
          refine g_33_6 B Z kf_RX12_23 dX12_solves_75 ?_
          refine lv_iload_n hx hb dX12_solves_78 rfl (lv_at hl 0 rfl) ?_
          refine lv_iconst (v := (2 : Int32)) hx hb dX12_solves_79 (by decide) ?_
          refine lv_iadd hx hb dX12_solves_80 ?_
          obtain ⟨z62, h69⟩ := dck_s h68
          clear h68
          refine ld_38 B Z z62 dX12_solves_81 ?_
          refine lv_aload_n hx hb dX12_solves_82 rfl (lv_at hl 1 rfl) ?_
          refine g_33_6 B Z kf_RX12_23 dX12_solves_83 ?_
          refine lv_iload_n hx hb dX12_solves_86 rfl (lv_at hl 0 rfl) ?_
          refine lv_iconst (v := (3 : Int32)) hx hb dX12_solves_87 (by decide) ?_
          refine lv_iadd hx hb dX12_solves_88 ?_
          obtain ⟨z63, h70⟩ := dck_s h69
          clear h69
          refine ld_38 B Z z63 dX12_solves_89 ?_
          refine lv_lconst (v := (1 : Int64)) hx hb dX12_solves_90 (by decide) ?_
          refine W.lcmp hx hb dX12_solves_91 ?_
          obtain ⟨J67, eJ67, h73⟩ := dlt_s h70
          clear h70
          have kJ67 : ∀ (x64 : Int64) (x65 : Int64) (x66 : Int32) (H : Heap) (locs : List Loc) (ls : Array Slot), Wd (wM X) (tM X) (aM X) X s σ9 H locs → lv_has ls 10 [(0, .ref (X.2.1 33)), (2, .int x8), (3, .int x28)] → J67 x64 x65 x66 = some σz → W p l e rm_fMM_solves s m args below meth c H locs 0 0 (MQ below (va_Qv (fun u => u = σz) (poW (wM X) (tM X) (aM X) X sz) (aA (aM X) sz)) args s 0 0 (aA (aM X) sz)) (F0 m 100 ls [.int x66, .long x65, .long x64, .ref (X.2.1 33)]) := by
            intro x64 x65 x66 H locs ls Z hl h71
            rw [eJ67] at h71
            obtain ⟨σ69, hc67, h72⟩ := db1_s h71
            clear h71
            refine cV_V [.long x64, .long x65, .int x66] [] B mx_yX12_takes (c_fMM_takes l X _ x64 x65 x66 σ9 σ69 hc67) kl_RX12_139 mi_yX12_takes (rv_33 _ _) hcl_12 Z hl rfl rfl ⟨Nat.le_of_ble_eq_true rfl, Nat.le_of_ble_eq_true rfl⟩ rfl rfl (Nat.le_of_ble_eq_true rfl) dX12_solves_100 (fun H locs Z => ?_)
            clear hc67
            exact kJ31 σ69 _ _ _ Z (lv_sub hl [0, 1, 2] rfl) h72
          clear eJ67
          refine lv_if_ne (tgt := 99) hx hb dX12_solves_92 (by decide) (fun c70 => ?_) (fun c70 => ?_)
          · have h74 := dif h73 c70
            clear h73
            refine lv_iconst (v := (0 : Int32)) hx hb dX12_solves_99 (by decide) ?_
            exact kJ67 (σ9.2 38 x28.toNatClampNeg) (σ9.2 38 (x28 + (2 : Int32)).toNatClampNeg) (0 : Int32) _ _ _ Z (lv_sub hl [1, 2, 0] rfl) h74
          · have h75 := dit h73 c70
            clear h73
            refine lv_iconst (v := (1 : Int32)) hx hb dX12_solves_95 (by decide) ?_
            refine lv_goto (tgt := 100) hx hb dX12_solves_96 (by decide) ?_
            exact kJ67 (σ9.2 38 x28.toNatClampNeg) (σ9.2 38 (x28 + (2 : Int32)).toNatClampNeg) (1 : Int32) _ _ _ Z (lv_sub hl [1, 2, 0] rfl) h75
  exact lL42 FU (0 : Int32) σ7 _ _ _ Z (lv_sub hl [1, 0] rfl) h31
theorem dX12_canLaid_0 : decode cX12_canLaid 0 = .ok (.aload_n 0, 1) := by decide +kernel
theorem dX12_canLaid_1 : decode cX12_canLaid 1 = .ok (.iconst 0, 1) := by decide +kernel
theorem dX12_canLaid_2 : decode cX12_canLaid 2 = .ok (.invokevirtual 143, 3) := by decide +kernel
theorem dX12_canLaid_5 : decode cX12_canLaid 5 = .ok (.aload_n 0, 1) := by decide +kernel
theorem dX12_canLaid_6 : decode cX12_canLaid 6 = .ok (.getfield 110, 3) := by decide +kernel
theorem dX12_canLaid_9 : decode cX12_canLaid 9 = .ok (.ireturn, 1) := by decide +kernel
def rm_fMM_canLaid : Room := { frames := 4, cells := 0, slots := 0, locals := 148 }
set_option maxHeartbeats 4000000 in
set_option maxRecDepth 100000 in
theorem c_fMM_canLaid (l : Launch) (X : eX) (sz : Nat)  (σ : sT) (rz : Int32) (σz : sT) (h0 : fMM_canLaid σ = some (rz, σz)) : ctI l yX12_canLaid cX12_canLaid 1 (some .boolean) rm_fMM_canLaid [.ref (X.2.1 33)] (wM X) (tM X) (aM X) X sz σ rz σz := by
  refine ct_of (by decide +kernel) (Nat.le_of_ble_eq_true rfl) ?_
  intro p e s m args below meth c ls hz B hl Z
  have B : Bd p s m args meth c RX12 cX12_canLaid 1 (some .boolean) := B
  have hl : lv_has ls 1 [(0, .ref (X.2.1 33))] := hl
  have hx := B.1
  have hb := B.2.1
  unfold fMM_canLaid at h0
  refine lv_aload_n hx hb dX12_canLaid_0 rfl (lv_at hl 0 rfl) ?_
  refine lv_iconst (v := (0 : Int32)) hx hb dX12_canLaid_1 (by decide) ?_
  obtain ⟨σ2, hc0, h1⟩ := db1_s h0
  clear h0
  refine cV_V [.int (0 : Int32)] [] B mx_yX12_solves (c_fMM_solves l X _ (0 : Int32) σ σ2 hc0) kl_RX12_143 mi_yX12_solves (rv_33 _ _) hcl_12 Z hl rfl rfl ⟨Nat.le_of_ble_eq_true rfl, Nat.le_of_ble_eq_true rfl⟩ rfl rfl (Nat.le_of_ble_eq_true rfl) dX12_canLaid_2 (fun H locs Z => ?_)
  clear hc0
  refine lv_aload_n hx hb dX12_canLaid_5 rfl (lv_at hl 0 rfl) ?_
  refine g_33_8 B Z kf_RX12_110 dX12_canLaid_6 ?_
  obtain ⟨z3, h2⟩ := dck_s h1
  clear h1
  exact reI B Z (okZ_n z3) hz h2 dX12_canLaid_9
theorem dX12_canSet_0 : decode cX12_canSet 0 = .ok (.aload_n 0, 1) := by decide +kernel
theorem dX12_canSet_1 : decode cX12_canSet 1 = .ok (.iload_n 1, 1) := by decide +kernel
theorem dX12_canSet_2 : decode cX12_canSet 2 = .ok (.invokevirtual 147, 3) := by decide +kernel
theorem dX12_canSet_5 : decode cX12_canSet 5 = .ok (.aload_n 0, 1) := by decide +kernel
theorem dX12_canSet_6 : decode cX12_canSet 6 = .ok (.invokevirtual 150, 3) := by decide +kernel
theorem dX12_canSet_9 : decode cX12_canSet 9 = .ok (.ireturn, 1) := by decide +kernel
def rm_fMM_canSet : Room := { frames := 5, cells := 0, slots := 0, locals := 168 }
set_option maxHeartbeats 4000000 in
set_option maxRecDepth 100000 in
theorem c_fMM_canSet (l : Launch) (X : eX) (sz : Nat) (a1 : Int32) (σ : sT) (rz : Int32) (σz : sT) (h0 : fMM_canSet a1 σ = some (rz, σz)) : ctI l yX12_canSet cX12_canSet 2 (some .boolean) rm_fMM_canSet [.ref (X.2.1 33), .int a1] (wM X) (tM X) (aM X) X sz σ rz σz := by
  refine ct_of (by decide +kernel) (Nat.le_of_ble_eq_true rfl) ?_
  intro p e s m args below meth c ls hz B hl Z
  have B : Bd p s m args meth c RX12 cX12_canSet 2 (some .boolean) := B
  have hl : lv_has ls 2 [(0, .ref (X.2.1 33)), (1, .int a1)] := hl
  have hx := B.1
  have hb := B.2.1
  unfold fMM_canSet at h0
  refine lv_aload_n hx hb dX12_canSet_0 rfl (lv_at hl 0 rfl) ?_
  refine lv_iload_n hx hb dX12_canSet_1 rfl (lv_at hl 1 rfl) ?_
  obtain ⟨σ2, hc0, h1⟩ := db1_s h0
  clear h0
  refine cV_V [.int a1] [] B mx_yX12_laysSet (c_fMM_laysSet l X _ a1 σ σ2 hc0) kl_RX12_147 mi_yX12_laysSet (rv_33 _ _) hcl_12 Z hl rfl rfl ⟨Nat.le_of_ble_eq_true rfl, Nat.le_of_ble_eq_true rfl⟩ rfl rfl (Nat.le_of_ble_eq_true rfl) dX12_canSet_2 (fun H locs Z => ?_)
  clear hc0
  refine lv_aload_n hx hb dX12_canSet_5 rfl (lv_at hl 0 rfl) ?_
  obtain ⟨r4, σ5, hc2, h2⟩ := db2_s h1
  clear h1
  refine cV_I [] [] B mx_yX12_canLaid (c_fMM_canLaid l X _ σ2 r4 σ5 hc2) kl_RX12_150 mi_yX12_canLaid (rv_33 _ _) hcl_12 Z hl rfl rfl ⟨Nat.le_of_ble_eq_true rfl, Nat.le_of_ble_eq_true rfl⟩ rfl rfl (Nat.le_of_ble_eq_true rfl) dX12_canSet_6 (fun H locs Z => ?_)
  clear hc2
  obtain ⟨z6, h3⟩ := dck_s h2
  clear h2
  exact reI B Z (okZ_n z6) hz h3 dX12_canSet_9
theorem dX12_can_0 : decode cX12_can 0 = .ok (.aload_n 0, 1) := by decide +kernel
theorem dX12_can_1 : decode cX12_can 1 = .ok (.iload_n 1, 1) := by decide +kernel
theorem dX12_can_2 : decode cX12_can 2 = .ok (.invokevirtual 183, 3) := by decide +kernel
theorem dX12_can_5 : decode cX12_can 5 = .ok (.ifCond .eq 19, 3) := by decide +kernel
theorem dX12_can_8 : decode cX12_can 8 = .ok (.aload_n 0, 1) := by decide +kernel
theorem dX12_can_9 : decode cX12_can 9 = .ok (.iload_n 1, 1) := by decide +kernel
theorem dX12_can_10 : decode cX12_can 10 = .ok (.invokevirtual 186, 3) := by decide +kernel
theorem dX12_can_13 : decode cX12_can 13 = .ok (.ifCond .eq 7, 3) := by decide +kernel
theorem dX12_can_16 : decode cX12_can 16 = .ok (.iconst 1, 1) := by decide +kernel
theorem dX12_can_17 : decode cX12_can 17 = .ok (.goto 13, 3) := by decide +kernel
theorem dX12_can_20 : decode cX12_can 20 = .ok (.iconst 0, 1) := by decide +kernel
theorem dX12_can_21 : decode cX12_can 21 = .ok (.goto 9, 3) := by decide +kernel
theorem dX12_can_24 : decode cX12_can 24 = .ok (.aload_n 0, 1) := by decide +kernel
theorem dX12_can_25 : decode cX12_can 25 = .ok (.ldc 63, 2) := by decide +kernel
theorem dX12_can_27 : decode cX12_can 27 = .ok (.invokevirtual 168, 3) := by decide +kernel
theorem dX12_can_30 : decode cX12_can 30 = .ok (.ireturn, 1) := by decide +kernel
def rm_fMM_can : Room := { frames := 6, cells := 0, slots := 0, locals := 189 }
set_option maxHeartbeats 4000000 in
set_option maxRecDepth 100000 in
theorem c_fMM_can (l : Launch) (X : eX) (sz : Nat) (a1 : Int32) (σ : sT) (rz : Int32) (σz : sT) (h0 : fMM_can a1 σ = some (rz, σz)) : ctI l yX12_can cX12_can 2 (some .int) rm_fMM_can [.ref (X.2.1 33), .int a1] (wM X) (tM X) (aM X) X sz σ rz σz := by
  refine ct_of (by decide +kernel) (Nat.le_of_ble_eq_true rfl) ?_
  intro p e s m args below meth c ls hz B hl Z
  have B : Bd p s m args meth c RX12 cX12_can 2 (some .int) := B
  have hl : lv_has ls 2 [(0, .ref (X.2.1 33)), (1, .int a1)] := hl
  have hx := B.1
  have hb := B.2.1
  unfold fMM_can at h0
  refine lv_aload_n hx hb dX12_can_0 rfl (lv_at hl 0 rfl) ?_
  refine lv_iload_n hx hb dX12_can_1 rfl (lv_at hl 1 rfl) ?_
  obtain ⟨r2, hc0, h1⟩ := db1_s h0
  clear h0
  refine cV_I [.int a1] [] B mx_yX12_isSet (c_fMM_isSet l X _ a1 σ r2 hc0) kl_RX12_183 mi_yX12_isSet (rv_33 _ _) hcl_12 Z hl rfl rfl ⟨Nat.le_of_ble_eq_true rfl, Nat.le_of_ble_eq_true rfl⟩ rfl rfl (Nat.le_of_ble_eq_true rfl) dX12_can_2 (fun H locs Z => ?_)
  clear hc0
  refine lv_if_eq (tgt := 24) hx hb dX12_can_5 (by decide) (fun c3 => ?_) (fun c3 => ?_)
  · have h2 := dit h1 c3
    clear h1
    refine lv_aload_n hx hb dX12_can_24 rfl (lv_at hl 0 rfl) ?_
    refine lv_ldc hx hb B.2.2.2.1 (B.2.2.2.2.1 _ kc_RX12_63) dX12_can_25 ?_
    obtain ⟨r5, σ6, hc3, h3⟩ := db2_s h2
    clear h2
    refine cV_I [.int (-1000002 : Int32)] [] B mx_yX12_refuses (c_fMM_refuses l X _ (-1000002 : Int32) σ r5 σ6 hc3) kl_RX12_168 mi_yX12_refuses (rv_33 _ _) hcl_12 Z hl rfl rfl ⟨Nat.le_of_ble_eq_true rfl, Nat.le_of_ble_eq_true rfl⟩ rfl rfl (Nat.le_of_ble_eq_true rfl) dX12_can_27 (fun H locs Z => ?_)
    clear hc3
    exact reI B Z rfl hz h3 dX12_can_30
  · have h4 := dif h1 c3
    clear h1
    refine lv_aload_n hx hb dX12_can_8 rfl (lv_at hl 0 rfl) ?_
    refine lv_iload_n hx hb dX12_can_9 rfl (lv_at hl 1 rfl) ?_
    obtain ⟨r8, σ9, hc6, h5⟩ := db2_s h4
    clear h4
    refine cV_I [.int a1] [] B mx_yX12_canSet (c_fMM_canSet l X _ a1 σ r8 σ9 hc6) kl_RX12_186 mi_yX12_canSet (rv_33 _ _) hcl_12 Z hl rfl rfl ⟨Nat.le_of_ble_eq_true rfl, Nat.le_of_ble_eq_true rfl⟩ rfl rfl (Nat.le_of_ble_eq_true rfl) dX12_can_10 (fun H locs Z => ?_)
    clear hc6
    refine lv_if_eq (tgt := 20) hx hb dX12_can_13 (by decide) (fun c10 => ?_) (fun c10 => ?_)
    · have h6 := dit h5 c10
      clear h5
      refine lv_iconst (v := (0 : Int32)) hx hb dX12_can_20 (by decide) ?_
      refine lv_goto (tgt := 30) hx hb dX12_can_21 (by decide) ?_
      exact reI B Z rfl hz h6 dX12_can_30
    · have h7 := dif h5 c10
      clear h5
      refine lv_iconst (v := (1 : Int32)) hx hb dX12_can_16 (by decide) ?_
      refine lv_goto (tgt := 30) hx hb dX12_can_17 (by decide) ?_
      exact reI B Z rfl hz h7 dX12_can_30
