set_option maxHeartbeats 4000000 in
set_option maxRecDepth 100000 in
theorem lw_case0 {p : Program} {l : Launch} {e : Env} {s : State} {m : MethodId} {below : List Frame} {meth : Method} {c : Code} {b L : Nat} {xs : Nat → Int32} {X : eX} {I : sT → sT → Prop} (o : op_row I) (B : Bd p s m #[Value.ref b] meth c R_law code 4 ret) (hX : va_X b L xs s s.heap) (hbl : b < s.heap.size) {x3 : Int32} (v : ∀ k : Int32, 0 ≤ k.toInt → k.toInt ≤ 6 → vp_in (x3 + k) L)
    (kk : ∀ (σ τ : sT) (H : Heap) (locs : List Loc) (ls : Array Slot), I σ τ → LW X s σ τ H locs → lv_has ls 4 [(0, .ref b), (1, .ref (X.2.1 0)), (2, .ref (X.2.1 33)), (3, .int x3)] → W p l e room_1 s m #[Value.ref b] below meth c H locs 51 5477 (lw_Z below #[Value.ref b] s) (F0 m 804 ls [])) (σ τ : sT) (H : Heap) (locs : List Loc) (ls : Array Slot) (hI : I σ τ) (Z : LW X s σ τ H locs) (hl : lv_has ls 4 [(0, .ref b), (1, .ref (X.2.1 0)), (2, .ref (X.2.1 33)), (3, .int x3)]) : W p l e room_1 s m #[Value.ref b] below meth c H locs 51 5477 (lw_Z below #[Value.ref b] s) (F0 m 140 ls []) := by
  have hx := B.1
  have hb := B.2.1
  have hbA : ¬ (fun q : Nat => s.heap.size ≤ q) b := Nat.not_le.mpr hbl
  obtain ⟨r, σ1, τ1, h1, h2, hI1⟩ := o σ τ hI (xs (x3 + (1 : Int32)).toNatClampNeg) (xs (x3 + (2 : Int32)).toNatClampNeg) (xs (x3 + (3 : Int32)).toNatClampNeg) (xs (x3 + (4 : Int32)).toNatClampNeg) (xs (x3 + (5 : Int32)).toNatClampNeg) (xs (x3 + (6 : Int32)).toNatClampNeg)
  refine lv_aload_n hx hb dL_law_140 rfl (lv_at hl 1 rfl) ?_
  refine lv_aload_n hx hb dL_law_141 rfl (lv_at hl 0 rfl) ?_
  refine lv_iload_n hx hb dL_law_142 rfl (lv_at hl 3 rfl) ?_
  refine lv_iconst (v := (1 : Int32)) hx hb dL_law_143 (by decide) ?_
  refine lv_iadd hx hb dL_law_144 ?_
  refine va_sld hx hb hX hbl hbA Z.2.2.2.1 (v 1 (by decide) (by decide)) dL_law_145 ?_
  refine lv_aload_n hx hb dL_law_146 rfl (lv_at hl 0 rfl) ?_
  refine lv_iload_n hx hb dL_law_147 rfl (lv_at hl 3 rfl) ?_
  refine lv_iconst (v := (2 : Int32)) hx hb dL_law_148 (by decide) ?_
  refine lv_iadd hx hb dL_law_149 ?_
  refine va_sld hx hb hX hbl hbA Z.2.2.2.1 (v 2 (by decide) (by decide)) dL_law_150 ?_
  refine lv_aload_n hx hb dL_law_151 rfl (lv_at hl 0 rfl) ?_
  refine lv_iload_n hx hb dL_law_152 rfl (lv_at hl 3 rfl) ?_
  refine lv_iconst (v := (3 : Int32)) hx hb dL_law_153 (by decide) ?_
  refine lv_iadd hx hb dL_law_154 ?_
  refine va_sld hx hb hX hbl hbA Z.2.2.2.1 (v 3 (by decide) (by decide)) dL_law_155 ?_
  refine lv_aload_n hx hb dL_law_156 rfl (lv_at hl 0 rfl) ?_
  refine lv_iload_n hx hb dL_law_157 rfl (lv_at hl 3 rfl) ?_
  refine lv_iconst (v := (4 : Int32)) hx hb dL_law_158 (by decide) ?_
  refine lv_iadd hx hb dL_law_159 ?_
  refine va_sld hx hb hX hbl hbA Z.2.2.2.1 (v 4 (by decide) (by decide)) dL_law_160 ?_
  refine lv_aload_n hx hb dL_law_161 rfl (lv_at hl 0 rfl) ?_
  refine lv_iload_n hx hb dL_law_162 rfl (lv_at hl 3 rfl) ?_
  refine lv_iconst (v := (5 : Int32)) hx hb dL_law_163 (by decide) ?_
  refine lv_iadd hx hb dL_law_164 ?_
  refine va_sld hx hb hX hbl hbA Z.2.2.2.1 (v 5 (by decide) (by decide)) dL_law_165 ?_
  refine lv_aload_n hx hb dL_law_166 rfl (lv_at hl 0 rfl) ?_
  refine lv_iload_n hx hb dL_law_167 rfl (lv_at hl 3 rfl) ?_
  refine lv_bipush (v := (6 : Int32)) hx hb dL_law_168 (by decide) ?_
  refine lv_iadd hx hb dL_law_170 ?_
  refine va_sld hx hb hX hbl hbA Z.2.2.2.1 (v 6 (by decide) (by decide)) dL_law_171 ?_
  refine lC_I [.int (xs (x3 + (1 : Int32)).toNatClampNeg), .int (xs (x3 + (2 : Int32)).toNatClampNeg), .int (xs (x3 + (3 : Int32)).toNatClampNeg), .int (xs (x3 + (4 : Int32)).toNatClampNeg), .int (xs (x3 + (5 : Int32)).toNatClampNeg), .int (xs (x3 + (6 : Int32)).toNatClampNeg)] [] B mx_yX11_row rfl (c_fRM_row l X _ (xs (x3 + (1 : Int32)).toNatClampNeg) (xs (x3 + (2 : Int32)).toNatClampNeg) (xs (x3 + (3 : Int32)).toNatClampNeg) (xs (x3 + (4 : Int32)).toNatClampNeg) (xs (x3 + (5 : Int32)).toNatClampNeg) (xs (x3 + (6 : Int32)).toNatClampNeg) σ r σ1 h1) kl_L_13 mi_yX11_row Z hl rfl rfl ⟨Nat.le_of_ble_eq_true rfl, Nat.le_of_ble_eq_true rfl⟩ rfl rfl (Nat.le_of_ble_eq_true rfl) dL_law_172 ⟨Nat.le_of_ble_eq_true rfl, Nat.le_of_ble_eq_true rfl⟩ (fun H locs Z => ?_)
  refine lv_aload_n hx hb dL_law_175 rfl (lv_at hl 2 rfl) ?_
  refine lv_aload_n hx hb dL_law_176 rfl (lv_at hl 0 rfl) ?_
  refine lv_iload_n hx hb dL_law_177 rfl (lv_at hl 3 rfl) ?_
  refine lv_iconst (v := (1 : Int32)) hx hb dL_law_178 (by decide) ?_
  refine lv_iadd hx hb dL_law_179 ?_
  refine va_sld hx hb hX hbl hbA Z.2.2.2.1 (v 1 (by decide) (by decide)) dL_law_180 ?_
  refine lv_aload_n hx hb dL_law_181 rfl (lv_at hl 0 rfl) ?_
  refine lv_iload_n hx hb dL_law_182 rfl (lv_at hl 3 rfl) ?_
  refine lv_iconst (v := (2 : Int32)) hx hb dL_law_183 (by decide) ?_
  refine lv_iadd hx hb dL_law_184 ?_
  refine va_sld hx hb hX hbl hbA Z.2.2.2.1 (v 2 (by decide) (by decide)) dL_law_185 ?_
  refine lv_aload_n hx hb dL_law_186 rfl (lv_at hl 0 rfl) ?_
  refine lv_iload_n hx hb dL_law_187 rfl (lv_at hl 3 rfl) ?_
  refine lv_iconst (v := (3 : Int32)) hx hb dL_law_188 (by decide) ?_
  refine lv_iadd hx hb dL_law_189 ?_
  refine va_sld hx hb hX hbl hbA Z.2.2.2.1 (v 3 (by decide) (by decide)) dL_law_190 ?_
  refine lv_aload_n hx hb dL_law_191 rfl (lv_at hl 0 rfl) ?_
  refine lv_iload_n hx hb dL_law_192 rfl (lv_at hl 3 rfl) ?_
  refine lv_iconst (v := (4 : Int32)) hx hb dL_law_193 (by decide) ?_
  refine lv_iadd hx hb dL_law_194 ?_
  refine va_sld hx hb hX hbl hbA Z.2.2.2.1 (v 4 (by decide) (by decide)) dL_law_195 ?_
  refine lv_aload_n hx hb dL_law_196 rfl (lv_at hl 0 rfl) ?_
  refine lv_iload_n hx hb dL_law_197 rfl (lv_at hl 3 rfl) ?_
  refine lv_iconst (v := (5 : Int32)) hx hb dL_law_198 (by decide) ?_
  refine lv_iadd hx hb dL_law_199 ?_
  refine va_sld hx hb hX hbl hbA Z.2.2.2.1 (v 5 (by decide) (by decide)) dL_law_200 ?_
  refine lv_aload_n hx hb dL_law_201 rfl (lv_at hl 0 rfl) ?_
  refine lv_iload_n hx hb dL_law_202 rfl (lv_at hl 3 rfl) ?_
  refine lv_bipush (v := (6 : Int32)) hx hb dL_law_203 (by decide) ?_
  refine lv_iadd hx hb dL_law_205 ?_
  refine va_sld hx hb hX hbl hbA Z.2.2.2.1 (v 6 (by decide) (by decide)) dL_law_206 ?_
  refine lM_I [.int (xs (x3 + (1 : Int32)).toNatClampNeg), .int (xs (x3 + (2 : Int32)).toNatClampNeg), .int (xs (x3 + (3 : Int32)).toNatClampNeg), .int (xs (x3 + (4 : Int32)).toNatClampNeg), .int (xs (x3 + (5 : Int32)).toNatClampNeg), .int (xs (x3 + (6 : Int32)).toNatClampNeg)] [.int r] B mx_yX12_row rfl (c_fMM_row l X _ (xs (x3 + (1 : Int32)).toNatClampNeg) (xs (x3 + (2 : Int32)).toNatClampNeg) (xs (x3 + (3 : Int32)).toNatClampNeg) (xs (x3 + (4 : Int32)).toNatClampNeg) (xs (x3 + (5 : Int32)).toNatClampNeg) (xs (x3 + (6 : Int32)).toNatClampNeg) τ r τ1 h2) kl_L_17 mi_yX12_row Z hl rfl rfl ⟨Nat.le_of_ble_eq_true rfl, Nat.le_of_ble_eq_true rfl⟩ rfl rfl (Nat.le_of_ble_eq_true rfl) dL_law_207 ⟨Nat.le_of_ble_eq_true rfl, Nat.le_of_ble_eq_true rfl⟩ (fun H locs Z => ?_)
  refine lv_icmp_eq (tgt := 804) hx hb dL_law_210 (by decide) (fun _ => ?_) (fun z => absurd rfl z)
  exact kk σ1 τ1 H locs ls hI1 Z hl
set_option maxHeartbeats 4000000 in
set_option maxRecDepth 100000 in
theorem lw_case1 {p : Program} {l : Launch} {e : Env} {s : State} {m : MethodId} {below : List Frame} {meth : Method} {c : Code} {b L : Nat} {xs : Nat → Int32} {X : eX} {I : sT → sT → Prop} (o : op_drops I) (B : Bd p s m #[Value.ref b] meth c R_law code 4 ret) (hX : va_X b L xs s s.heap) (hbl : b < s.heap.size) {x3 : Int32} (v : ∀ k : Int32, 0 ≤ k.toInt → k.toInt ≤ 6 → vp_in (x3 + k) L)
    (kk : ∀ (σ τ : sT) (H : Heap) (locs : List Loc) (ls : Array Slot), I σ τ → LW X s σ τ H locs → lv_has ls 4 [(0, .ref b), (1, .ref (X.2.1 0)), (2, .ref (X.2.1 33)), (3, .int x3)] → W p l e room_1 s m #[Value.ref b] below meth c H locs 51 5477 (lw_Z below #[Value.ref b] s) (F0 m 804 ls [])) (σ τ : sT) (H : Heap) (locs : List Loc) (ls : Array Slot) (hI : I σ τ) (Z : LW X s σ τ H locs) (hl : lv_has ls 4 [(0, .ref b), (1, .ref (X.2.1 0)), (2, .ref (X.2.1 33)), (3, .int x3)]) : W p l e room_1 s m #[Value.ref b] below meth c H locs 51 5477 (lw_Z below #[Value.ref b] s) (F0 m 215 ls []) := by
  have hx := B.1
  have hb := B.2.1
  have hbA : ¬ (fun q : Nat => s.heap.size ≤ q) b := Nat.not_le.mpr hbl
  obtain ⟨r, σ1, τ1, h1, h2, hI1⟩ := o σ τ hI (xs (x3 + (1 : Int32)).toNatClampNeg)
  refine lv_aload_n hx hb dL_law_215 rfl (lv_at hl 1 rfl) ?_
  refine lv_aload_n hx hb dL_law_216 rfl (lv_at hl 0 rfl) ?_
  refine lv_iload_n hx hb dL_law_217 rfl (lv_at hl 3 rfl) ?_
  refine lv_iconst (v := (1 : Int32)) hx hb dL_law_218 (by decide) ?_
  refine lv_iadd hx hb dL_law_219 ?_
  refine va_sld hx hb hX hbl hbA Z.2.2.2.1 (v 1 (by decide) (by decide)) dL_law_220 ?_
  refine lC_I [.int (xs (x3 + (1 : Int32)).toNatClampNeg)] [] B mx_yX11_drops rfl (c_fRM_drops l X _ (xs (x3 + (1 : Int32)).toNatClampNeg) σ r σ1 h1) kl_L_18 mi_yX11_drops Z hl rfl rfl ⟨Nat.le_of_ble_eq_true rfl, Nat.le_of_ble_eq_true rfl⟩ rfl rfl (Nat.le_of_ble_eq_true rfl) dL_law_221 ⟨Nat.le_of_ble_eq_true rfl, Nat.le_of_ble_eq_true rfl⟩ (fun H locs Z => ?_)
  refine lv_aload_n hx hb dL_law_224 rfl (lv_at hl 2 rfl) ?_
  refine lv_aload_n hx hb dL_law_225 rfl (lv_at hl 0 rfl) ?_
  refine lv_iload_n hx hb dL_law_226 rfl (lv_at hl 3 rfl) ?_
  refine lv_iconst (v := (1 : Int32)) hx hb dL_law_227 (by decide) ?_
  refine lv_iadd hx hb dL_law_228 ?_
  refine va_sld hx hb hX hbl hbA Z.2.2.2.1 (v 1 (by decide) (by decide)) dL_law_229 ?_
  refine lM_I [.int (xs (x3 + (1 : Int32)).toNatClampNeg)] [.int r] B mx_yX12_drops rfl (c_fMM_drops l X _ (xs (x3 + (1 : Int32)).toNatClampNeg) τ r τ1 h2) kl_L_22 mi_yX12_drops Z hl rfl rfl ⟨Nat.le_of_ble_eq_true rfl, Nat.le_of_ble_eq_true rfl⟩ rfl rfl (Nat.le_of_ble_eq_true rfl) dL_law_230 ⟨Nat.le_of_ble_eq_true rfl, Nat.le_of_ble_eq_true rfl⟩ (fun H locs Z => ?_)
  refine lv_icmp_eq (tgt := 804) hx hb dL_law_233 (by decide) (fun _ => ?_) (fun z => absurd rfl z)
  exact kk σ1 τ1 H locs ls hI1 Z hl
set_option maxHeartbeats 4000000 in
set_option maxRecDepth 100000 in
theorem lw_case2 {p : Program} {l : Launch} {e : Env} {s : State} {m : MethodId} {below : List Frame} {meth : Method} {c : Code} {b L : Nat} {xs : Nat → Int32} {X : eX} {I : sT → sT → Prop} (o : op_sets I) (B : Bd p s m #[Value.ref b] meth c R_law code 4 ret) (hX : va_X b L xs s s.heap) (hbl : b < s.heap.size) {x3 : Int32} (v : ∀ k : Int32, 0 ≤ k.toInt → k.toInt ≤ 6 → vp_in (x3 + k) L)
    (kk : ∀ (σ τ : sT) (H : Heap) (locs : List Loc) (ls : Array Slot), I σ τ → LW X s σ τ H locs → lv_has ls 4 [(0, .ref b), (1, .ref (X.2.1 0)), (2, .ref (X.2.1 33)), (3, .int x3)] → W p l e room_1 s m #[Value.ref b] below meth c H locs 51 5477 (lw_Z below #[Value.ref b] s) (F0 m 804 ls [])) (σ τ : sT) (H : Heap) (locs : List Loc) (ls : Array Slot) (hI : I σ τ) (Z : LW X s σ τ H locs) (hl : lv_has ls 4 [(0, .ref b), (1, .ref (X.2.1 0)), (2, .ref (X.2.1 33)), (3, .int x3)]) : W p l e room_1 s m #[Value.ref b] below meth c H locs 51 5477 (lw_Z below #[Value.ref b] s) (F0 m 238 ls []) := by
  have hx := B.1
  have hb := B.2.1
  have hbA : ¬ (fun q : Nat => s.heap.size ≤ q) b := Nat.not_le.mpr hbl
  obtain ⟨r, σ1, τ1, h1, h2, hI1⟩ := o σ τ hI (xs (x3 + (1 : Int32)).toNatClampNeg) (xs (x3 + (2 : Int32)).toNatClampNeg) (xs (x3 + (3 : Int32)).toNatClampNeg)
  refine lv_aload_n hx hb dL_law_238 rfl (lv_at hl 1 rfl) ?_
  refine lv_aload_n hx hb dL_law_239 rfl (lv_at hl 0 rfl) ?_
  refine lv_iload_n hx hb dL_law_240 rfl (lv_at hl 3 rfl) ?_
  refine lv_iconst (v := (1 : Int32)) hx hb dL_law_241 (by decide) ?_
  refine lv_iadd hx hb dL_law_242 ?_
  refine va_sld hx hb hX hbl hbA Z.2.2.2.1 (v 1 (by decide) (by decide)) dL_law_243 ?_
  refine lv_aload_n hx hb dL_law_244 rfl (lv_at hl 0 rfl) ?_
  refine lv_iload_n hx hb dL_law_245 rfl (lv_at hl 3 rfl) ?_
  refine lv_iconst (v := (2 : Int32)) hx hb dL_law_246 (by decide) ?_
  refine lv_iadd hx hb dL_law_247 ?_
  refine va_sld hx hb hX hbl hbA Z.2.2.2.1 (v 2 (by decide) (by decide)) dL_law_248 ?_
  refine lv_aload_n hx hb dL_law_249 rfl (lv_at hl 0 rfl) ?_
  refine lv_iload_n hx hb dL_law_250 rfl (lv_at hl 3 rfl) ?_
  refine lv_iconst (v := (3 : Int32)) hx hb dL_law_251 (by decide) ?_
  refine lv_iadd hx hb dL_law_252 ?_
  refine va_sld hx hb hX hbl hbA Z.2.2.2.1 (v 3 (by decide) (by decide)) dL_law_253 ?_
  refine lC_I [.int (xs (x3 + (1 : Int32)).toNatClampNeg), .int (xs (x3 + (2 : Int32)).toNatClampNeg), .int (xs (x3 + (3 : Int32)).toNatClampNeg)] [] B mx_yX11_sets rfl (c_fRM_sets l X _ (xs (x3 + (1 : Int32)).toNatClampNeg) (xs (x3 + (2 : Int32)).toNatClampNeg) (xs (x3 + (3 : Int32)).toNatClampNeg) σ r σ1 h1) kl_L_23 mi_yX11_sets Z hl rfl rfl ⟨Nat.le_of_ble_eq_true rfl, Nat.le_of_ble_eq_true rfl⟩ rfl rfl (Nat.le_of_ble_eq_true rfl) dL_law_254 ⟨Nat.le_of_ble_eq_true rfl, Nat.le_of_ble_eq_true rfl⟩ (fun H locs Z => ?_)
  refine lv_aload_n hx hb dL_law_257 rfl (lv_at hl 2 rfl) ?_
  refine lv_aload_n hx hb dL_law_258 rfl (lv_at hl 0 rfl) ?_
  refine lv_iload_n hx hb dL_law_259 rfl (lv_at hl 3 rfl) ?_
  refine lv_iconst (v := (1 : Int32)) hx hb dL_law_260 (by decide) ?_
  refine lv_iadd hx hb dL_law_261 ?_
  refine va_sld hx hb hX hbl hbA Z.2.2.2.1 (v 1 (by decide) (by decide)) dL_law_262 ?_
  refine lv_aload_n hx hb dL_law_263 rfl (lv_at hl 0 rfl) ?_
  refine lv_iload_n hx hb dL_law_264 rfl (lv_at hl 3 rfl) ?_
  refine lv_iconst (v := (2 : Int32)) hx hb dL_law_265 (by decide) ?_
  refine lv_iadd hx hb dL_law_266 ?_
  refine va_sld hx hb hX hbl hbA Z.2.2.2.1 (v 2 (by decide) (by decide)) dL_law_267 ?_
  refine lv_aload_n hx hb dL_law_268 rfl (lv_at hl 0 rfl) ?_
  refine lv_iload_n hx hb dL_law_269 rfl (lv_at hl 3 rfl) ?_
  refine lv_iconst (v := (3 : Int32)) hx hb dL_law_270 (by decide) ?_
  refine lv_iadd hx hb dL_law_271 ?_
  refine va_sld hx hb hX hbl hbA Z.2.2.2.1 (v 3 (by decide) (by decide)) dL_law_272 ?_
  refine lM_I [.int (xs (x3 + (1 : Int32)).toNatClampNeg), .int (xs (x3 + (2 : Int32)).toNatClampNeg), .int (xs (x3 + (3 : Int32)).toNatClampNeg)] [.int r] B mx_yX12_sets rfl (c_fMM_sets l X _ (xs (x3 + (1 : Int32)).toNatClampNeg) (xs (x3 + (2 : Int32)).toNatClampNeg) (xs (x3 + (3 : Int32)).toNatClampNeg) τ r τ1 h2) kl_L_27 mi_yX12_sets Z hl rfl rfl ⟨Nat.le_of_ble_eq_true rfl, Nat.le_of_ble_eq_true rfl⟩ rfl rfl (Nat.le_of_ble_eq_true rfl) dL_law_273 ⟨Nat.le_of_ble_eq_true rfl, Nat.le_of_ble_eq_true rfl⟩ (fun H locs Z => ?_)
  refine lv_icmp_eq (tgt := 804) hx hb dL_law_276 (by decide) (fun _ => ?_) (fun z => absurd rfl z)
  exact kk σ1 τ1 H locs ls hI1 Z hl
set_option maxHeartbeats 4000000 in
set_option maxRecDepth 100000 in
theorem lw_case3 {p : Program} {l : Launch} {e : Env} {s : State} {m : MethodId} {below : List Frame} {meth : Method} {c : Code} {b L : Nat} {xs : Nat → Int32} {X : eX} {I : sT → sT → Prop} (o : op_of I) (B : Bd p s m #[Value.ref b] meth c R_law code 4 ret) (hX : va_X b L xs s s.heap) (hbl : b < s.heap.size) {x3 : Int32} (v : ∀ k : Int32, 0 ≤ k.toInt → k.toInt ≤ 6 → vp_in (x3 + k) L)
    (kk : ∀ (σ τ : sT) (H : Heap) (locs : List Loc) (ls : Array Slot), I σ τ → LW X s σ τ H locs → lv_has ls 4 [(0, .ref b), (1, .ref (X.2.1 0)), (2, .ref (X.2.1 33)), (3, .int x3)] → W p l e room_1 s m #[Value.ref b] below meth c H locs 51 5477 (lw_Z below #[Value.ref b] s) (F0 m 804 ls [])) (σ τ : sT) (H : Heap) (locs : List Loc) (ls : Array Slot) (hI : I σ τ) (Z : LW X s σ τ H locs) (hl : lv_has ls 4 [(0, .ref b), (1, .ref (X.2.1 0)), (2, .ref (X.2.1 33)), (3, .int x3)]) : W p l e room_1 s m #[Value.ref b] below meth c H locs 51 5477 (lw_Z below #[Value.ref b] s) (F0 m 281 ls []) := by
  have hx := B.1
  have hb := B.2.1
  have hbA : ¬ (fun q : Nat => s.heap.size ≤ q) b := Nat.not_le.mpr hbl
  obtain ⟨r, σ1, τ1, h1, h2, hI1⟩ := o σ τ hI (xs (x3 + (1 : Int32)).toNatClampNeg) (xs (x3 + (2 : Int32)).toNatClampNeg)
  refine lv_aload_n hx hb dL_law_281 rfl (lv_at hl 1 rfl) ?_
  refine lv_aload_n hx hb dL_law_282 rfl (lv_at hl 0 rfl) ?_
  refine lv_iload_n hx hb dL_law_283 rfl (lv_at hl 3 rfl) ?_
  refine lv_iconst (v := (1 : Int32)) hx hb dL_law_284 (by decide) ?_
  refine lv_iadd hx hb dL_law_285 ?_
  refine va_sld hx hb hX hbl hbA Z.2.2.2.1 (v 1 (by decide) (by decide)) dL_law_286 ?_
  refine lv_aload_n hx hb dL_law_287 rfl (lv_at hl 0 rfl) ?_
  refine lv_iload_n hx hb dL_law_288 rfl (lv_at hl 3 rfl) ?_
  refine lv_iconst (v := (2 : Int32)) hx hb dL_law_289 (by decide) ?_
  refine lv_iadd hx hb dL_law_290 ?_
  refine va_sld hx hb hX hbl hbA Z.2.2.2.1 (v 2 (by decide) (by decide)) dL_law_291 ?_
  refine lC_I [.int (xs (x3 + (1 : Int32)).toNatClampNeg), .int (xs (x3 + (2 : Int32)).toNatClampNeg)] [] B mx_yX11_of rfl (c_fRM_of l X _ (xs (x3 + (1 : Int32)).toNatClampNeg) (xs (x3 + (2 : Int32)).toNatClampNeg) σ r σ1 h1) kl_L_28 mi_yX11_of Z hl rfl rfl ⟨Nat.le_of_ble_eq_true rfl, Nat.le_of_ble_eq_true rfl⟩ rfl rfl (Nat.le_of_ble_eq_true rfl) dL_law_292 ⟨Nat.le_of_ble_eq_true rfl, Nat.le_of_ble_eq_true rfl⟩ (fun H locs Z => ?_)
  refine lv_aload_n hx hb dL_law_295 rfl (lv_at hl 2 rfl) ?_
  refine lv_aload_n hx hb dL_law_296 rfl (lv_at hl 0 rfl) ?_
  refine lv_iload_n hx hb dL_law_297 rfl (lv_at hl 3 rfl) ?_
  refine lv_iconst (v := (1 : Int32)) hx hb dL_law_298 (by decide) ?_
  refine lv_iadd hx hb dL_law_299 ?_
  refine va_sld hx hb hX hbl hbA Z.2.2.2.1 (v 1 (by decide) (by decide)) dL_law_300 ?_
  refine lv_aload_n hx hb dL_law_301 rfl (lv_at hl 0 rfl) ?_
  refine lv_iload_n hx hb dL_law_302 rfl (lv_at hl 3 rfl) ?_
  refine lv_iconst (v := (2 : Int32)) hx hb dL_law_303 (by decide) ?_
  refine lv_iadd hx hb dL_law_304 ?_
  refine va_sld hx hb hX hbl hbA Z.2.2.2.1 (v 2 (by decide) (by decide)) dL_law_305 ?_
  refine lM_I [.int (xs (x3 + (1 : Int32)).toNatClampNeg), .int (xs (x3 + (2 : Int32)).toNatClampNeg)] [.int r] B mx_yX12_of rfl (c_fMM_of l X _ (xs (x3 + (1 : Int32)).toNatClampNeg) (xs (x3 + (2 : Int32)).toNatClampNeg) τ r τ1 h2) kl_L_32 mi_yX12_of Z hl rfl rfl ⟨Nat.le_of_ble_eq_true rfl, Nat.le_of_ble_eq_true rfl⟩ rfl rfl (Nat.le_of_ble_eq_true rfl) dL_law_306 ⟨Nat.le_of_ble_eq_true rfl, Nat.le_of_ble_eq_true rfl⟩ (fun H locs Z => ?_)
  refine lv_icmp_eq (tgt := 804) hx hb dL_law_309 (by decide) (fun _ => ?_) (fun z => absurd rfl z)
  exact kk σ1 τ1 H locs ls hI1 Z hl
set_option maxHeartbeats 4000000 in
set_option maxRecDepth 100000 in
theorem lw_case4 {p : Program} {l : Launch} {e : Env} {s : State} {m : MethodId} {below : List Frame} {meth : Method} {c : Code} {b L : Nat} {xs : Nat → Int32} {X : eX} {I : sT → sT → Prop} (o : op_can I) (B : Bd p s m #[Value.ref b] meth c R_law code 4 ret) (hX : va_X b L xs s s.heap) (hbl : b < s.heap.size) {x3 : Int32} (v : ∀ k : Int32, 0 ≤ k.toInt → k.toInt ≤ 6 → vp_in (x3 + k) L)
    (kk : ∀ (σ τ : sT) (H : Heap) (locs : List Loc) (ls : Array Slot), I σ τ → LW X s σ τ H locs → lv_has ls 4 [(0, .ref b), (1, .ref (X.2.1 0)), (2, .ref (X.2.1 33)), (3, .int x3)] → W p l e room_1 s m #[Value.ref b] below meth c H locs 51 5477 (lw_Z below #[Value.ref b] s) (F0 m 804 ls [])) (σ τ : sT) (H : Heap) (locs : List Loc) (ls : Array Slot) (hI : I σ τ) (Z : LW X s σ τ H locs) (hl : lv_has ls 4 [(0, .ref b), (1, .ref (X.2.1 0)), (2, .ref (X.2.1 33)), (3, .int x3)]) : W p l e room_1 s m #[Value.ref b] below meth c H locs 51 5477 (lw_Z below #[Value.ref b] s) (F0 m 314 ls []) := by
  have hx := B.1
  have hb := B.2.1
  have hbA : ¬ (fun q : Nat => s.heap.size ≤ q) b := Nat.not_le.mpr hbl
  obtain ⟨r, σ1, τ1, h1, h2, hI1⟩ := o σ τ hI (xs (x3 + (1 : Int32)).toNatClampNeg)
  refine lv_aload_n hx hb dL_law_314 rfl (lv_at hl 1 rfl) ?_
  refine lv_aload_n hx hb dL_law_315 rfl (lv_at hl 0 rfl) ?_
  refine lv_iload_n hx hb dL_law_316 rfl (lv_at hl 3 rfl) ?_
  refine lv_iconst (v := (1 : Int32)) hx hb dL_law_317 (by decide) ?_
  refine lv_iadd hx hb dL_law_318 ?_
  refine va_sld hx hb hX hbl hbA Z.2.2.2.1 (v 1 (by decide) (by decide)) dL_law_319 ?_
  refine lC_I [.int (xs (x3 + (1 : Int32)).toNatClampNeg)] [] B mx_yX11_can rfl (c_fRM_can l X _ (xs (x3 + (1 : Int32)).toNatClampNeg) σ r σ1 h1) kl_L_33 mi_yX11_can Z hl rfl rfl ⟨Nat.le_of_ble_eq_true rfl, Nat.le_of_ble_eq_true rfl⟩ rfl rfl (Nat.le_of_ble_eq_true rfl) dL_law_320 ⟨Nat.le_of_ble_eq_true rfl, Nat.le_of_ble_eq_true rfl⟩ (fun H locs Z => ?_)
  refine lv_aload_n hx hb dL_law_323 rfl (lv_at hl 2 rfl) ?_
  refine lv_aload_n hx hb dL_law_324 rfl (lv_at hl 0 rfl) ?_
  refine lv_iload_n hx hb dL_law_325 rfl (lv_at hl 3 rfl) ?_
  refine lv_iconst (v := (1 : Int32)) hx hb dL_law_326 (by decide) ?_
  refine lv_iadd hx hb dL_law_327 ?_
  refine va_sld hx hb hX hbl hbA Z.2.2.2.1 (v 1 (by decide) (by decide)) dL_law_328 ?_
  refine lM_I [.int (xs (x3 + (1 : Int32)).toNatClampNeg)] [.int r] B mx_yX12_can rfl (c_fMM_can l X _ (xs (x3 + (1 : Int32)).toNatClampNeg) τ r τ1 h2) kl_L_36 mi_yX12_can Z hl rfl rfl ⟨Nat.le_of_ble_eq_true rfl, Nat.le_of_ble_eq_true rfl⟩ rfl rfl (Nat.le_of_ble_eq_true rfl) dL_law_329 ⟨Nat.le_of_ble_eq_true rfl, Nat.le_of_ble_eq_true rfl⟩ (fun H locs Z => ?_)
  refine lv_icmp_eq (tgt := 804) hx hb dL_law_332 (by decide) (fun _ => ?_) (fun z => absurd rfl z)
  exact kk σ1 τ1 H locs ls hI1 Z hl
set_option maxHeartbeats 4000000 in
set_option maxRecDepth 100000 in
theorem lw_case5 {p : Program} {l : Launch} {e : Env} {s : State} {m : MethodId} {below : List Frame} {meth : Method} {c : Code} {b L : Nat} {xs : Nat → Int32} {X : eX} {I : sT → sT → Prop} (o : op_dimension I) (B : Bd p s m #[Value.ref b] meth c R_law code 4 ret) (hX : va_X b L xs s s.heap) (hbl : b < s.heap.size) {x3 : Int32} (v : ∀ k : Int32, 0 ≤ k.toInt → k.toInt ≤ 6 → vp_in (x3 + k) L)
    (kk : ∀ (σ τ : sT) (H : Heap) (locs : List Loc) (ls : Array Slot), I σ τ → LW X s σ τ H locs → lv_has ls 4 [(0, .ref b), (1, .ref (X.2.1 0)), (2, .ref (X.2.1 33)), (3, .int x3)] → W p l e room_1 s m #[Value.ref b] below meth c H locs 51 5477 (lw_Z below #[Value.ref b] s) (F0 m 804 ls [])) (σ τ : sT) (H : Heap) (locs : List Loc) (ls : Array Slot) (hI : I σ τ) (Z : LW X s σ τ H locs) (hl : lv_has ls 4 [(0, .ref b), (1, .ref (X.2.1 0)), (2, .ref (X.2.1 33)), (3, .int x3)]) : W p l e room_1 s m #[Value.ref b] below meth c H locs 51 5477 (lw_Z below #[Value.ref b] s) (F0 m 337 ls []) := by
  have hx := B.1
  have hb := B.2.1
  have hbA : ¬ (fun q : Nat => s.heap.size ≤ q) b := Nat.not_le.mpr hbl
  obtain ⟨r, σ1, τ1, h1, h2, hI1⟩ := o σ τ hI (xs (x3 + (1 : Int32)).toNatClampNeg)
  refine lv_aload_n hx hb dL_law_337 rfl (lv_at hl 1 rfl) ?_
  refine lv_aload_n hx hb dL_law_338 rfl (lv_at hl 0 rfl) ?_
  refine lv_iload_n hx hb dL_law_339 rfl (lv_at hl 3 rfl) ?_
  refine lv_iconst (v := (1 : Int32)) hx hb dL_law_340 (by decide) ?_
  refine lv_iadd hx hb dL_law_341 ?_
  refine va_sld hx hb hX hbl hbA Z.2.2.2.1 (v 1 (by decide) (by decide)) dL_law_342 ?_
  refine lC_I [.int (xs (x3 + (1 : Int32)).toNatClampNeg)] [] B mx_yX11_dimension rfl (c_fRM_dimension l X _ (xs (x3 + (1 : Int32)).toNatClampNeg) σ r σ1 h1) kl_L_37 mi_yX11_dimension Z hl rfl rfl ⟨Nat.le_of_ble_eq_true rfl, Nat.le_of_ble_eq_true rfl⟩ rfl rfl (Nat.le_of_ble_eq_true rfl) dL_law_343 ⟨Nat.le_of_ble_eq_true rfl, Nat.le_of_ble_eq_true rfl⟩ (fun H locs Z => ?_)
  refine lv_aload_n hx hb dL_law_346 rfl (lv_at hl 2 rfl) ?_
  refine lv_aload_n hx hb dL_law_347 rfl (lv_at hl 0 rfl) ?_
  refine lv_iload_n hx hb dL_law_348 rfl (lv_at hl 3 rfl) ?_
  refine lv_iconst (v := (1 : Int32)) hx hb dL_law_349 (by decide) ?_
  refine lv_iadd hx hb dL_law_350 ?_
  refine va_sld hx hb hX hbl hbA Z.2.2.2.1 (v 1 (by decide) (by decide)) dL_law_351 ?_
  refine lM_I [.int (xs (x3 + (1 : Int32)).toNatClampNeg)] [.int r] B mx_yX12_dimension rfl (c_fMM_dimension l X _ (xs (x3 + (1 : Int32)).toNatClampNeg) τ r τ1 h2) kl_L_40 mi_yX12_dimension Z hl rfl rfl ⟨Nat.le_of_ble_eq_true rfl, Nat.le_of_ble_eq_true rfl⟩ rfl rfl (Nat.le_of_ble_eq_true rfl) dL_law_352 ⟨Nat.le_of_ble_eq_true rfl, Nat.le_of_ble_eq_true rfl⟩ (fun H locs Z => ?_)
  refine lv_icmp_eq (tgt := 804) hx hb dL_law_355 (by decide) (fun _ => ?_) (fun z => absurd rfl z)
  exact kk σ1 τ1 H locs ls hI1 Z hl
set_option maxHeartbeats 4000000 in
set_option maxRecDepth 100000 in
theorem lw_case6 {p : Program} {l : Launch} {e : Env} {s : State} {m : MethodId} {below : List Frame} {meth : Method} {c : Code} {b L : Nat} {xs : Nat → Int32} {X : eX} {I : sT → sT → Prop} (o : op_bound I) (B : Bd p s m #[Value.ref b] meth c R_law code 4 ret) (hX : va_X b L xs s s.heap) (hbl : b < s.heap.size) {x3 : Int32} (v : ∀ k : Int32, 0 ≤ k.toInt → k.toInt ≤ 6 → vp_in (x3 + k) L)
    (kk : ∀ (σ τ : sT) (H : Heap) (locs : List Loc) (ls : Array Slot), I σ τ → LW X s σ τ H locs → lv_has ls 4 [(0, .ref b), (1, .ref (X.2.1 0)), (2, .ref (X.2.1 33)), (3, .int x3)] → W p l e room_1 s m #[Value.ref b] below meth c H locs 51 5477 (lw_Z below #[Value.ref b] s) (F0 m 804 ls [])) (σ τ : sT) (H : Heap) (locs : List Loc) (ls : Array Slot) (hI : I σ τ) (Z : LW X s σ τ H locs) (hl : lv_has ls 4 [(0, .ref b), (1, .ref (X.2.1 0)), (2, .ref (X.2.1 33)), (3, .int x3)]) : W p l e room_1 s m #[Value.ref b] below meth c H locs 51 5477 (lw_Z below #[Value.ref b] s) (F0 m 360 ls []) := by
  have hx := B.1
  have hb := B.2.1
  have hbA : ¬ (fun q : Nat => s.heap.size ≤ q) b := Nat.not_le.mpr hbl
  obtain ⟨r, σ1, τ1, h1, h2, hI1⟩ := o σ τ hI (xs (x3 + (1 : Int32)).toNatClampNeg) (xs (x3 + (2 : Int32)).toNatClampNeg) (xs (x3 + (3 : Int32)).toNatClampNeg) (xs (x3 + (4 : Int32)).toNatClampNeg)
  refine lv_aload_n hx hb dL_law_360 rfl (lv_at hl 1 rfl) ?_
  refine lv_aload_n hx hb dL_law_361 rfl (lv_at hl 0 rfl) ?_
  refine lv_iload_n hx hb dL_law_362 rfl (lv_at hl 3 rfl) ?_
  refine lv_iconst (v := (1 : Int32)) hx hb dL_law_363 (by decide) ?_
  refine lv_iadd hx hb dL_law_364 ?_
  refine va_sld hx hb hX hbl hbA Z.2.2.2.1 (v 1 (by decide) (by decide)) dL_law_365 ?_
  refine lv_aload_n hx hb dL_law_366 rfl (lv_at hl 0 rfl) ?_
  refine lv_iload_n hx hb dL_law_367 rfl (lv_at hl 3 rfl) ?_
  refine lv_iconst (v := (2 : Int32)) hx hb dL_law_368 (by decide) ?_
  refine lv_iadd hx hb dL_law_369 ?_
  refine va_sld hx hb hX hbl hbA Z.2.2.2.1 (v 2 (by decide) (by decide)) dL_law_370 ?_
  refine lv_aload_n hx hb dL_law_371 rfl (lv_at hl 0 rfl) ?_
  refine lv_iload_n hx hb dL_law_372 rfl (lv_at hl 3 rfl) ?_
  refine lv_iconst (v := (3 : Int32)) hx hb dL_law_373 (by decide) ?_
  refine lv_iadd hx hb dL_law_374 ?_
  refine va_sld hx hb hX hbl hbA Z.2.2.2.1 (v 3 (by decide) (by decide)) dL_law_375 ?_
  refine lv_aload_n hx hb dL_law_376 rfl (lv_at hl 0 rfl) ?_
  refine lv_iload_n hx hb dL_law_377 rfl (lv_at hl 3 rfl) ?_
  refine lv_iconst (v := (4 : Int32)) hx hb dL_law_378 (by decide) ?_
  refine lv_iadd hx hb dL_law_379 ?_
  refine va_sld hx hb hX hbl hbA Z.2.2.2.1 (v 4 (by decide) (by decide)) dL_law_380 ?_
  refine lC_L [.int (xs (x3 + (1 : Int32)).toNatClampNeg), .int (xs (x3 + (2 : Int32)).toNatClampNeg), .int (xs (x3 + (3 : Int32)).toNatClampNeg), .int (xs (x3 + (4 : Int32)).toNatClampNeg)] [] B mx_yX11_bound rfl (c_fRM_bound l X _ (xs (x3 + (1 : Int32)).toNatClampNeg) (xs (x3 + (2 : Int32)).toNatClampNeg) (xs (x3 + (3 : Int32)).toNatClampNeg) (xs (x3 + (4 : Int32)).toNatClampNeg) σ r σ1 h1) kl_L_41 mi_yX11_bound Z hl rfl rfl ⟨Nat.le_of_ble_eq_true rfl, Nat.le_of_ble_eq_true rfl⟩ rfl rfl (Nat.le_of_ble_eq_true rfl) dL_law_381 ⟨Nat.le_of_ble_eq_true rfl, Nat.le_of_ble_eq_true rfl⟩ (fun H locs Z => ?_)
  refine lv_aload_n hx hb dL_law_384 rfl (lv_at hl 2 rfl) ?_
  refine lv_aload_n hx hb dL_law_385 rfl (lv_at hl 0 rfl) ?_
  refine lv_iload_n hx hb dL_law_386 rfl (lv_at hl 3 rfl) ?_
  refine lv_iconst (v := (1 : Int32)) hx hb dL_law_387 (by decide) ?_
  refine lv_iadd hx hb dL_law_388 ?_
  refine va_sld hx hb hX hbl hbA Z.2.2.2.1 (v 1 (by decide) (by decide)) dL_law_389 ?_
  refine lv_aload_n hx hb dL_law_390 rfl (lv_at hl 0 rfl) ?_
  refine lv_iload_n hx hb dL_law_391 rfl (lv_at hl 3 rfl) ?_
  refine lv_iconst (v := (2 : Int32)) hx hb dL_law_392 (by decide) ?_
  refine lv_iadd hx hb dL_law_393 ?_
  refine va_sld hx hb hX hbl hbA Z.2.2.2.1 (v 2 (by decide) (by decide)) dL_law_394 ?_
  refine lv_aload_n hx hb dL_law_395 rfl (lv_at hl 0 rfl) ?_
  refine lv_iload_n hx hb dL_law_396 rfl (lv_at hl 3 rfl) ?_
  refine lv_iconst (v := (3 : Int32)) hx hb dL_law_397 (by decide) ?_
  refine lv_iadd hx hb dL_law_398 ?_
  refine va_sld hx hb hX hbl hbA Z.2.2.2.1 (v 3 (by decide) (by decide)) dL_law_399 ?_
  refine lv_aload_n hx hb dL_law_400 rfl (lv_at hl 0 rfl) ?_
  refine lv_iload_n hx hb dL_law_401 rfl (lv_at hl 3 rfl) ?_
  refine lv_iconst (v := (4 : Int32)) hx hb dL_law_402 (by decide) ?_
  refine lv_iadd hx hb dL_law_403 ?_
  refine va_sld hx hb hX hbl hbA Z.2.2.2.1 (v 4 (by decide) (by decide)) dL_law_404 ?_
  refine lM_L [.int (xs (x3 + (1 : Int32)).toNatClampNeg), .int (xs (x3 + (2 : Int32)).toNatClampNeg), .int (xs (x3 + (3 : Int32)).toNatClampNeg), .int (xs (x3 + (4 : Int32)).toNatClampNeg)] [.long r] B mx_yX12_bound rfl (c_fMM_bound l X _ (xs (x3 + (1 : Int32)).toNatClampNeg) (xs (x3 + (2 : Int32)).toNatClampNeg) (xs (x3 + (3 : Int32)).toNatClampNeg) (xs (x3 + (4 : Int32)).toNatClampNeg) τ r τ1 h2) kl_L_45 mi_yX12_bound Z hl rfl rfl ⟨Nat.le_of_ble_eq_true rfl, Nat.le_of_ble_eq_true rfl⟩ rfl rfl (Nat.le_of_ble_eq_true rfl) dL_law_405 ⟨Nat.le_of_ble_eq_true rfl, Nat.le_of_ble_eq_true rfl⟩ (fun H locs Z => ?_)
  refine W.lcmp hx hb dL_law_408 ?_
  refine lv_if_eq (tgt := 804) hx hb dL_law_409 (by decide) (fun _ => ?_) (fun z => absurd ((lg_cmp_eq r r).mpr rfl) z)
  exact kk σ1 τ1 H locs ls hI1 Z hl
set_option maxHeartbeats 4000000 in
set_option maxRecDepth 100000 in
theorem lw_case7 {p : Program} {l : Launch} {e : Env} {s : State} {m : MethodId} {below : List Frame} {meth : Method} {c : Code} {b L : Nat} {xs : Nat → Int32} {X : eX} {I : sT → sT → Prop} (o : op_brings I) (B : Bd p s m #[Value.ref b] meth c R_law code 4 ret) (hX : va_X b L xs s s.heap) (hbl : b < s.heap.size) {x3 : Int32} (v : ∀ k : Int32, 0 ≤ k.toInt → k.toInt ≤ 6 → vp_in (x3 + k) L)
    (kk : ∀ (σ τ : sT) (H : Heap) (locs : List Loc) (ls : Array Slot), I σ τ → LW X s σ τ H locs → lv_has ls 4 [(0, .ref b), (1, .ref (X.2.1 0)), (2, .ref (X.2.1 33)), (3, .int x3)] → W p l e room_1 s m #[Value.ref b] below meth c H locs 51 5477 (lw_Z below #[Value.ref b] s) (F0 m 804 ls [])) (σ τ : sT) (H : Heap) (locs : List Loc) (ls : Array Slot) (hI : I σ τ) (Z : LW X s σ τ H locs) (hl : lv_has ls 4 [(0, .ref b), (1, .ref (X.2.1 0)), (2, .ref (X.2.1 33)), (3, .int x3)]) : W p l e room_1 s m #[Value.ref b] below meth c H locs 51 5477 (lw_Z below #[Value.ref b] s) (F0 m 414 ls []) := by
  have hx := B.1
  have hb := B.2.1
  have hbA : ¬ (fun q : Nat => s.heap.size ≤ q) b := Nat.not_le.mpr hbl
  obtain ⟨r, σ1, τ1, h1, h2, hI1⟩ := o σ τ hI (xs (x3 + (1 : Int32)).toNatClampNeg) (xs (x3 + (2 : Int32)).toNatClampNeg)
  refine lv_aload_n hx hb dL_law_414 rfl (lv_at hl 1 rfl) ?_
  refine lv_aload_n hx hb dL_law_415 rfl (lv_at hl 0 rfl) ?_
  refine lv_iload_n hx hb dL_law_416 rfl (lv_at hl 3 rfl) ?_
  refine lv_iconst (v := (1 : Int32)) hx hb dL_law_417 (by decide) ?_
  refine lv_iadd hx hb dL_law_418 ?_
  refine va_sld hx hb hX hbl hbA Z.2.2.2.1 (v 1 (by decide) (by decide)) dL_law_419 ?_
  refine lv_aload_n hx hb dL_law_420 rfl (lv_at hl 0 rfl) ?_
  refine lv_iload_n hx hb dL_law_421 rfl (lv_at hl 3 rfl) ?_
  refine lv_iconst (v := (2 : Int32)) hx hb dL_law_422 (by decide) ?_
  refine lv_iadd hx hb dL_law_423 ?_
  refine va_sld hx hb hX hbl hbA Z.2.2.2.1 (v 2 (by decide) (by decide)) dL_law_424 ?_
  refine lC_I [.int (xs (x3 + (1 : Int32)).toNatClampNeg), .int (xs (x3 + (2 : Int32)).toNatClampNeg)] [] B mx_yX11_brings rfl (c_fRM_brings l X _ (xs (x3 + (1 : Int32)).toNatClampNeg) (xs (x3 + (2 : Int32)).toNatClampNeg) σ r σ1 h1) kl_L_46 mi_yX11_brings Z hl rfl rfl ⟨Nat.le_of_ble_eq_true rfl, Nat.le_of_ble_eq_true rfl⟩ rfl rfl (Nat.le_of_ble_eq_true rfl) dL_law_425 ⟨Nat.le_of_ble_eq_true rfl, Nat.le_of_ble_eq_true rfl⟩ (fun H locs Z => ?_)
  refine lv_aload_n hx hb dL_law_428 rfl (lv_at hl 2 rfl) ?_
  refine lv_aload_n hx hb dL_law_429 rfl (lv_at hl 0 rfl) ?_
  refine lv_iload_n hx hb dL_law_430 rfl (lv_at hl 3 rfl) ?_
  refine lv_iconst (v := (1 : Int32)) hx hb dL_law_431 (by decide) ?_
  refine lv_iadd hx hb dL_law_432 ?_
  refine va_sld hx hb hX hbl hbA Z.2.2.2.1 (v 1 (by decide) (by decide)) dL_law_433 ?_
  refine lv_aload_n hx hb dL_law_434 rfl (lv_at hl 0 rfl) ?_
  refine lv_iload_n hx hb dL_law_435 rfl (lv_at hl 3 rfl) ?_
  refine lv_iconst (v := (2 : Int32)) hx hb dL_law_436 (by decide) ?_
  refine lv_iadd hx hb dL_law_437 ?_
  refine va_sld hx hb hX hbl hbA Z.2.2.2.1 (v 2 (by decide) (by decide)) dL_law_438 ?_
  refine lM_I [.int (xs (x3 + (1 : Int32)).toNatClampNeg), .int (xs (x3 + (2 : Int32)).toNatClampNeg)] [.int r] B mx_yX12_brings rfl (c_fMM_brings l X _ (xs (x3 + (1 : Int32)).toNatClampNeg) (xs (x3 + (2 : Int32)).toNatClampNeg) τ r τ1 h2) kl_L_49 mi_yX12_brings Z hl rfl rfl ⟨Nat.le_of_ble_eq_true rfl, Nat.le_of_ble_eq_true rfl⟩ rfl rfl (Nat.le_of_ble_eq_true rfl) dL_law_439 ⟨Nat.le_of_ble_eq_true rfl, Nat.le_of_ble_eq_true rfl⟩ (fun H locs Z => ?_)
  refine lv_icmp_eq (tgt := 804) hx hb dL_law_442 (by decide) (fun _ => ?_) (fun z => absurd rfl z)
  exact kk σ1 τ1 H locs ls hI1 Z hl
set_option maxHeartbeats 4000000 in
set_option maxRecDepth 100000 in
theorem lw_case8 {p : Program} {l : Launch} {e : Env} {s : State} {m : MethodId} {below : List Frame} {meth : Method} {c : Code} {b L : Nat} {xs : Nat → Int32} {X : eX} {I : sT → sT → Prop} (o : op_spare I) (B : Bd p s m #[Value.ref b] meth c R_law code 4 ret) (hX : va_X b L xs s s.heap) (hbl : b < s.heap.size) {x3 : Int32} (v : ∀ k : Int32, 0 ≤ k.toInt → k.toInt ≤ 6 → vp_in (x3 + k) L)
    (kk : ∀ (σ τ : sT) (H : Heap) (locs : List Loc) (ls : Array Slot), I σ τ → LW X s σ τ H locs → lv_has ls 4 [(0, .ref b), (1, .ref (X.2.1 0)), (2, .ref (X.2.1 33)), (3, .int x3)] → W p l e room_1 s m #[Value.ref b] below meth c H locs 51 5477 (lw_Z below #[Value.ref b] s) (F0 m 804 ls [])) (σ τ : sT) (H : Heap) (locs : List Loc) (ls : Array Slot) (hI : I σ τ) (Z : LW X s σ τ H locs) (hl : lv_has ls 4 [(0, .ref b), (1, .ref (X.2.1 0)), (2, .ref (X.2.1 33)), (3, .int x3)]) : W p l e room_1 s m #[Value.ref b] below meth c H locs 51 5477 (lw_Z below #[Value.ref b] s) (F0 m 447 ls []) := by
  have hx := B.1
  have hb := B.2.1
  have hbA : ¬ (fun q : Nat => s.heap.size ≤ q) b := Nat.not_le.mpr hbl
  obtain ⟨r, σ1, τ1, h1, h2, hI1⟩ := o σ τ hI (xs (x3 + (1 : Int32)).toNatClampNeg)
  refine lv_aload_n hx hb dL_law_447 rfl (lv_at hl 1 rfl) ?_
  refine lv_aload_n hx hb dL_law_448 rfl (lv_at hl 0 rfl) ?_
  refine lv_iload_n hx hb dL_law_449 rfl (lv_at hl 3 rfl) ?_
  refine lv_iconst (v := (1 : Int32)) hx hb dL_law_450 (by decide) ?_
  refine lv_iadd hx hb dL_law_451 ?_
  refine va_sld hx hb hX hbl hbA Z.2.2.2.1 (v 1 (by decide) (by decide)) dL_law_452 ?_
  refine lC_I [.int (xs (x3 + (1 : Int32)).toNatClampNeg)] [] B mx_yX11_spare rfl (c_fRM_spare l X _ (xs (x3 + (1 : Int32)).toNatClampNeg) σ r σ1 h1) kl_L_50 mi_yX11_spare Z hl rfl rfl ⟨Nat.le_of_ble_eq_true rfl, Nat.le_of_ble_eq_true rfl⟩ rfl rfl (Nat.le_of_ble_eq_true rfl) dL_law_453 ⟨Nat.le_of_ble_eq_true rfl, Nat.le_of_ble_eq_true rfl⟩ (fun H locs Z => ?_)
  refine lv_aload_n hx hb dL_law_456 rfl (lv_at hl 2 rfl) ?_
  refine lv_aload_n hx hb dL_law_457 rfl (lv_at hl 0 rfl) ?_
  refine lv_iload_n hx hb dL_law_458 rfl (lv_at hl 3 rfl) ?_
  refine lv_iconst (v := (1 : Int32)) hx hb dL_law_459 (by decide) ?_
  refine lv_iadd hx hb dL_law_460 ?_
  refine va_sld hx hb hX hbl hbA Z.2.2.2.1 (v 1 (by decide) (by decide)) dL_law_461 ?_
  refine lM_I [.int (xs (x3 + (1 : Int32)).toNatClampNeg)] [.int r] B mx_yX12_spare rfl (c_fMM_spare l X _ (xs (x3 + (1 : Int32)).toNatClampNeg) τ r τ1 h2) kl_L_53 mi_yX12_spare Z hl rfl rfl ⟨Nat.le_of_ble_eq_true rfl, Nat.le_of_ble_eq_true rfl⟩ rfl rfl (Nat.le_of_ble_eq_true rfl) dL_law_462 ⟨Nat.le_of_ble_eq_true rfl, Nat.le_of_ble_eq_true rfl⟩ (fun H locs Z => ?_)
  refine lv_icmp_eq (tgt := 804) hx hb dL_law_465 (by decide) (fun _ => ?_) (fun z => absurd rfl z)
  exact kk σ1 τ1 H locs ls hI1 Z hl
set_option maxHeartbeats 4000000 in
set_option maxRecDepth 100000 in
theorem lw_case9 {p : Program} {l : Launch} {e : Env} {s : State} {m : MethodId} {below : List Frame} {meth : Method} {c : Code} {b L : Nat} {xs : Nat → Int32} {X : eX} {I : sT → sT → Prop} (o : op_same I) (B : Bd p s m #[Value.ref b] meth c R_law code 4 ret) (hX : va_X b L xs s s.heap) (hbl : b < s.heap.size) {x3 : Int32} (v : ∀ k : Int32, 0 ≤ k.toInt → k.toInt ≤ 6 → vp_in (x3 + k) L)
    (kk : ∀ (σ τ : sT) (H : Heap) (locs : List Loc) (ls : Array Slot), I σ τ → LW X s σ τ H locs → lv_has ls 4 [(0, .ref b), (1, .ref (X.2.1 0)), (2, .ref (X.2.1 33)), (3, .int x3)] → W p l e room_1 s m #[Value.ref b] below meth c H locs 51 5477 (lw_Z below #[Value.ref b] s) (F0 m 804 ls [])) (σ τ : sT) (H : Heap) (locs : List Loc) (ls : Array Slot) (hI : I σ τ) (Z : LW X s σ τ H locs) (hl : lv_has ls 4 [(0, .ref b), (1, .ref (X.2.1 0)), (2, .ref (X.2.1 33)), (3, .int x3)]) : W p l e room_1 s m #[Value.ref b] below meth c H locs 51 5477 (lw_Z below #[Value.ref b] s) (F0 m 470 ls []) := by
  have hx := B.1
  have hb := B.2.1
  have hbA : ¬ (fun q : Nat => s.heap.size ≤ q) b := Nat.not_le.mpr hbl
  obtain ⟨r, σ1, τ1, h1, h2, hI1⟩ := o σ τ hI (xs (x3 + (1 : Int32)).toNatClampNeg) (xs (x3 + (2 : Int32)).toNatClampNeg)
  refine lv_aload_n hx hb dL_law_470 rfl (lv_at hl 1 rfl) ?_
  refine lv_aload_n hx hb dL_law_471 rfl (lv_at hl 0 rfl) ?_
  refine lv_iload_n hx hb dL_law_472 rfl (lv_at hl 3 rfl) ?_
  refine lv_iconst (v := (1 : Int32)) hx hb dL_law_473 (by decide) ?_
  refine lv_iadd hx hb dL_law_474 ?_
  refine va_sld hx hb hX hbl hbA Z.2.2.2.1 (v 1 (by decide) (by decide)) dL_law_475 ?_
  refine lv_aload_n hx hb dL_law_476 rfl (lv_at hl 0 rfl) ?_
  refine lv_iload_n hx hb dL_law_477 rfl (lv_at hl 3 rfl) ?_
  refine lv_iconst (v := (2 : Int32)) hx hb dL_law_478 (by decide) ?_
  refine lv_iadd hx hb dL_law_479 ?_
  refine va_sld hx hb hX hbl hbA Z.2.2.2.1 (v 2 (by decide) (by decide)) dL_law_480 ?_
  refine lC_I [.int (xs (x3 + (1 : Int32)).toNatClampNeg), .int (xs (x3 + (2 : Int32)).toNatClampNeg)] [] B mx_yX11_same rfl (c_fRM_same l X _ (xs (x3 + (1 : Int32)).toNatClampNeg) (xs (x3 + (2 : Int32)).toNatClampNeg) σ r σ1 h1) kl_L_54 mi_yX11_same Z hl rfl rfl ⟨Nat.le_of_ble_eq_true rfl, Nat.le_of_ble_eq_true rfl⟩ rfl rfl (Nat.le_of_ble_eq_true rfl) dL_law_481 ⟨Nat.le_of_ble_eq_true rfl, Nat.le_of_ble_eq_true rfl⟩ (fun H locs Z => ?_)
  refine lv_aload_n hx hb dL_law_484 rfl (lv_at hl 2 rfl) ?_
  refine lv_aload_n hx hb dL_law_485 rfl (lv_at hl 0 rfl) ?_
  refine lv_iload_n hx hb dL_law_486 rfl (lv_at hl 3 rfl) ?_
  refine lv_iconst (v := (1 : Int32)) hx hb dL_law_487 (by decide) ?_
  refine lv_iadd hx hb dL_law_488 ?_
  refine va_sld hx hb hX hbl hbA Z.2.2.2.1 (v 1 (by decide) (by decide)) dL_law_489 ?_
  refine lv_aload_n hx hb dL_law_490 rfl (lv_at hl 0 rfl) ?_
  refine lv_iload_n hx hb dL_law_491 rfl (lv_at hl 3 rfl) ?_
  refine lv_iconst (v := (2 : Int32)) hx hb dL_law_492 (by decide) ?_
  refine lv_iadd hx hb dL_law_493 ?_
  refine va_sld hx hb hX hbl hbA Z.2.2.2.1 (v 2 (by decide) (by decide)) dL_law_494 ?_
  refine lM_I [.int (xs (x3 + (1 : Int32)).toNatClampNeg), .int (xs (x3 + (2 : Int32)).toNatClampNeg)] [.int r] B mx_yX12_same rfl (c_fMM_same l X _ (xs (x3 + (1 : Int32)).toNatClampNeg) (xs (x3 + (2 : Int32)).toNatClampNeg) τ r τ1 h2) kl_L_57 mi_yX12_same Z hl rfl rfl ⟨Nat.le_of_ble_eq_true rfl, Nat.le_of_ble_eq_true rfl⟩ rfl rfl (Nat.le_of_ble_eq_true rfl) dL_law_495 ⟨Nat.le_of_ble_eq_true rfl, Nat.le_of_ble_eq_true rfl⟩ (fun H locs Z => ?_)
  refine lv_icmp_eq (tgt := 804) hx hb dL_law_498 (by decide) (fun _ => ?_) (fun z => absurd rfl z)
  exact kk σ1 τ1 H locs ls hI1 Z hl
set_option maxHeartbeats 4000000 in
set_option maxRecDepth 100000 in
theorem lw_case10 {p : Program} {l : Launch} {e : Env} {s : State} {m : MethodId} {below : List Frame} {meth : Method} {c : Code} {b L : Nat} {xs : Nat → Int32} {X : eX} {I : sT → sT → Prop} (o : op_point I) (B : Bd p s m #[Value.ref b] meth c R_law code 4 ret) (hX : va_X b L xs s s.heap) (hbl : b < s.heap.size) {x3 : Int32} (v : ∀ k : Int32, 0 ≤ k.toInt → k.toInt ≤ 6 → vp_in (x3 + k) L)
    (kk : ∀ (σ τ : sT) (H : Heap) (locs : List Loc) (ls : Array Slot), I σ τ → LW X s σ τ H locs → lv_has ls 4 [(0, .ref b), (1, .ref (X.2.1 0)), (2, .ref (X.2.1 33)), (3, .int x3)] → W p l e room_1 s m #[Value.ref b] below meth c H locs 51 5477 (lw_Z below #[Value.ref b] s) (F0 m 804 ls [])) (σ τ : sT) (H : Heap) (locs : List Loc) (ls : Array Slot) (hI : I σ τ) (Z : LW X s σ τ H locs) (hl : lv_has ls 4 [(0, .ref b), (1, .ref (X.2.1 0)), (2, .ref (X.2.1 33)), (3, .int x3)]) : W p l e room_1 s m #[Value.ref b] below meth c H locs 51 5477 (lw_Z below #[Value.ref b] s) (F0 m 503 ls []) := by
  have hx := B.1
  have hb := B.2.1
  have hbA : ¬ (fun q : Nat => s.heap.size ≤ q) b := Nat.not_le.mpr hbl
  obtain ⟨r, σ1, τ1, h1, h2, hI1⟩ := o σ τ hI (xs (x3 + (1 : Int32)).toNatClampNeg) (xs (x3 + (2 : Int32)).toNatClampNeg) (xs (x3 + (3 : Int32)).toNatClampNeg)
  refine lv_aload_n hx hb dL_law_503 rfl (lv_at hl 1 rfl) ?_
  refine lv_aload_n hx hb dL_law_504 rfl (lv_at hl 0 rfl) ?_
  refine lv_iload_n hx hb dL_law_505 rfl (lv_at hl 3 rfl) ?_
  refine lv_iconst (v := (1 : Int32)) hx hb dL_law_506 (by decide) ?_
  refine lv_iadd hx hb dL_law_507 ?_
  refine va_sld hx hb hX hbl hbA Z.2.2.2.1 (v 1 (by decide) (by decide)) dL_law_508 ?_
  refine lv_aload_n hx hb dL_law_509 rfl (lv_at hl 0 rfl) ?_
  refine lv_iload_n hx hb dL_law_510 rfl (lv_at hl 3 rfl) ?_
  refine lv_iconst (v := (2 : Int32)) hx hb dL_law_511 (by decide) ?_
  refine lv_iadd hx hb dL_law_512 ?_
  refine va_sld hx hb hX hbl hbA Z.2.2.2.1 (v 2 (by decide) (by decide)) dL_law_513 ?_
  refine lv_aload_n hx hb dL_law_514 rfl (lv_at hl 0 rfl) ?_
  refine lv_iload_n hx hb dL_law_515 rfl (lv_at hl 3 rfl) ?_
  refine lv_iconst (v := (3 : Int32)) hx hb dL_law_516 (by decide) ?_
  refine lv_iadd hx hb dL_law_517 ?_
  refine va_sld hx hb hX hbl hbA Z.2.2.2.1 (v 3 (by decide) (by decide)) dL_law_518 ?_
  refine lC_L [.int (xs (x3 + (1 : Int32)).toNatClampNeg), .int (xs (x3 + (2 : Int32)).toNatClampNeg), .int (xs (x3 + (3 : Int32)).toNatClampNeg)] [] B mx_yX11_point rfl (c_fRM_point l X _ (xs (x3 + (1 : Int32)).toNatClampNeg) (xs (x3 + (2 : Int32)).toNatClampNeg) (xs (x3 + (3 : Int32)).toNatClampNeg) σ r σ1 h1) kl_L_58 mi_yX11_point Z hl rfl rfl ⟨Nat.le_of_ble_eq_true rfl, Nat.le_of_ble_eq_true rfl⟩ rfl rfl (Nat.le_of_ble_eq_true rfl) dL_law_519 ⟨Nat.le_of_ble_eq_true rfl, Nat.le_of_ble_eq_true rfl⟩ (fun H locs Z => ?_)
  refine lv_aload_n hx hb dL_law_522 rfl (lv_at hl 2 rfl) ?_
  refine lv_aload_n hx hb dL_law_523 rfl (lv_at hl 0 rfl) ?_
  refine lv_iload_n hx hb dL_law_524 rfl (lv_at hl 3 rfl) ?_
  refine lv_iconst (v := (1 : Int32)) hx hb dL_law_525 (by decide) ?_
  refine lv_iadd hx hb dL_law_526 ?_
  refine va_sld hx hb hX hbl hbA Z.2.2.2.1 (v 1 (by decide) (by decide)) dL_law_527 ?_
  refine lv_aload_n hx hb dL_law_528 rfl (lv_at hl 0 rfl) ?_
  refine lv_iload_n hx hb dL_law_529 rfl (lv_at hl 3 rfl) ?_
  refine lv_iconst (v := (2 : Int32)) hx hb dL_law_530 (by decide) ?_
  refine lv_iadd hx hb dL_law_531 ?_
  refine va_sld hx hb hX hbl hbA Z.2.2.2.1 (v 2 (by decide) (by decide)) dL_law_532 ?_
  refine lv_aload_n hx hb dL_law_533 rfl (lv_at hl 0 rfl) ?_
  refine lv_iload_n hx hb dL_law_534 rfl (lv_at hl 3 rfl) ?_
  refine lv_iconst (v := (3 : Int32)) hx hb dL_law_535 (by decide) ?_
  refine lv_iadd hx hb dL_law_536 ?_
  refine va_sld hx hb hX hbl hbA Z.2.2.2.1 (v 3 (by decide) (by decide)) dL_law_537 ?_
  refine lM_L [.int (xs (x3 + (1 : Int32)).toNatClampNeg), .int (xs (x3 + (2 : Int32)).toNatClampNeg), .int (xs (x3 + (3 : Int32)).toNatClampNeg)] [.long r] B mx_yX12_point rfl (c_fMM_point l X _ (xs (x3 + (1 : Int32)).toNatClampNeg) (xs (x3 + (2 : Int32)).toNatClampNeg) (xs (x3 + (3 : Int32)).toNatClampNeg) τ r τ1 h2) kl_L_62 mi_yX12_point Z hl rfl rfl ⟨Nat.le_of_ble_eq_true rfl, Nat.le_of_ble_eq_true rfl⟩ rfl rfl (Nat.le_of_ble_eq_true rfl) dL_law_538 ⟨Nat.le_of_ble_eq_true rfl, Nat.le_of_ble_eq_true rfl⟩ (fun H locs Z => ?_)
  refine W.lcmp hx hb dL_law_541 ?_
  refine lv_if_eq (tgt := 804) hx hb dL_law_542 (by decide) (fun _ => ?_) (fun z => absurd ((lg_cmp_eq r r).mpr rfl) z)
  exact kk σ1 τ1 H locs ls hI1 Z hl
set_option maxHeartbeats 4000000 in
set_option maxRecDepth 100000 in
theorem lw_case11 {p : Program} {l : Launch} {e : Env} {s : State} {m : MethodId} {below : List Frame} {meth : Method} {c : Code} {b L : Nat} {xs : Nat → Int32} {X : eX} {I : sT → sT → Prop} (o : op_core I) (B : Bd p s m #[Value.ref b] meth c R_law code 4 ret) (hX : va_X b L xs s s.heap) (hbl : b < s.heap.size) {x3 : Int32} (v : ∀ k : Int32, 0 ≤ k.toInt → k.toInt ≤ 6 → vp_in (x3 + k) L)
    (kk : ∀ (σ τ : sT) (H : Heap) (locs : List Loc) (ls : Array Slot), I σ τ → LW X s σ τ H locs → lv_has ls 4 [(0, .ref b), (1, .ref (X.2.1 0)), (2, .ref (X.2.1 33)), (3, .int x3)] → W p l e room_1 s m #[Value.ref b] below meth c H locs 51 5477 (lw_Z below #[Value.ref b] s) (F0 m 804 ls [])) (σ τ : sT) (H : Heap) (locs : List Loc) (ls : Array Slot) (hI : I σ τ) (Z : LW X s σ τ H locs) (hl : lv_has ls 4 [(0, .ref b), (1, .ref (X.2.1 0)), (2, .ref (X.2.1 33)), (3, .int x3)]) : W p l e room_1 s m #[Value.ref b] below meth c H locs 51 5477 (lw_Z below #[Value.ref b] s) (F0 m 547 ls []) := by
  have hx := B.1
  have hb := B.2.1
  have hbA : ¬ (fun q : Nat => s.heap.size ≤ q) b := Nat.not_le.mpr hbl
  obtain ⟨r, σ1, τ1, h1, h2, hI1⟩ := o σ τ hI (xs (x3 + (1 : Int32)).toNatClampNeg)
  refine lv_aload_n hx hb dL_law_547 rfl (lv_at hl 1 rfl) ?_
  refine lv_aload_n hx hb dL_law_548 rfl (lv_at hl 0 rfl) ?_
  refine lv_iload_n hx hb dL_law_549 rfl (lv_at hl 3 rfl) ?_
  refine lv_iconst (v := (1 : Int32)) hx hb dL_law_550 (by decide) ?_
  refine lv_iadd hx hb dL_law_551 ?_
  refine va_sld hx hb hX hbl hbA Z.2.2.2.1 (v 1 (by decide) (by decide)) dL_law_552 ?_
  refine lC_I [.int (xs (x3 + (1 : Int32)).toNatClampNeg)] [] B mx_yX11_core rfl (c_fRM_core l X _ (xs (x3 + (1 : Int32)).toNatClampNeg) σ r σ1 h1) kl_L_63 mi_yX11_core Z hl rfl rfl ⟨Nat.le_of_ble_eq_true rfl, Nat.le_of_ble_eq_true rfl⟩ rfl rfl (Nat.le_of_ble_eq_true rfl) dL_law_553 ⟨Nat.le_of_ble_eq_true rfl, Nat.le_of_ble_eq_true rfl⟩ (fun H locs Z => ?_)
  refine lv_aload_n hx hb dL_law_556 rfl (lv_at hl 2 rfl) ?_
  refine lv_aload_n hx hb dL_law_557 rfl (lv_at hl 0 rfl) ?_
  refine lv_iload_n hx hb dL_law_558 rfl (lv_at hl 3 rfl) ?_
  refine lv_iconst (v := (1 : Int32)) hx hb dL_law_559 (by decide) ?_
  refine lv_iadd hx hb dL_law_560 ?_
  refine va_sld hx hb hX hbl hbA Z.2.2.2.1 (v 1 (by decide) (by decide)) dL_law_561 ?_
  refine lM_I [.int (xs (x3 + (1 : Int32)).toNatClampNeg)] [.int r] B mx_yX12_core rfl (c_fMM_core l X _ (xs (x3 + (1 : Int32)).toNatClampNeg) τ r τ1 h2) kl_L_66 mi_yX12_core Z hl rfl rfl ⟨Nat.le_of_ble_eq_true rfl, Nat.le_of_ble_eq_true rfl⟩ rfl rfl (Nat.le_of_ble_eq_true rfl) dL_law_562 ⟨Nat.le_of_ble_eq_true rfl, Nat.le_of_ble_eq_true rfl⟩ (fun H locs Z => ?_)
  refine lv_icmp_eq (tgt := 804) hx hb dL_law_565 (by decide) (fun _ => ?_) (fun z => absurd rfl z)
  exact kk σ1 τ1 H locs ls hI1 Z hl
set_option maxHeartbeats 4000000 in
set_option maxRecDepth 100000 in
theorem lw_case12 {p : Program} {l : Launch} {e : Env} {s : State} {m : MethodId} {below : List Frame} {meth : Method} {c : Code} {b L : Nat} {xs : Nat → Int32} {X : eX} {I : sT → sT → Prop} (o : op_times I) (B : Bd p s m #[Value.ref b] meth c R_law code 4 ret) (hX : va_X b L xs s s.heap) (hbl : b < s.heap.size) {x3 : Int32} (v : ∀ k : Int32, 0 ≤ k.toInt → k.toInt ≤ 6 → vp_in (x3 + k) L)
    (kk : ∀ (σ τ : sT) (H : Heap) (locs : List Loc) (ls : Array Slot), I σ τ → LW X s σ τ H locs → lv_has ls 4 [(0, .ref b), (1, .ref (X.2.1 0)), (2, .ref (X.2.1 33)), (3, .int x3)] → W p l e room_1 s m #[Value.ref b] below meth c H locs 51 5477 (lw_Z below #[Value.ref b] s) (F0 m 804 ls [])) (σ τ : sT) (H : Heap) (locs : List Loc) (ls : Array Slot) (hI : I σ τ) (Z : LW X s σ τ H locs) (hl : lv_has ls 4 [(0, .ref b), (1, .ref (X.2.1 0)), (2, .ref (X.2.1 33)), (3, .int x3)]) : W p l e room_1 s m #[Value.ref b] below meth c H locs 51 5477 (lw_Z below #[Value.ref b] s) (F0 m 570 ls []) := by
  have hx := B.1
  have hb := B.2.1
  have hbA : ¬ (fun q : Nat => s.heap.size ≤ q) b := Nat.not_le.mpr hbl
  obtain ⟨r, σ1, τ1, h1, h2, hI1⟩ := o σ τ hI (xs (x3 + (1 : Int32)).toNatClampNeg) (xs (x3 + (2 : Int32)).toNatClampNeg)
  refine lv_aload_n hx hb dL_law_570 rfl (lv_at hl 1 rfl) ?_
  refine lv_aload_n hx hb dL_law_571 rfl (lv_at hl 0 rfl) ?_
  refine lv_iload_n hx hb dL_law_572 rfl (lv_at hl 3 rfl) ?_
  refine lv_iconst (v := (1 : Int32)) hx hb dL_law_573 (by decide) ?_
  refine lv_iadd hx hb dL_law_574 ?_
  refine va_sld hx hb hX hbl hbA Z.2.2.2.1 (v 1 (by decide) (by decide)) dL_law_575 ?_
  refine lv_aload_n hx hb dL_law_576 rfl (lv_at hl 0 rfl) ?_
  refine lv_iload_n hx hb dL_law_577 rfl (lv_at hl 3 rfl) ?_
  refine lv_iconst (v := (2 : Int32)) hx hb dL_law_578 (by decide) ?_
  refine lv_iadd hx hb dL_law_579 ?_
  refine va_sld hx hb hX hbl hbA Z.2.2.2.1 (v 2 (by decide) (by decide)) dL_law_580 ?_
  refine lC_I [.int (xs (x3 + (1 : Int32)).toNatClampNeg), .int (xs (x3 + (2 : Int32)).toNatClampNeg)] [] B mx_yX11_times rfl (c_fRM_times l X _ (xs (x3 + (1 : Int32)).toNatClampNeg) (xs (x3 + (2 : Int32)).toNatClampNeg) σ r σ1 h1) kl_L_67 mi_yX11_times Z hl rfl rfl ⟨Nat.le_of_ble_eq_true rfl, Nat.le_of_ble_eq_true rfl⟩ rfl rfl (Nat.le_of_ble_eq_true rfl) dL_law_581 ⟨Nat.le_of_ble_eq_true rfl, Nat.le_of_ble_eq_true rfl⟩ (fun H locs Z => ?_)
  refine lv_aload_n hx hb dL_law_584 rfl (lv_at hl 2 rfl) ?_
  refine lv_aload_n hx hb dL_law_585 rfl (lv_at hl 0 rfl) ?_
  refine lv_iload_n hx hb dL_law_586 rfl (lv_at hl 3 rfl) ?_
  refine lv_iconst (v := (1 : Int32)) hx hb dL_law_587 (by decide) ?_
  refine lv_iadd hx hb dL_law_588 ?_
  refine va_sld hx hb hX hbl hbA Z.2.2.2.1 (v 1 (by decide) (by decide)) dL_law_589 ?_
  refine lv_aload_n hx hb dL_law_590 rfl (lv_at hl 0 rfl) ?_
  refine lv_iload_n hx hb dL_law_591 rfl (lv_at hl 3 rfl) ?_
  refine lv_iconst (v := (2 : Int32)) hx hb dL_law_592 (by decide) ?_
  refine lv_iadd hx hb dL_law_593 ?_
  refine va_sld hx hb hX hbl hbA Z.2.2.2.1 (v 2 (by decide) (by decide)) dL_law_594 ?_
  refine lM_I [.int (xs (x3 + (1 : Int32)).toNatClampNeg), .int (xs (x3 + (2 : Int32)).toNatClampNeg)] [.int r] B mx_yX12_times rfl (c_fMM_times l X _ (xs (x3 + (1 : Int32)).toNatClampNeg) (xs (x3 + (2 : Int32)).toNatClampNeg) τ r τ1 h2) kl_L_70 mi_yX12_times Z hl rfl rfl ⟨Nat.le_of_ble_eq_true rfl, Nat.le_of_ble_eq_true rfl⟩ rfl rfl (Nat.le_of_ble_eq_true rfl) dL_law_595 ⟨Nat.le_of_ble_eq_true rfl, Nat.le_of_ble_eq_true rfl⟩ (fun H locs Z => ?_)
  refine lv_icmp_eq (tgt := 804) hx hb dL_law_598 (by decide) (fun _ => ?_) (fun z => absurd rfl z)
  exact kk σ1 τ1 H locs ls hI1 Z hl
set_option maxHeartbeats 4000000 in
set_option maxRecDepth 100000 in
theorem lw_case13 {p : Program} {l : Launch} {e : Env} {s : State} {m : MethodId} {below : List Frame} {meth : Method} {c : Code} {b L : Nat} {xs : Nat → Int32} {X : eX} {I : sT → sT → Prop} (o : op_between I) (B : Bd p s m #[Value.ref b] meth c R_law code 4 ret) (hX : va_X b L xs s s.heap) (hbl : b < s.heap.size) {x3 : Int32} (v : ∀ k : Int32, 0 ≤ k.toInt → k.toInt ≤ 6 → vp_in (x3 + k) L)
    (kk : ∀ (σ τ : sT) (H : Heap) (locs : List Loc) (ls : Array Slot), I σ τ → LW X s σ τ H locs → lv_has ls 4 [(0, .ref b), (1, .ref (X.2.1 0)), (2, .ref (X.2.1 33)), (3, .int x3)] → W p l e room_1 s m #[Value.ref b] below meth c H locs 51 5477 (lw_Z below #[Value.ref b] s) (F0 m 804 ls [])) (σ τ : sT) (H : Heap) (locs : List Loc) (ls : Array Slot) (hI : I σ τ) (Z : LW X s σ τ H locs) (hl : lv_has ls 4 [(0, .ref b), (1, .ref (X.2.1 0)), (2, .ref (X.2.1 33)), (3, .int x3)]) : W p l e room_1 s m #[Value.ref b] below meth c H locs 51 5477 (lw_Z below #[Value.ref b] s) (F0 m 603 ls []) := by
  have hx := B.1
  have hb := B.2.1
  have hbA : ¬ (fun q : Nat => s.heap.size ≤ q) b := Nat.not_le.mpr hbl
  obtain ⟨r, σ1, τ1, h1, h2, hI1⟩ := o σ τ hI (xs (x3 + (1 : Int32)).toNatClampNeg)
  refine lv_aload_n hx hb dL_law_603 rfl (lv_at hl 1 rfl) ?_
  refine lv_aload_n hx hb dL_law_604 rfl (lv_at hl 0 rfl) ?_
  refine lv_iload_n hx hb dL_law_605 rfl (lv_at hl 3 rfl) ?_
  refine lv_iconst (v := (1 : Int32)) hx hb dL_law_606 (by decide) ?_
  refine lv_iadd hx hb dL_law_607 ?_
  refine va_sld hx hb hX hbl hbA Z.2.2.2.1 (v 1 (by decide) (by decide)) dL_law_608 ?_
  refine lC_I [.int (xs (x3 + (1 : Int32)).toNatClampNeg)] [] B mx_yX11_between rfl (c_fRM_between l X _ (xs (x3 + (1 : Int32)).toNatClampNeg) σ r σ1 h1) kl_L_71 mi_yX11_between Z hl rfl rfl ⟨Nat.le_of_ble_eq_true rfl, Nat.le_of_ble_eq_true rfl⟩ rfl rfl (Nat.le_of_ble_eq_true rfl) dL_law_609 ⟨Nat.le_of_ble_eq_true rfl, Nat.le_of_ble_eq_true rfl⟩ (fun H locs Z => ?_)
  refine lv_aload_n hx hb dL_law_612 rfl (lv_at hl 2 rfl) ?_
  refine lv_aload_n hx hb dL_law_613 rfl (lv_at hl 0 rfl) ?_
  refine lv_iload_n hx hb dL_law_614 rfl (lv_at hl 3 rfl) ?_
  refine lv_iconst (v := (1 : Int32)) hx hb dL_law_615 (by decide) ?_
  refine lv_iadd hx hb dL_law_616 ?_
  refine va_sld hx hb hX hbl hbA Z.2.2.2.1 (v 1 (by decide) (by decide)) dL_law_617 ?_
  refine lM_I [.int (xs (x3 + (1 : Int32)).toNatClampNeg)] [.int r] B mx_yX12_between_ rfl (c_fMM_between l X _ (xs (x3 + (1 : Int32)).toNatClampNeg) τ r τ1 h2) kl_L_74 mi_yX12_between_ Z hl rfl rfl ⟨Nat.le_of_ble_eq_true rfl, Nat.le_of_ble_eq_true rfl⟩ rfl rfl (Nat.le_of_ble_eq_true rfl) dL_law_618 ⟨Nat.le_of_ble_eq_true rfl, Nat.le_of_ble_eq_true rfl⟩ (fun H locs Z => ?_)
  refine lv_icmp_eq (tgt := 804) hx hb dL_law_621 (by decide) (fun _ => ?_) (fun z => absurd rfl z)
  exact kk σ1 τ1 H locs ls hI1 Z hl
set_option maxHeartbeats 4000000 in
set_option maxRecDepth 100000 in
theorem lw_case14 {p : Program} {l : Launch} {e : Env} {s : State} {m : MethodId} {below : List Frame} {meth : Method} {c : Code} {b L : Nat} {xs : Nat → Int32} {X : eX} {I : sT → sT → Prop} (o : op_sides I) (B : Bd p s m #[Value.ref b] meth c R_law code 4 ret) (hX : va_X b L xs s s.heap) (hbl : b < s.heap.size) {x3 : Int32} (v : ∀ k : Int32, 0 ≤ k.toInt → k.toInt ≤ 6 → vp_in (x3 + k) L)
    (kk : ∀ (σ τ : sT) (H : Heap) (locs : List Loc) (ls : Array Slot), I σ τ → LW X s σ τ H locs → lv_has ls 4 [(0, .ref b), (1, .ref (X.2.1 0)), (2, .ref (X.2.1 33)), (3, .int x3)] → W p l e room_1 s m #[Value.ref b] below meth c H locs 51 5477 (lw_Z below #[Value.ref b] s) (F0 m 804 ls [])) (σ τ : sT) (H : Heap) (locs : List Loc) (ls : Array Slot) (hI : I σ τ) (Z : LW X s σ τ H locs) (hl : lv_has ls 4 [(0, .ref b), (1, .ref (X.2.1 0)), (2, .ref (X.2.1 33)), (3, .int x3)]) : W p l e room_1 s m #[Value.ref b] below meth c H locs 51 5477 (lw_Z below #[Value.ref b] s) (F0 m 626 ls []) := by
  have hx := B.1
  have hb := B.2.1
  have hbA : ¬ (fun q : Nat => s.heap.size ≤ q) b := Nat.not_le.mpr hbl
  obtain ⟨r, σ1, τ1, h1, h2, hI1⟩ := o σ τ hI (xs (x3 + (1 : Int32)).toNatClampNeg)
  refine lv_aload_n hx hb dL_law_626 rfl (lv_at hl 1 rfl) ?_
  refine lv_aload_n hx hb dL_law_627 rfl (lv_at hl 0 rfl) ?_
  refine lv_iload_n hx hb dL_law_628 rfl (lv_at hl 3 rfl) ?_
  refine lv_iconst (v := (1 : Int32)) hx hb dL_law_629 (by decide) ?_
  refine lv_iadd hx hb dL_law_630 ?_
  refine va_sld hx hb hX hbl hbA Z.2.2.2.1 (v 1 (by decide) (by decide)) dL_law_631 ?_
  refine lC_I [.int (xs (x3 + (1 : Int32)).toNatClampNeg)] [] B mx_yX11_sides rfl (c_fRM_sides l X _ (xs (x3 + (1 : Int32)).toNatClampNeg) σ r σ1 h1) kl_L_75 mi_yX11_sides Z hl rfl rfl ⟨Nat.le_of_ble_eq_true rfl, Nat.le_of_ble_eq_true rfl⟩ rfl rfl (Nat.le_of_ble_eq_true rfl) dL_law_632 ⟨Nat.le_of_ble_eq_true rfl, Nat.le_of_ble_eq_true rfl⟩ (fun H locs Z => ?_)
  refine lv_aload_n hx hb dL_law_635 rfl (lv_at hl 2 rfl) ?_
  refine lv_aload_n hx hb dL_law_636 rfl (lv_at hl 0 rfl) ?_
  refine lv_iload_n hx hb dL_law_637 rfl (lv_at hl 3 rfl) ?_
  refine lv_iconst (v := (1 : Int32)) hx hb dL_law_638 (by decide) ?_
  refine lv_iadd hx hb dL_law_639 ?_
  refine va_sld hx hb hX hbl hbA Z.2.2.2.1 (v 1 (by decide) (by decide)) dL_law_640 ?_
  refine lM_I [.int (xs (x3 + (1 : Int32)).toNatClampNeg)] [.int r] B mx_yX12_sides rfl (c_fMM_sides l X _ (xs (x3 + (1 : Int32)).toNatClampNeg) τ r τ1 h2) kl_L_78 mi_yX12_sides Z hl rfl rfl ⟨Nat.le_of_ble_eq_true rfl, Nat.le_of_ble_eq_true rfl⟩ rfl rfl (Nat.le_of_ble_eq_true rfl) dL_law_641 ⟨Nat.le_of_ble_eq_true rfl, Nat.le_of_ble_eq_true rfl⟩ (fun H locs Z => ?_)
  refine lv_icmp_eq (tgt := 804) hx hb dL_law_644 (by decide) (fun _ => ?_) (fun z => absurd rfl z)
  exact kk σ1 τ1 H locs ls hI1 Z hl
set_option maxHeartbeats 4000000 in
set_option maxRecDepth 100000 in
theorem lw_case15 {p : Program} {l : Launch} {e : Env} {s : State} {m : MethodId} {below : List Frame} {meth : Method} {c : Code} {b L : Nat} {xs : Nat → Int32} {X : eX} {I : sT → sT → Prop} (o : op_formula I) (B : Bd p s m #[Value.ref b] meth c R_law code 4 ret) (hX : va_X b L xs s s.heap) (hbl : b < s.heap.size) {x3 : Int32} (v : ∀ k : Int32, 0 ≤ k.toInt → k.toInt ≤ 6 → vp_in (x3 + k) L)
    (kk : ∀ (σ τ : sT) (H : Heap) (locs : List Loc) (ls : Array Slot), I σ τ → LW X s σ τ H locs → lv_has ls 4 [(0, .ref b), (1, .ref (X.2.1 0)), (2, .ref (X.2.1 33)), (3, .int x3)] → W p l e room_1 s m #[Value.ref b] below meth c H locs 51 5477 (lw_Z below #[Value.ref b] s) (F0 m 804 ls [])) (σ τ : sT) (H : Heap) (locs : List Loc) (ls : Array Slot) (hI : I σ τ) (Z : LW X s σ τ H locs) (hl : lv_has ls 4 [(0, .ref b), (1, .ref (X.2.1 0)), (2, .ref (X.2.1 33)), (3, .int x3)]) : W p l e room_1 s m #[Value.ref b] below meth c H locs 51 5477 (lw_Z below #[Value.ref b] s) (F0 m 649 ls []) := by
  have hx := B.1
  have hb := B.2.1
  have hbA : ¬ (fun q : Nat => s.heap.size ≤ q) b := Nat.not_le.mpr hbl
  obtain ⟨r, σ1, τ1, h1, h2, hI1⟩ := o σ τ hI (xs (x3 + (1 : Int32)).toNatClampNeg)
  refine lv_aload_n hx hb dL_law_649 rfl (lv_at hl 1 rfl) ?_
  refine lv_aload_n hx hb dL_law_650 rfl (lv_at hl 0 rfl) ?_
  refine lv_iload_n hx hb dL_law_651 rfl (lv_at hl 3 rfl) ?_
  refine lv_iconst (v := (1 : Int32)) hx hb dL_law_652 (by decide) ?_
  refine lv_iadd hx hb dL_law_653 ?_
  refine va_sld hx hb hX hbl hbA Z.2.2.2.1 (v 1 (by decide) (by decide)) dL_law_654 ?_
  refine lC_I [.int (xs (x3 + (1 : Int32)).toNatClampNeg)] [] B mx_yX11_formula rfl (c_fRM_formula l X _ (xs (x3 + (1 : Int32)).toNatClampNeg) σ r σ1 h1) kl_L_79 mi_yX11_formula Z hl rfl rfl ⟨Nat.le_of_ble_eq_true rfl, Nat.le_of_ble_eq_true rfl⟩ rfl rfl (Nat.le_of_ble_eq_true rfl) dL_law_655 ⟨Nat.le_of_ble_eq_true rfl, Nat.le_of_ble_eq_true rfl⟩ (fun H locs Z => ?_)
  refine lv_aload_n hx hb dL_law_658 rfl (lv_at hl 2 rfl) ?_
  refine lv_aload_n hx hb dL_law_659 rfl (lv_at hl 0 rfl) ?_
  refine lv_iload_n hx hb dL_law_660 rfl (lv_at hl 3 rfl) ?_
  refine lv_iconst (v := (1 : Int32)) hx hb dL_law_661 (by decide) ?_
  refine lv_iadd hx hb dL_law_662 ?_
  refine va_sld hx hb hX hbl hbA Z.2.2.2.1 (v 1 (by decide) (by decide)) dL_law_663 ?_
  refine lM_I [.int (xs (x3 + (1 : Int32)).toNatClampNeg)] [.int r] B mx_yX12_formula rfl (c_fMM_formula l X _ (xs (x3 + (1 : Int32)).toNatClampNeg) τ r τ1 h2) kl_L_82 mi_yX12_formula Z hl rfl rfl ⟨Nat.le_of_ble_eq_true rfl, Nat.le_of_ble_eq_true rfl⟩ rfl rfl (Nat.le_of_ble_eq_true rfl) dL_law_664 ⟨Nat.le_of_ble_eq_true rfl, Nat.le_of_ble_eq_true rfl⟩ (fun H locs Z => ?_)
  refine lv_icmp_eq (tgt := 804) hx hb dL_law_667 (by decide) (fun _ => ?_) (fun z => absurd rfl z)
  exact kk σ1 τ1 H locs ls hI1 Z hl
set_option maxHeartbeats 4000000 in
set_option maxRecDepth 100000 in
theorem lw_case16 {p : Program} {l : Launch} {e : Env} {s : State} {m : MethodId} {below : List Frame} {meth : Method} {c : Code} {b L : Nat} {xs : Nat → Int32} {X : eX} {I : sT → sT → Prop} (o : op_type I) (B : Bd p s m #[Value.ref b] meth c R_law code 4 ret) (hX : va_X b L xs s s.heap) (hbl : b < s.heap.size) {x3 : Int32} (v : ∀ k : Int32, 0 ≤ k.toInt → k.toInt ≤ 6 → vp_in (x3 + k) L)
    (kk : ∀ (σ τ : sT) (H : Heap) (locs : List Loc) (ls : Array Slot), I σ τ → LW X s σ τ H locs → lv_has ls 4 [(0, .ref b), (1, .ref (X.2.1 0)), (2, .ref (X.2.1 33)), (3, .int x3)] → W p l e room_1 s m #[Value.ref b] below meth c H locs 51 5477 (lw_Z below #[Value.ref b] s) (F0 m 804 ls [])) (σ τ : sT) (H : Heap) (locs : List Loc) (ls : Array Slot) (hI : I σ τ) (Z : LW X s σ τ H locs) (hl : lv_has ls 4 [(0, .ref b), (1, .ref (X.2.1 0)), (2, .ref (X.2.1 33)), (3, .int x3)]) : W p l e room_1 s m #[Value.ref b] below meth c H locs 51 5477 (lw_Z below #[Value.ref b] s) (F0 m 672 ls []) := by
  have hx := B.1
  have hb := B.2.1
  have hbA : ¬ (fun q : Nat => s.heap.size ≤ q) b := Nat.not_le.mpr hbl
  obtain ⟨r, σ1, τ1, h1, h2, hI1⟩ := o σ τ hI (xs (x3 + (1 : Int32)).toNatClampNeg)
  refine lv_aload_n hx hb dL_law_672 rfl (lv_at hl 1 rfl) ?_
  refine lv_aload_n hx hb dL_law_673 rfl (lv_at hl 0 rfl) ?_
  refine lv_iload_n hx hb dL_law_674 rfl (lv_at hl 3 rfl) ?_
  refine lv_iconst (v := (1 : Int32)) hx hb dL_law_675 (by decide) ?_
  refine lv_iadd hx hb dL_law_676 ?_
  refine va_sld hx hb hX hbl hbA Z.2.2.2.1 (v 1 (by decide) (by decide)) dL_law_677 ?_
  refine lC_I [.int (xs (x3 + (1 : Int32)).toNatClampNeg)] [] B mx_yX11_type rfl (c_fRM_type l X _ (xs (x3 + (1 : Int32)).toNatClampNeg) σ r σ1 h1) kl_L_83 mi_yX11_type Z hl rfl rfl ⟨Nat.le_of_ble_eq_true rfl, Nat.le_of_ble_eq_true rfl⟩ rfl rfl (Nat.le_of_ble_eq_true rfl) dL_law_678 ⟨Nat.le_of_ble_eq_true rfl, Nat.le_of_ble_eq_true rfl⟩ (fun H locs Z => ?_)
  refine lv_aload_n hx hb dL_law_681 rfl (lv_at hl 2 rfl) ?_
  refine lv_aload_n hx hb dL_law_682 rfl (lv_at hl 0 rfl) ?_
  refine lv_iload_n hx hb dL_law_683 rfl (lv_at hl 3 rfl) ?_
  refine lv_iconst (v := (1 : Int32)) hx hb dL_law_684 (by decide) ?_
  refine lv_iadd hx hb dL_law_685 ?_
  refine va_sld hx hb hX hbl hbA Z.2.2.2.1 (v 1 (by decide) (by decide)) dL_law_686 ?_
  refine lM_I [.int (xs (x3 + (1 : Int32)).toNatClampNeg)] [.int r] B mx_yX12_type rfl (c_fMM_type l X _ (xs (x3 + (1 : Int32)).toNatClampNeg) τ r τ1 h2) kl_L_86 mi_yX12_type Z hl rfl rfl ⟨Nat.le_of_ble_eq_true rfl, Nat.le_of_ble_eq_true rfl⟩ rfl rfl (Nat.le_of_ble_eq_true rfl) dL_law_687 ⟨Nat.le_of_ble_eq_true rfl, Nat.le_of_ble_eq_true rfl⟩ (fun H locs Z => ?_)
  refine lv_icmp_eq (tgt := 804) hx hb dL_law_690 (by decide) (fun _ => ?_) (fun z => absurd rfl z)
  exact kk σ1 τ1 H locs ls hI1 Z hl
set_option maxHeartbeats 4000000 in
set_option maxRecDepth 100000 in
theorem lw_case17 {p : Program} {l : Launch} {e : Env} {s : State} {m : MethodId} {below : List Frame} {meth : Method} {c : Code} {b L : Nat} {xs : Nat → Int32} {X : eX} {I : sT → sT → Prop} (o : op_clear I) (B : Bd p s m #[Value.ref b] meth c R_law code 4 ret) (hX : va_X b L xs s s.heap) (hbl : b < s.heap.size) {x3 : Int32} (v : ∀ k : Int32, 0 ≤ k.toInt → k.toInt ≤ 6 → vp_in (x3 + k) L)
    (kk : ∀ (σ τ : sT) (H : Heap) (locs : List Loc) (ls : Array Slot), I σ τ → LW X s σ τ H locs → lv_has ls 4 [(0, .ref b), (1, .ref (X.2.1 0)), (2, .ref (X.2.1 33)), (3, .int x3)] → W p l e room_1 s m #[Value.ref b] below meth c H locs 51 5477 (lw_Z below #[Value.ref b] s) (F0 m 804 ls [])) (σ τ : sT) (H : Heap) (locs : List Loc) (ls : Array Slot) (hI : I σ τ) (Z : LW X s σ τ H locs) (hl : lv_has ls 4 [(0, .ref b), (1, .ref (X.2.1 0)), (2, .ref (X.2.1 33)), (3, .int x3)]) : W p l e room_1 s m #[Value.ref b] below meth c H locs 51 5477 (lw_Z below #[Value.ref b] s) (F0 m 695 ls []) := by
  have hx := B.1
  have hb := B.2.1
  have hbA : ¬ (fun q : Nat => s.heap.size ≤ q) b := Nat.not_le.mpr hbl
  obtain ⟨r, σ1, τ1, h1, h2, hI1⟩ := o σ τ hI ()
  refine lv_aload_n hx hb dL_law_695 rfl (lv_at hl 1 rfl) ?_
  refine lC_I [] [] B mx_yX11_clear rfl (c_fRM_clear l X _  σ r σ1 h1) kl_L_87 mi_yX11_clear Z hl rfl rfl ⟨Nat.le_of_ble_eq_true rfl, Nat.le_of_ble_eq_true rfl⟩ rfl rfl (Nat.le_of_ble_eq_true rfl) dL_law_696 ⟨Nat.le_of_ble_eq_true rfl, Nat.le_of_ble_eq_true rfl⟩ (fun H locs Z => ?_)
  refine lv_aload_n hx hb dL_law_699 rfl (lv_at hl 2 rfl) ?_
  refine lM_I [] [.int r] B mx_yX12_clear rfl (c_fMM_clear l X _  τ r τ1 h2) kl_L_91 mi_yX12_clear Z hl rfl rfl ⟨Nat.le_of_ble_eq_true rfl, Nat.le_of_ble_eq_true rfl⟩ rfl rfl (Nat.le_of_ble_eq_true rfl) dL_law_700 ⟨Nat.le_of_ble_eq_true rfl, Nat.le_of_ble_eq_true rfl⟩ (fun H locs Z => ?_)
  refine lv_icmp_eq (tgt := 804) hx hb dL_law_703 (by decide) (fun _ => ?_) (fun z => absurd rfl z)
  exact kk σ1 τ1 H locs ls hI1 Z hl
set_option maxHeartbeats 4000000 in
set_option maxRecDepth 100000 in
theorem lw_case18 {p : Program} {l : Launch} {e : Env} {s : State} {m : MethodId} {below : List Frame} {meth : Method} {c : Code} {b L : Nat} {xs : Nat → Int32} {X : eX} {I : sT → sT → Prop} (o : op_reads I) (B : Bd p s m #[Value.ref b] meth c R_law code 4 ret) (hX : va_X b L xs s s.heap) (hbl : b < s.heap.size) {x3 : Int32} (v : ∀ k : Int32, 0 ≤ k.toInt → k.toInt ≤ 6 → vp_in (x3 + k) L)
    (kk : ∀ (σ τ : sT) (H : Heap) (locs : List Loc) (ls : Array Slot), I σ τ → LW X s σ τ H locs → lv_has ls 4 [(0, .ref b), (1, .ref (X.2.1 0)), (2, .ref (X.2.1 33)), (3, .int x3)] → W p l e room_1 s m #[Value.ref b] below meth c H locs 51 5477 (lw_Z below #[Value.ref b] s) (F0 m 804 ls [])) (σ τ : sT) (H : Heap) (locs : List Loc) (ls : Array Slot) (hI : I σ τ) (Z : LW X s σ τ H locs) (hl : lv_has ls 4 [(0, .ref b), (1, .ref (X.2.1 0)), (2, .ref (X.2.1 33)), (3, .int x3)]) : W p l e room_1 s m #[Value.ref b] below meth c H locs 51 5477 (lw_Z below #[Value.ref b] s) (F0 m 708 ls []) := by
  have hx := B.1
  have hb := B.2.1
  have hbA : ¬ (fun q : Nat => s.heap.size ≤ q) b := Nat.not_le.mpr hbl
  obtain ⟨r, σ1, τ1, h1, h2, hI1⟩ := o σ τ hI ()
  refine lv_aload_n hx hb dL_law_708 rfl (lv_at hl 1 rfl) ?_
  refine lC_I [] [] B mx_yX11_reads rfl (c_fRM_reads l X _  σ r σ1 h1) kl_L_92 mi_yX11_reads Z hl rfl rfl ⟨Nat.le_of_ble_eq_true rfl, Nat.le_of_ble_eq_true rfl⟩ rfl rfl (Nat.le_of_ble_eq_true rfl) dL_law_709 ⟨Nat.le_of_ble_eq_true rfl, Nat.le_of_ble_eq_true rfl⟩ (fun H locs Z => ?_)
  refine lv_aload_n hx hb dL_law_712 rfl (lv_at hl 2 rfl) ?_
  refine lM_I [] [.int r] B mx_yX12_reads rfl (c_fMM_reads l X _  τ r τ1 h2) kl_L_95 mi_yX12_reads Z hl rfl rfl ⟨Nat.le_of_ble_eq_true rfl, Nat.le_of_ble_eq_true rfl⟩ rfl rfl (Nat.le_of_ble_eq_true rfl) dL_law_713 ⟨Nat.le_of_ble_eq_true rfl, Nat.le_of_ble_eq_true rfl⟩ (fun H locs Z => ?_)
  refine lv_icmp_eq (tgt := 804) hx hb dL_law_716 (by decide) (fun _ => ?_) (fun z => absurd rfl z)
  exact kk σ1 τ1 H locs ls hI1 Z hl
set_option maxHeartbeats 4000000 in
set_option maxRecDepth 100000 in
theorem lw_case19 {p : Program} {l : Launch} {e : Env} {s : State} {m : MethodId} {below : List Frame} {meth : Method} {c : Code} {b L : Nat} {xs : Nat → Int32} {X : eX} {I : sT → sT → Prop} (o : op_shown I) (B : Bd p s m #[Value.ref b] meth c R_law code 4 ret) (hX : va_X b L xs s s.heap) (hbl : b < s.heap.size) {x3 : Int32} (v : ∀ k : Int32, 0 ≤ k.toInt → k.toInt ≤ 6 → vp_in (x3 + k) L)
    (kk : ∀ (σ τ : sT) (H : Heap) (locs : List Loc) (ls : Array Slot), I σ τ → LW X s σ τ H locs → lv_has ls 4 [(0, .ref b), (1, .ref (X.2.1 0)), (2, .ref (X.2.1 33)), (3, .int x3)] → W p l e room_1 s m #[Value.ref b] below meth c H locs 51 5477 (lw_Z below #[Value.ref b] s) (F0 m 804 ls [])) (σ τ : sT) (H : Heap) (locs : List Loc) (ls : Array Slot) (hI : I σ τ) (Z : LW X s σ τ H locs) (hl : lv_has ls 4 [(0, .ref b), (1, .ref (X.2.1 0)), (2, .ref (X.2.1 33)), (3, .int x3)]) : W p l e room_1 s m #[Value.ref b] below meth c H locs 51 5477 (lw_Z below #[Value.ref b] s) (F0 m 721 ls []) := by
  have hx := B.1
  have hb := B.2.1
  have hbA : ¬ (fun q : Nat => s.heap.size ≤ q) b := Nat.not_le.mpr hbl
  obtain ⟨r, σ1, τ1, h1, h2, hI1⟩ := o σ τ hI (xs (x3 + (1 : Int32)).toNatClampNeg) (xs (x3 + (2 : Int32)).toNatClampNeg)
  refine lv_aload_n hx hb dL_law_721 rfl (lv_at hl 1 rfl) ?_
  refine lv_aload_n hx hb dL_law_722 rfl (lv_at hl 0 rfl) ?_
  refine lv_iload_n hx hb dL_law_723 rfl (lv_at hl 3 rfl) ?_
  refine lv_iconst (v := (1 : Int32)) hx hb dL_law_724 (by decide) ?_
  refine lv_iadd hx hb dL_law_725 ?_
  refine va_sld hx hb hX hbl hbA Z.2.2.2.1 (v 1 (by decide) (by decide)) dL_law_726 ?_
  refine lv_aload_n hx hb dL_law_727 rfl (lv_at hl 0 rfl) ?_
  refine lv_iload_n hx hb dL_law_728 rfl (lv_at hl 3 rfl) ?_
  refine lv_iconst (v := (2 : Int32)) hx hb dL_law_729 (by decide) ?_
  refine lv_iadd hx hb dL_law_730 ?_
  refine va_sld hx hb hX hbl hbA Z.2.2.2.1 (v 2 (by decide) (by decide)) dL_law_731 ?_
  refine lC_I [.int (xs (x3 + (1 : Int32)).toNatClampNeg), .int (xs (x3 + (2 : Int32)).toNatClampNeg)] [] B mx_yX11_shown rfl (c_fRM_shown l X _ (xs (x3 + (1 : Int32)).toNatClampNeg) (xs (x3 + (2 : Int32)).toNatClampNeg) σ r σ1 h1) kl_L_96 mi_yX11_shown Z hl rfl rfl ⟨Nat.le_of_ble_eq_true rfl, Nat.le_of_ble_eq_true rfl⟩ rfl rfl (Nat.le_of_ble_eq_true rfl) dL_law_732 ⟨Nat.le_of_ble_eq_true rfl, Nat.le_of_ble_eq_true rfl⟩ (fun H locs Z => ?_)
  refine lv_aload_n hx hb dL_law_735 rfl (lv_at hl 2 rfl) ?_
  refine lv_aload_n hx hb dL_law_736 rfl (lv_at hl 0 rfl) ?_
  refine lv_iload_n hx hb dL_law_737 rfl (lv_at hl 3 rfl) ?_
  refine lv_iconst (v := (1 : Int32)) hx hb dL_law_738 (by decide) ?_
  refine lv_iadd hx hb dL_law_739 ?_
  refine va_sld hx hb hX hbl hbA Z.2.2.2.1 (v 1 (by decide) (by decide)) dL_law_740 ?_
  refine lv_aload_n hx hb dL_law_741 rfl (lv_at hl 0 rfl) ?_
  refine lv_iload_n hx hb dL_law_742 rfl (lv_at hl 3 rfl) ?_
  refine lv_iconst (v := (2 : Int32)) hx hb dL_law_743 (by decide) ?_
  refine lv_iadd hx hb dL_law_744 ?_
  refine va_sld hx hb hX hbl hbA Z.2.2.2.1 (v 2 (by decide) (by decide)) dL_law_745 ?_
  refine lM_I [.int (xs (x3 + (1 : Int32)).toNatClampNeg), .int (xs (x3 + (2 : Int32)).toNatClampNeg)] [.int r] B mx_yX12_shown rfl (c_fMM_shown l X _ (xs (x3 + (1 : Int32)).toNatClampNeg) (xs (x3 + (2 : Int32)).toNatClampNeg) τ r τ1 h2) kl_L_99 mi_yX12_shown Z hl rfl rfl ⟨Nat.le_of_ble_eq_true rfl, Nat.le_of_ble_eq_true rfl⟩ rfl rfl (Nat.le_of_ble_eq_true rfl) dL_law_746 ⟨Nat.le_of_ble_eq_true rfl, Nat.le_of_ble_eq_true rfl⟩ (fun H locs Z => ?_)
  refine lv_icmp_eq (tgt := 804) hx hb dL_law_749 (by decide) (fun _ => ?_) (fun z => absurd rfl z)
  exact kk σ1 τ1 H locs ls hI1 Z hl
set_option maxHeartbeats 4000000 in
set_option maxRecDepth 100000 in
theorem lw_case20 {p : Program} {l : Launch} {e : Env} {s : State} {m : MethodId} {below : List Frame} {meth : Method} {c : Code} {b L : Nat} {xs : Nat → Int32} {X : eX} {I : sT → sT → Prop} (o : op_back I) (B : Bd p s m #[Value.ref b] meth c R_law code 4 ret) (hX : va_X b L xs s s.heap) (hbl : b < s.heap.size) {x3 : Int32} (v : ∀ k : Int32, 0 ≤ k.toInt → k.toInt ≤ 6 → vp_in (x3 + k) L)
    (kk : ∀ (σ τ : sT) (H : Heap) (locs : List Loc) (ls : Array Slot), I σ τ → LW X s σ τ H locs → lv_has ls 4 [(0, .ref b), (1, .ref (X.2.1 0)), (2, .ref (X.2.1 33)), (3, .int x3)] → W p l e room_1 s m #[Value.ref b] below meth c H locs 51 5477 (lw_Z below #[Value.ref b] s) (F0 m 804 ls [])) (σ τ : sT) (H : Heap) (locs : List Loc) (ls : Array Slot) (hI : I σ τ) (Z : LW X s σ τ H locs) (hl : lv_has ls 4 [(0, .ref b), (1, .ref (X.2.1 0)), (2, .ref (X.2.1 33)), (3, .int x3)]) : W p l e room_1 s m #[Value.ref b] below meth c H locs 51 5477 (lw_Z below #[Value.ref b] s) (F0 m 754 ls []) := by
  have hx := B.1
  have hb := B.2.1
  have hbA : ¬ (fun q : Nat => s.heap.size ≤ q) b := Nat.not_le.mpr hbl
  obtain ⟨r, σ1, τ1, h1, h2, hI1⟩ := o σ τ hI ()
  refine lv_aload_n hx hb dL_law_754 rfl (lv_at hl 1 rfl) ?_
  refine lC_I [] [] B mx_yX11_back rfl (c_fRM_back l X _  σ r σ1 h1) kl_L_100 mi_yX11_back Z hl rfl rfl ⟨Nat.le_of_ble_eq_true rfl, Nat.le_of_ble_eq_true rfl⟩ rfl rfl (Nat.le_of_ble_eq_true rfl) dL_law_755 ⟨Nat.le_of_ble_eq_true rfl, Nat.le_of_ble_eq_true rfl⟩ (fun H locs Z => ?_)
  refine lv_aload_n hx hb dL_law_758 rfl (lv_at hl 2 rfl) ?_
  refine lM_I [] [.int r] B mx_yX12_back rfl (c_fMM_back l X _  τ r τ1 h2) kl_L_103 mi_yX12_back Z hl rfl rfl ⟨Nat.le_of_ble_eq_true rfl, Nat.le_of_ble_eq_true rfl⟩ rfl rfl (Nat.le_of_ble_eq_true rfl) dL_law_759 ⟨Nat.le_of_ble_eq_true rfl, Nat.le_of_ble_eq_true rfl⟩ (fun H locs Z => ?_)
  refine lv_icmp_eq (tgt := 804) hx hb dL_law_762 (by decide) (fun _ => ?_) (fun z => absurd rfl z)
  exact kk σ1 τ1 H locs ls hI1 Z hl
set_option maxHeartbeats 4000000 in
set_option maxRecDepth 100000 in
theorem lw_case21 {p : Program} {l : Launch} {e : Env} {s : State} {m : MethodId} {below : List Frame} {meth : Method} {c : Code} {b L : Nat} {xs : Nat → Int32} {X : eX} {I : sT → sT → Prop} (o : op_told I) (B : Bd p s m #[Value.ref b] meth c R_law code 4 ret) (hX : va_X b L xs s s.heap) (hbl : b < s.heap.size) {x3 : Int32} (v : ∀ k : Int32, 0 ≤ k.toInt → k.toInt ≤ 6 → vp_in (x3 + k) L)
    (kk : ∀ (σ τ : sT) (H : Heap) (locs : List Loc) (ls : Array Slot), I σ τ → LW X s σ τ H locs → lv_has ls 4 [(0, .ref b), (1, .ref (X.2.1 0)), (2, .ref (X.2.1 33)), (3, .int x3)] → W p l e room_1 s m #[Value.ref b] below meth c H locs 51 5477 (lw_Z below #[Value.ref b] s) (F0 m 804 ls [])) (σ τ : sT) (H : Heap) (locs : List Loc) (ls : Array Slot) (hI : I σ τ) (Z : LW X s σ τ H locs) (hl : lv_has ls 4 [(0, .ref b), (1, .ref (X.2.1 0)), (2, .ref (X.2.1 33)), (3, .int x3)]) : W p l e room_1 s m #[Value.ref b] below meth c H locs 51 5477 (lw_Z below #[Value.ref b] s) (F0 m 767 ls []) := by
  have hx := B.1
  have hb := B.2.1
  have hbA : ¬ (fun q : Nat => s.heap.size ≤ q) b := Nat.not_le.mpr hbl
  obtain ⟨r, σ1, τ1, h1, h2, hI1⟩ := o σ τ hI (xs (x3 + (1 : Int32)).toNatClampNeg)
  refine lv_aload_n hx hb dL_law_767 rfl (lv_at hl 1 rfl) ?_
  refine lv_aload_n hx hb dL_law_768 rfl (lv_at hl 0 rfl) ?_
  refine lv_iload_n hx hb dL_law_769 rfl (lv_at hl 3 rfl) ?_
  refine lv_iconst (v := (1 : Int32)) hx hb dL_law_770 (by decide) ?_
  refine lv_iadd hx hb dL_law_771 ?_
  refine va_sld hx hb hX hbl hbA Z.2.2.2.1 (v 1 (by decide) (by decide)) dL_law_772 ?_
  refine lC_I [.int (xs (x3 + (1 : Int32)).toNatClampNeg)] [] B mx_yX11_told rfl (c_fRM_told l X _ (xs (x3 + (1 : Int32)).toNatClampNeg) σ r σ1 h1) kl_L_104 mi_yX11_told Z hl rfl rfl ⟨Nat.le_of_ble_eq_true rfl, Nat.le_of_ble_eq_true rfl⟩ rfl rfl (Nat.le_of_ble_eq_true rfl) dL_law_773 ⟨Nat.le_of_ble_eq_true rfl, Nat.le_of_ble_eq_true rfl⟩ (fun H locs Z => ?_)
  refine lv_aload_n hx hb dL_law_776 rfl (lv_at hl 2 rfl) ?_
  refine lv_aload_n hx hb dL_law_777 rfl (lv_at hl 0 rfl) ?_
  refine lv_iload_n hx hb dL_law_778 rfl (lv_at hl 3 rfl) ?_
  refine lv_iconst (v := (1 : Int32)) hx hb dL_law_779 (by decide) ?_
  refine lv_iadd hx hb dL_law_780 ?_
  refine va_sld hx hb hX hbl hbA Z.2.2.2.1 (v 1 (by decide) (by decide)) dL_law_781 ?_
  refine lM_I [.int (xs (x3 + (1 : Int32)).toNatClampNeg)] [.int r] B mx_yX12_told rfl (c_fMM_told l X _ (xs (x3 + (1 : Int32)).toNatClampNeg) τ r τ1 h2) kl_L_107 mi_yX12_told Z hl rfl rfl ⟨Nat.le_of_ble_eq_true rfl, Nat.le_of_ble_eq_true rfl⟩ rfl rfl (Nat.le_of_ble_eq_true rfl) dL_law_782 ⟨Nat.le_of_ble_eq_true rfl, Nat.le_of_ble_eq_true rfl⟩ (fun H locs Z => ?_)
  refine lv_icmp_eq (tgt := 804) hx hb dL_law_785 (by decide) (fun _ => ?_) (fun z => absurd rfl z)
  exact kk σ1 τ1 H locs ls hI1 Z hl
set_option maxHeartbeats 4000000 in
set_option maxRecDepth 100000 in
theorem lw_case22 {p : Program} {l : Launch} {e : Env} {s : State} {m : MethodId} {below : List Frame} {meth : Method} {c : Code} {b L : Nat} {xs : Nat → Int32} {X : eX} {I : sT → sT → Prop} (o : op_digest I) (B : Bd p s m #[Value.ref b] meth c R_law code 4 ret) (hX : va_X b L xs s s.heap) (hbl : b < s.heap.size) {x3 : Int32} (v : ∀ k : Int32, 0 ≤ k.toInt → k.toInt ≤ 6 → vp_in (x3 + k) L)
    (kk : ∀ (σ τ : sT) (H : Heap) (locs : List Loc) (ls : Array Slot), I σ τ → LW X s σ τ H locs → lv_has ls 4 [(0, .ref b), (1, .ref (X.2.1 0)), (2, .ref (X.2.1 33)), (3, .int x3)] → W p l e room_1 s m #[Value.ref b] below meth c H locs 51 5477 (lw_Z below #[Value.ref b] s) (F0 m 804 ls [])) (σ τ : sT) (H : Heap) (locs : List Loc) (ls : Array Slot) (hI : I σ τ) (Z : LW X s σ τ H locs) (hl : lv_has ls 4 [(0, .ref b), (1, .ref (X.2.1 0)), (2, .ref (X.2.1 33)), (3, .int x3)]) : W p l e room_1 s m #[Value.ref b] below meth c H locs 51 5477 (lw_Z below #[Value.ref b] s) (F0 m 790 ls []) := by
  have hx := B.1
  have hb := B.2.1
  have hbA : ¬ (fun q : Nat => s.heap.size ≤ q) b := Nat.not_le.mpr hbl
  obtain ⟨r, σ1, τ1, h1, h2, hI1⟩ := o σ τ hI ()
  refine lv_aload_n hx hb dL_law_790 rfl (lv_at hl 1 rfl) ?_
  refine lC_L [] [] B mx_yX11_digest rfl (c_fRM_digest l X _  σ r σ1 h1) kl_L_108 mi_yX11_digest Z hl rfl rfl ⟨Nat.le_of_ble_eq_true rfl, Nat.le_of_ble_eq_true rfl⟩ rfl rfl (Nat.le_of_ble_eq_true rfl) dL_law_791 ⟨Nat.le_of_ble_eq_true rfl, Nat.le_of_ble_eq_true rfl⟩ (fun H locs Z => ?_)
  refine lv_aload_n hx hb dL_law_794 rfl (lv_at hl 2 rfl) ?_
  refine lM_L [] [.long r] B mx_yX12_digest rfl (c_fMM_digest l X _  τ r τ1 h2) kl_L_112 mi_yX12_digest Z hl rfl rfl ⟨Nat.le_of_ble_eq_true rfl, Nat.le_of_ble_eq_true rfl⟩ rfl rfl (Nat.le_of_ble_eq_true rfl) dL_law_795 ⟨Nat.le_of_ble_eq_true rfl, Nat.le_of_ble_eq_true rfl⟩ (fun H locs Z => ?_)
  refine W.lcmp hx hb dL_law_798 ?_
  refine lv_if_eq (tgt := 804) hx hb dL_law_799 (by decide) (fun _ => ?_) (fun z => absurd ((lg_cmp_eq r r).mpr rfl) z)
  exact kk σ1 τ1 H locs ls hI1 Z hl
