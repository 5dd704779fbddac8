theorem dX12_times_0 : decode cX12_times 0 = .ok (.aload_n 0, 1) := by decide +kernel
theorem dX12_times_1 : decode cX12_times 1 = .ok (.iload_n 1, 1) := by decide +kernel
theorem dX12_times_2 : decode cX12_times 2 = .ok (.invokevirtual 183, 3) := by decide +kernel
theorem dX12_times_5 : decode cX12_times 5 = .ok (.ifCond .eq 11, 3) := by decide +kernel
theorem dX12_times_8 : decode cX12_times 8 = .ok (.aload_n 0, 1) := by decide +kernel
theorem dX12_times_9 : decode cX12_times 9 = .ok (.iload_n 2, 1) := by decide +kernel
theorem dX12_times_10 : decode cX12_times 10 = .ok (.invokevirtual 180, 3) := by decide +kernel
theorem dX12_times_13 : decode cX12_times 13 = .ok (.ifCond .ne 10, 3) := by decide +kernel
theorem dX12_times_16 : decode cX12_times 16 = .ok (.aload_n 0, 1) := by decide +kernel
theorem dX12_times_17 : decode cX12_times 17 = .ok (.ldc 63, 2) := by decide +kernel
theorem dX12_times_19 : decode cX12_times 19 = .ok (.invokevirtual 168, 3) := by decide +kernel
theorem dX12_times_22 : decode cX12_times 22 = .ok (.ireturn, 1) := by decide +kernel
theorem dX12_times_23 : decode cX12_times 23 = .ok (.aload_n 0, 1) := by decide +kernel
theorem dX12_times_24 : decode cX12_times 24 = .ok (.iload_n 1, 1) := by decide +kernel
theorem dX12_times_25 : decode cX12_times 25 = .ok (.invokevirtual 186, 3) := by decide +kernel
theorem dX12_times_28 : decode cX12_times 28 = .ok (.ifCond .eq 12, 3) := by decide +kernel
theorem dX12_times_31 : decode cX12_times 31 = .ok (.aload_n 0, 1) := by decide +kernel
theorem dX12_times_32 : decode cX12_times 32 = .ok (.ldc 201, 2) := by decide +kernel
theorem dX12_times_34 : decode cX12_times 34 = .ok (.invokevirtual 168, 3) := by decide +kernel
theorem dX12_times_37 : decode cX12_times 37 = .ok (.goto 13, 3) := by decide +kernel
theorem dX12_times_40 : decode cX12_times 40 = .ok (.aload_n 0, 1) := by decide +kernel
theorem dX12_times_41 : decode cX12_times 41 = .ok (.aload_n 0, 1) := by decide +kernel
theorem dX12_times_42 : decode cX12_times 42 = .ok (.iload_n 1, 1) := by decide +kernel
theorem dX12_times_43 : decode cX12_times 43 = .ok (.invokevirtual 245, 3) := by decide +kernel
theorem dX12_times_46 : decode cX12_times 46 = .ok (.iload_n 2, 1) := by decide +kernel
theorem dX12_times_47 : decode cX12_times 47 = .ok (.invokevirtual 267, 3) := by decide +kernel
theorem dX12_times_50 : decode cX12_times 50 = .ok (.ireturn, 1) := by decide +kernel
def rm_fMM_times : Room := { frames := 7, cells := 0, slots := 0, locals := 212 }
set_option maxHeartbeats 4000000 in
set_option maxRecDepth 100000 in
theorem c_fMM_times (l : Launch) (X : eX) (sz : Nat) (a1 : Int32) (a2 : Int32) (σ : sT) (rz : Int32) (σz : sT) (h0 : fMM_times a1 a2 σ = some (rz, σz)) : ctI l yX12_times cX12_times 3 (some .int) rm_fMM_times [.ref (X.2.1 33), .int a1, .int a2] (wM X) (tM X) (aM X) X sz σ rz σz := by
  refine ct_of (by decide +kernel) (Nat.le_of_ble_eq_true rfl) ?_
  intro p e s m args below meth c ls hz B hl Z
  have B : Bd p s m args meth c RX12 cX12_times 3 (some .int) := B
  have hl : lv_has ls 3 [(0, .ref (X.2.1 33)), (1, .int a1), (2, .int a2)] := hl
  have hx := B.1
  have hb := B.2.1
  unfold fMM_times at h0
  refine lv_aload_n hx hb dX12_times_0 rfl (lv_at hl 0 rfl) ?_
  refine lv_iload_n hx hb dX12_times_1 rfl (lv_at hl 1 rfl) ?_
  obtain ⟨r2, hc0, h1⟩ := db1_s h0
  clear h0
  refine cV_I [.int a1] [] B mx_yX12_isSet (c_fMM_isSet l X _ a1 σ r2 hc0) kl_RX12_183 mi_yX12_isSet (rv_33 _ _) hcl_12 Z hl rfl rfl ⟨Nat.le_of_ble_eq_true rfl, Nat.le_of_ble_eq_true rfl⟩ rfl rfl (Nat.le_of_ble_eq_true rfl) dX12_times_2 (fun H locs Z => ?_)
  clear hc0
  obtain ⟨J3, eJ3, h4⟩ := dlt_s h1
  clear h1
  have kJ3 : ∀ (H : Heap) (locs : List Loc) (ls : Array Slot), Wd (wM X) (tM X) (aM X) X s σ H locs → lv_has ls 3 [(0, .ref (X.2.1 33))] → J3 () = some (rz, σz) → W p l e rm_fMM_times s m args below meth c H locs 0 0 (MQ below (va_Qi (fun a u => a = rz ∧ u = σz) (poW (wM X) (tM X) (aM X) X sz) (aA (aM X) sz)) args s 0 0 (aA (aM X) sz)) (F0 m 16 ls []) := by
    intro  H locs ls Z hl h2
    rw [eJ3] at h2
    refine lv_aload_n hx hb dX12_times_16 rfl (lv_at hl 0 rfl) ?_
    refine lv_ldc hx hb B.2.2.2.1 (B.2.2.2.2.1 _ kc_RX12_63) dX12_times_17 ?_
    obtain ⟨r5, σ6, hc3, h3⟩ := db2_s h2
    clear h2
    refine cV_I [.int (-1000002 : Int32)] [] B mx_yX12_refuses (c_fMM_refuses l X _ (-1000002 : Int32) σ r5 σ6 hc3) kl_RX12_168 mi_yX12_refuses (rv_33 _ _) hcl_12 Z hl rfl rfl ⟨Nat.le_of_ble_eq_true rfl, Nat.le_of_ble_eq_true rfl⟩ rfl rfl (Nat.le_of_ble_eq_true rfl) dX12_times_19 (fun H locs Z => ?_)
    clear hc3
    exact reI B Z rfl hz h3 dX12_times_22
  clear eJ3
  refine lv_if_eq (tgt := 16) hx hb dX12_times_5 (by decide) (fun c7 => ?_) (fun c7 => ?_)
  · have h5 := dit h4 c7
    clear h4
    exact kJ3  _ _ _ Z (lv_sub hl [0] rfl) h5
  · have h6 := dif h4 c7
    clear h4
    refine lv_aload_n hx hb dX12_times_8 rfl (lv_at hl 0 rfl) ?_
    refine lv_iload_n hx hb dX12_times_9 rfl (lv_at hl 2 rfl) ?_
    obtain ⟨r9, hc7, h7⟩ := db1_s h6
    clear h6
    refine cV_I [.int a2] [] B mx_yX12_isRow (c_fMM_isRow l X _ a2 σ r9 hc7) kl_RX12_180 mi_yX12_isRow (rv_33 _ _) hcl_12 Z hl rfl rfl ⟨Nat.le_of_ble_eq_true rfl, Nat.le_of_ble_eq_true rfl⟩ rfl rfl (Nat.le_of_ble_eq_true rfl) dX12_times_10 (fun H locs Z => ?_)
    clear hc7
    refine lv_if_ne (tgt := 23) hx hb dX12_times_13 (by decide) (fun c10 => ?_) (fun c10 => ?_)
    · have h8 := dif h7 c10
      clear h7
      refine lv_aload_n hx hb dX12_times_23 rfl (lv_at hl 0 rfl) ?_
      refine lv_iload_n hx hb dX12_times_24 rfl (lv_at hl 1 rfl) ?_
      obtain ⟨r12, σ13, hc10, h9⟩ := db2_s h8
      clear h8
      refine cV_I [.int a1] [] B mx_yX12_canSet (c_fMM_canSet l X _ a1 σ r12 σ13 hc10) kl_RX12_186 mi_yX12_canSet (rv_33 _ _) hcl_12 Z hl rfl rfl ⟨Nat.le_of_ble_eq_true rfl, Nat.le_of_ble_eq_true rfl⟩ rfl rfl (Nat.le_of_ble_eq_true rfl) dX12_times_25 (fun H locs Z => ?_)
      clear hc10
      refine lv_if_eq (tgt := 40) hx hb dX12_times_28 (by decide) (fun c14 => ?_) (fun c14 => ?_)
      · have h10 := dit h9 c14
        clear h9
        refine lv_aload_n hx hb dX12_times_40 rfl (lv_at hl 0 rfl) ?_
        refine lv_aload_n hx hb dX12_times_41 rfl (lv_at hl 0 rfl) ?_
        refine lv_iload_n hx hb dX12_times_42 rfl (lv_at hl 1 rfl) ?_
        obtain ⟨r16, σ17, hc14, h11⟩ := db2_s h10
        clear h10
        refine cV_I [.int a1] [.ref (X.2.1 33)] B mx_yX12_coreOf (c_fMM_coreOf l X _ a1 σ13 r16 σ17 hc14) kl_RX12_245 mi_yX12_coreOf (rv_33 _ _) hcl_12 Z hl rfl rfl ⟨Nat.le_of_ble_eq_true rfl, Nat.le_of_ble_eq_true rfl⟩ rfl rfl (Nat.le_of_ble_eq_true rfl) dX12_times_43 (fun H locs Z => ?_)
        clear hc14
        refine lv_iload_n hx hb dX12_times_46 rfl (lv_at hl 2 rfl) ?_
        obtain ⟨r19, σ20, hc17, h12⟩ := db2_s h11
        clear h11
        refine cV_I [.int r16, .int a2] [] B mx_yX12_timesOf (c_fMM_timesOf l X _ r16 a2 σ17 r19 σ20 hc17) kl_RX12_267 mi_yX12_timesOf (rv_33 _ _) hcl_12 Z hl rfl rfl ⟨Nat.le_of_ble_eq_true rfl, Nat.le_of_ble_eq_true rfl⟩ rfl rfl (Nat.le_of_ble_eq_true rfl) dX12_times_47 (fun H locs Z => ?_)
        clear hc17
        exact reI B Z rfl hz h12 dX12_times_50
      · have h13 := dif h9 c14
        clear h9
        refine lv_aload_n hx hb dX12_times_31 rfl (lv_at hl 0 rfl) ?_
        refine lv_ldc hx hb B.2.2.2.1 (B.2.2.2.2.1 _ kc_RX12_201) dX12_times_32 ?_
        obtain ⟨r22, σ23, hc20, h14⟩ := db2_s h13
        clear h13
        refine cV_I [.int (-1000003 : Int32)] [] B mx_yX12_refuses (c_fMM_refuses l X _ (-1000003 : Int32) σ13 r22 σ23 hc20) kl_RX12_168 mi_yX12_refuses (rv_33 _ _) hcl_12 Z hl rfl rfl ⟨Nat.le_of_ble_eq_true rfl, Nat.le_of_ble_eq_true rfl⟩ rfl rfl (Nat.le_of_ble_eq_true rfl) dX12_times_34 (fun H locs Z => ?_)
        clear hc20
        refine lv_goto (tgt := 50) hx hb dX12_times_37 (by decide) ?_
        exact reI B Z rfl hz h14 dX12_times_50
    · have h15 := dit h7 c10
      clear h7
      exact kJ3  _ _ _ Z (lv_sub hl [0] rfl) h15
theorem dX12_ones_0 : decode cX12_ones 0 = .ok (.iconst 0, 1) := by decide +kernel
theorem dX12_ones_1 : decode cX12_ones 1 = .ok (.istore_n 1, 1) := by decide +kernel
theorem dX12_ones_2 : decode cX12_ones 2 = .ok (.iload_n 0, 1) := by decide +kernel
theorem dX12_ones_3 : decode cX12_ones 3 = .ok (.istore_n 2, 1) := by decide +kernel
theorem dX12_ones_4 : decode cX12_ones 4 = .ok (.iload_n 2, 1) := by decide +kernel
theorem dX12_ones_5 : decode cX12_ones 5 = .ok (.ifCond .eq 15, 3) := by decide +kernel
theorem dX12_ones_8 : decode cX12_ones 8 = .ok (.iinc 1 1, 3) := by decide +kernel
theorem dX12_ones_11 : decode cX12_ones 11 = .ok (.iload_n 2, 1) := by decide +kernel
theorem dX12_ones_12 : decode cX12_ones 12 = .ok (.iload_n 2, 1) := by decide +kernel
theorem dX12_ones_13 : decode cX12_ones 13 = .ok (.iconst 1, 1) := by decide +kernel
theorem dX12_ones_14 : decode cX12_ones 14 = .ok (.isub, 1) := by decide +kernel
theorem dX12_ones_15 : decode cX12_ones 15 = .ok (.iand, 1) := by decide +kernel
theorem dX12_ones_16 : decode cX12_ones 16 = .ok (.istore_n 2, 1) := by decide +kernel
theorem dX12_ones_17 : decode cX12_ones 17 = .ok (.goto (-13), 3) := by decide +kernel
theorem dX12_ones_20 : decode cX12_ones 20 = .ok (.iload_n 1, 1) := by decide +kernel
theorem dX12_ones_21 : decode cX12_ones 21 = .ok (.ireturn, 1) := by decide +kernel
def rm_fMM_ones : Room := { frames := 1, cells := 0, slots := 0, locals := 60 }
set_option maxHeartbeats 4000000 in
set_option maxRecDepth 100000 in
theorem c_fMM_ones (l : Launch) (X : eX) (sz : Nat) (a1 : Int32) (σ : sT) (rz : Int32) (h0 : fMM_ones a1 = some rz) : ctI l yX12_ones cX12_ones 3 (some .int) rm_fMM_ones [.int a1] (wM X) (tM X) (aM X) X sz σ rz σ := by
  refine ct_of (by decide +kernel) (Nat.le_of_ble_eq_true rfl) ?_
  intro p e s m args below meth c ls hz B hl Z
  have B : Bd p s m args meth c RX12 cX12_ones 3 (some .int) := B
  have hl : lv_has ls 3 [(0, .int a1)] := hl
  have hx := B.1
  have hb := B.2.1
  unfold fMM_ones at h0
  refine lv_iconst (v := (0 : Int32)) hx hb dX12_ones_0 (by decide) ?_
  refine lv_istore_n (lv' := [(1, .int (0 : Int32)), (0, .int a1)]) hx hb dX12_ones_1 rfl hl (by decide) rfl (fun ls hl => ?_)
  refine lv_iload_n hx hb dX12_ones_2 rfl (lv_at hl 1 rfl) ?_
  refine lv_istore_n (lv' := [(2, .int a1), (1, .int (0 : Int32)), (0, .int a1)]) hx hb dX12_ones_3 rfl hl (by decide) rfl (fun ls hl => ?_)
  have lL4 : ∀ (n : Nat), ∀ (x1 : Int32) (x2 : Int32) (H : Heap) (locs : List Loc) (ls : Array Slot), Wd (wM X) (tM X) (aM X) X s σ H locs → lv_has ls 3 [(1, .int x1), (2, .int x2)] → fMM_ones_L4 n x1 x2 = some rz → W p l e rm_fMM_ones s m args below meth c H locs 0 0 (MQ below (va_Qi (fun a u => a = rz ∧ u = σ) (poW (wM X) (tM X) (aM X) X sz) (aA (aM X) sz)) args s 0 0 (aA (aM X) sz)) (F0 m 4 ls []) := by
    intro n
    induction n with
    | zero =>
      intro x1 x2 H locs ls Z hl h
      exact nomatch (show (none : Option (Int32)) = some _ from h)
    | succ n3 ih4 =>
      intro x1 x2 H locs ls Z hl h1
      unfold fMM_ones_L4 at h1
      refine lv_iload_n hx hb dX12_ones_4 rfl (lv_at hl 1 rfl) ?_
      refine lv_if_eq (tgt := 20) hx hb dX12_ones_5 (by decide) (fun c4 => ?_) (fun c4 => ?_)
      · have h2 := dit h1 c4
        clear h1
        refine lv_iload_n hx hb dX12_ones_20 rfl (lv_at hl 0 rfl) ?_
        exact reI B Z rfl hz (congrArg (Option.map (fun q => (q, σ))) h2) dX12_ones_21
      · have h3 := dif h1 c4
        clear h1
        refine lv_iinc (v := x1 + (1 : Int32)) (lv' := [(1, .int (x1 + (1 : Int32))), (2, .int x2)]) hx hb dX12_ones_8 hl (k := 0) rfl (by rfl) (by decide) rfl (fun ls hl => ?_)
        refine lv_iload_n hx hb dX12_ones_11 rfl (lv_at hl 1 rfl) ?_
        refine lv_iload_n hx hb dX12_ones_12 rfl (lv_at hl 1 rfl) ?_
        refine lv_iconst (v := (1 : Int32)) hx hb dX12_ones_13 (by decide) ?_
        refine lv_isub hx hb dX12_ones_14 ?_
        refine lv_iand hx hb dX12_ones_15 ?_
        refine lv_topi (fun x5 ex5 => ?_)
        have h4 := dlt_e ex5 h3
        clear ex5 h3
        refine lv_istore_n (lv' := [(2, .int x5), (1, .int (x1 + (1 : Int32)))]) hx hb dX12_ones_16 rfl hl (by decide) rfl (fun ls hl => ?_)
        refine lv_goto (tgt := 4) hx hb dX12_ones_17 (by decide) ?_
        exact ih4 (x1 + (1 : Int32)) x5 _ _ _ Z (lv_sub hl [1, 0] rfl) h4
  exact lL4 FU (0 : Int32) a1 _ _ _ Z (lv_sub hl [1, 0] rfl) h0
theorem dX12_laysSides_0 : decode cX12_laysSides 0 = .ok (.aload_n 0, 1) := by decide +kernel
theorem dX12_laysSides_1 : decode cX12_laysSides 1 = .ok (.iconst 0, 1) := by decide +kernel
theorem dX12_laysSides_2 : decode cX12_laysSides 2 = .ok (.putfield 275, 3) := by decide +kernel
theorem dX12_laysSides_5 : decode cX12_laysSides 5 = .ok (.iconst 0, 1) := by decide +kernel
theorem dX12_laysSides_6 : decode cX12_laysSides 6 = .ok (.istore_n 2, 1) := by decide +kernel
theorem dX12_laysSides_7 : decode cX12_laysSides 7 = .ok (.iload_n 2, 1) := by decide +kernel
theorem dX12_laysSides_8 : decode cX12_laysSides 8 = .ok (.aload_n 0, 1) := by decide +kernel
theorem dX12_laysSides_9 : decode cX12_laysSides 9 = .ok (.getfield 7, 3) := by decide +kernel
theorem dX12_laysSides_12 : decode cX12_laysSides 12 = .ok (.iconst 0, 1) := by decide +kernel
theorem dX12_laysSides_13 : decode cX12_laysSides 13 = .ok (.iaload, 1) := by decide +kernel
theorem dX12_laysSides_14 : decode cX12_laysSides 14 = .ok (.if_icmp .ge 37, 3) := by decide +kernel
theorem dX12_laysSides_17 : decode cX12_laysSides 17 = .ok (.iload_n 1, 1) := by decide +kernel
theorem dX12_laysSides_18 : decode cX12_laysSides 18 = .ok (.iload_n 2, 1) := by decide +kernel
theorem dX12_laysSides_19 : decode cX12_laysSides 19 = .ok (.invokestatic 95, 3) := by decide +kernel
theorem dX12_laysSides_22 : decode cX12_laysSides 22 = .ok (.ifCond .eq 23, 3) := by decide +kernel
theorem dX12_laysSides_25 : decode cX12_laysSides 25 = .ok (.aload_n 0, 1) := by decide +kernel
theorem dX12_laysSides_26 : decode cX12_laysSides 26 = .ok (.getfield 38, 3) := by decide +kernel
theorem dX12_laysSides_29 : decode cX12_laysSides 29 = .ok (.aload_n 0, 1) := by decide +kernel
theorem dX12_laysSides_30 : decode cX12_laysSides 30 = .ok (.getfield 275, 3) := by decide +kernel
theorem dX12_laysSides_33 : decode cX12_laysSides 33 = .ok (.iload_n 2, 1) := by decide +kernel
theorem dX12_laysSides_34 : decode cX12_laysSides 34 = .ok (.iastore, 1) := by decide +kernel
theorem dX12_laysSides_35 : decode cX12_laysSides 35 = .ok (.aload_n 0, 1) := by decide +kernel
theorem dX12_laysSides_36 : decode cX12_laysSides 36 = .ok (.dup, 1) := by decide +kernel
theorem dX12_laysSides_37 : decode cX12_laysSides 37 = .ok (.getfield 275, 3) := by decide +kernel
theorem dX12_laysSides_40 : decode cX12_laysSides 40 = .ok (.iconst 1, 1) := by decide +kernel
theorem dX12_laysSides_41 : decode cX12_laysSides 41 = .ok (.iadd, 1) := by decide +kernel
theorem dX12_laysSides_42 : decode cX12_laysSides 42 = .ok (.putfield 275, 3) := by decide +kernel
theorem dX12_laysSides_45 : decode cX12_laysSides 45 = .ok (.iinc 2 1, 3) := by decide +kernel
theorem dX12_laysSides_48 : decode cX12_laysSides 48 = .ok (.goto (-41), 3) := by decide +kernel
theorem dX12_laysSides_51 : decode cX12_laysSides 51 = .ok (.return_, 1) := by decide +kernel
def rm_fMM_laysSides : Room := { frames := 2, cells := 0, slots := 0, locals := 81 }
set_option maxHeartbeats 4000000 in
set_option maxRecDepth 100000 in
theorem c_fMM_laysSides (l : Launch) (X : eX) (sz : Nat) (a1 : Int32) (σ : sT) (σz : sT) (h0 : fMM_laysSides a1 σ = some σz) : ctV l yX12_laysSides cX12_laysSides 3 none rm_fMM_laysSides [.ref (X.2.1 33), .int a1] (wM X) (tM X) (aM X) X sz σ σz := by
  refine ct_of (by decide +kernel) (Nat.le_of_ble_eq_true rfl) ?_
  intro p e s m args below meth c ls hz B hl Z
  have B : Bd p s m args meth c RX12 cX12_laysSides 3 none := B
  have hl : lv_has ls 3 [(0, .ref (X.2.1 33)), (1, .int a1)] := hl
  have hx := B.1
  have hb := B.2.1
  unfold fMM_laysSides at h0
  refine lv_aload_n hx hb dX12_laysSides_0 rfl (lv_at hl 0 rfl) ?_
  refine lv_iconst (v := (0 : Int32)) hx hb dX12_laysSides_1 (by decide) ?_
  refine s_33_23 B Z kf_RX12_275 dX12_laysSides_2 (fun H locs Z => ?_)
  obtain ⟨σ1, eσ1, h1⟩ := dlt_s h0
  clear h0
  replace Z := Wd.eq eσ1 Z
  clear eσ1
  refine lv_iconst (v := (0 : Int32)) hx hb dX12_laysSides_5 (by decide) ?_
  refine lv_istore_n (lv' := [(2, .int (0 : Int32)), (0, .ref (X.2.1 33)), (1, .int a1)]) hx hb dX12_laysSides_6 rfl hl (by decide) rfl (fun ls hl => ?_)
  have lL7 : ∀ (n : Nat), ∀ (x2 : Int32) (σ3 : sT) (H : Heap) (locs : List Loc) (ls : Array Slot), Wd (wM X) (tM X) (aM X) X s σ3 H locs → lv_has ls 3 [(0, .ref (X.2.1 33)), (1, .int a1), (2, .int x2)] → fMM_laysSides_L7 a1 n x2 σ3 = some σz → W p l e rm_fMM_laysSides s m args below meth c H locs 0 0 (MQ below (va_Qv (fun u => u = σz) (poW (wM X) (tM X) (aM X) X sz) (aA (aM X) sz)) args s 0 0 (aA (aM X) sz)) (F0 m 7 ls []) := by
    intro n
    induction n with
    | zero =>
      intro x2 σ3 H locs ls Z hl h
      exact nomatch (show (none : Option (sT)) = some _ from h)
    | succ n4 ih5 =>
      intro x2 σ3 H locs ls Z hl h2
      unfold fMM_laysSides_L7 at h2
      refine lv_iload_n hx hb dX12_laysSides_7 rfl (lv_at hl 2 rfl) ?_
      refine lv_aload_n hx hb dX12_laysSides_8 rfl (lv_at hl 0 rfl) ?_
      refine g_33_0 B Z kf_RX12_7 dX12_laysSides_9 ?_
      refine lv_iconst (v := (0 : Int32)) hx hb dX12_laysSides_12 (by decide) ?_
      obtain ⟨z5, h3⟩ := dck_s h2
      clear h2
      refine ld_34 B Z z5 dX12_laysSides_13 ?_
      refine lv_icmp_ge (tgt := 51) hx hb dX12_laysSides_14 (by decide) (fun c6 => ?_) (fun c6 => ?_)
      · have h4 := dit h3 c6
        clear h3
        exact reV B Z hz h4 dX12_laysSides_51
      · have h5 := dif h3 c6
        clear h3
        refine lv_iload_n hx hb dX12_laysSides_17 rfl (lv_at hl 1 rfl) ?_
        refine lv_iload_n hx hb dX12_laysSides_18 rfl (lv_at hl 2 rfl) ?_
        obtain ⟨r8, hc6, h6⟩ := db1_s h5
        clear h5
        refine cS_I [.int a1, .int x2] [] B mx_yX12_has (c_fMM_has l X _ a1 x2 σ3 r8 hc6) kl_RX12_95 ks_yX12_has Z hl rfl rfl ⟨Nat.le_of_ble_eq_true rfl, Nat.le_of_ble_eq_true rfl⟩ rfl rfl (Nat.le_of_ble_eq_true rfl) dX12_laysSides_19 (fun H locs Z => ?_)
        clear hc6
        refine lv_if_eq (tgt := 45) hx hb dX12_laysSides_22 (by decide) (fun c9 => ?_) (fun c9 => ?_)
        · have h7 := dit h6 c9
          clear h6
          refine lv_iinc (v := x2 + (1 : Int32)) (lv' := [(2, .int (x2 + (1 : Int32))), (0, .ref (X.2.1 33)), (1, .int a1)]) hx hb dX12_laysSides_45 hl (k := 2) rfl (by rfl) (by decide) rfl (fun ls hl => ?_)
          refine lv_goto (tgt := 7) hx hb dX12_laysSides_48 (by decide) ?_
          exact ih5 (x2 + (1 : Int32)) σ3 _ _ _ Z (lv_sub hl [1, 2, 0] rfl) h7
        · have h8 := dif h6 c9
          clear h6
          refine lv_aload_n hx hb dX12_laysSides_25 rfl (lv_at hl 0 rfl) ?_
          refine g_33_22 B Z kf_RX12_38 dX12_laysSides_26 ?_
          refine lv_aload_n hx hb dX12_laysSides_29 rfl (lv_at hl 0 rfl) ?_
          refine g_33_23 B Z kf_RX12_275 dX12_laysSides_30 ?_
          refine lv_iload_n hx hb dX12_laysSides_33 rfl (lv_at hl 2 rfl) ?_
          obtain ⟨z10, h9⟩ := dck_s h8
          clear h8
          refine st_43 B Z z10 dX12_laysSides_34 (fun H locs Z => ?_)
          obtain ⟨σ11, eσ11, h10⟩ := dlt_s h9
          clear h9
          replace Z := Wd.eq eσ11 Z
          clear eσ11
          refine lv_aload_n hx hb dX12_laysSides_35 rfl (lv_at hl 0 rfl) ?_
          refine lv_dup hx hb dX12_laysSides_36 rfl ?_
          refine g_33_23 B Z kf_RX12_275 dX12_laysSides_37 ?_
          refine lv_iconst (v := (1 : Int32)) hx hb dX12_laysSides_40 (by decide) ?_
          refine lv_iadd hx hb dX12_laysSides_41 ?_
          refine s_33_23 B Z kf_RX12_275 dX12_laysSides_42 (fun H locs Z => ?_)
          obtain ⟨σ12, eσ12, h11⟩ := dlt_s h10
          clear h10
          replace Z := Wd.eq eσ12 Z
          clear eσ12
          refine lv_iinc (v := x2 + (1 : Int32)) (lv' := [(2, .int (x2 + (1 : Int32))), (0, .ref (X.2.1 33)), (1, .int a1)]) hx hb dX12_laysSides_45 hl (k := 2) rfl (by rfl) (by decide) rfl (fun ls hl => ?_)
          refine lv_goto (tgt := 7) hx hb dX12_laysSides_48 (by decide) ?_
          exact ih5 (x2 + (1 : Int32)) σ12 _ _ _ Z (lv_sub hl [1, 2, 0] rfl) h11
  exact lL7 FU (0 : Int32) σ1 _ _ _ Z (lv_sub hl [1, 2, 0] rfl) h1
theorem dX12_many_0 : decode cX12_many 0 = .ok (.iconst 1, 1) := by decide +kernel
theorem dX12_many_1 : decode cX12_many 1 = .ok (.istore_n 1, 1) := by decide +kernel
theorem dX12_many_2 : decode cX12_many 2 = .ok (.iconst 0, 1) := by decide +kernel
theorem dX12_many_3 : decode cX12_many 3 = .ok (.istore_n 2, 1) := by decide +kernel
theorem dX12_many_4 : decode cX12_many 4 = .ok (.iload_n 2, 1) := by decide +kernel
theorem dX12_many_5 : decode cX12_many 5 = .ok (.aload_n 0, 1) := by decide +kernel
theorem dX12_many_6 : decode cX12_many 6 = .ok (.getfield 275, 3) := by decide +kernel
theorem dX12_many_9 : decode cX12_many 9 = .ok (.if_icmp .ge 13, 3) := by decide +kernel
theorem dX12_many_12 : decode cX12_many 12 = .ok (.iload_n 1, 1) := by decide +kernel
theorem dX12_many_13 : decode cX12_many 13 = .ok (.iconst 3, 1) := by decide +kernel
theorem dX12_many_14 : decode cX12_many 14 = .ok (.imul, 1) := by decide +kernel
theorem dX12_many_15 : decode cX12_many 15 = .ok (.istore_n 1, 1) := by decide +kernel
theorem dX12_many_16 : decode cX12_many 16 = .ok (.iinc 2 1, 3) := by decide +kernel
theorem dX12_many_19 : decode cX12_many 19 = .ok (.goto (-15), 3) := by decide +kernel
theorem dX12_many_22 : decode cX12_many 22 = .ok (.iload_n 1, 1) := by decide +kernel
theorem dX12_many_23 : decode cX12_many 23 = .ok (.ireturn, 1) := by decide +kernel
def rm_fMM_many : Room := { frames := 1, cells := 0, slots := 0, locals := 60 }
set_option maxHeartbeats 4000000 in
set_option maxRecDepth 100000 in
theorem c_fMM_many (l : Launch) (X : eX) (sz : Nat)  (σ : sT) (rz : Int32) (h0 : fMM_many σ = some rz) : ctI l yX12_many cX12_many 3 (some .int) rm_fMM_many [.ref (X.2.1 33)] (wM X) (tM X) (aM X) X sz σ rz σ := by
  refine ct_of (by decide +kernel) (Nat.le_of_ble_eq_true rfl) ?_
  intro p e s m args below meth c ls hz B hl Z
  have B : Bd p s m args meth c RX12 cX12_many 3 (some .int) := B
  have hl : lv_has ls 3 [(0, .ref (X.2.1 33))] := hl
  have hx := B.1
  have hb := B.2.1
  unfold fMM_many at h0
  refine lv_iconst (v := (1 : Int32)) hx hb dX12_many_0 (by decide) ?_
  refine lv_istore_n (lv' := [(1, .int (1 : Int32)), (0, .ref (X.2.1 33))]) hx hb dX12_many_1 rfl hl (by decide) rfl (fun ls hl => ?_)
  refine lv_iconst (v := (0 : Int32)) hx hb dX12_many_2 (by decide) ?_
  refine lv_istore_n (lv' := [(2, .int (0 : Int32)), (1, .int (1 : Int32)), (0, .ref (X.2.1 33))]) hx hb dX12_many_3 rfl hl (by decide) rfl (fun ls hl => ?_)
  have lL4 : ∀ (n : Nat), ∀ (x1 : Int32) (x2 : Int32) (H : Heap) (locs : List Loc) (ls : Array Slot), Wd (wM X) (tM X) (aM X) X s σ H locs → lv_has ls 3 [(0, .ref (X.2.1 33)), (1, .int x1), (2, .int x2)] → fMM_many_L4 σ n x1 x2 = some rz → W p l e rm_fMM_many s m args below meth c H locs 0 0 (MQ below (va_Qi (fun a u => a = rz ∧ u = σ) (poW (wM X) (tM X) (aM X) X sz) (aA (aM X) sz)) args s 0 0 (aA (aM X) sz)) (F0 m 4 ls []) := by
    intro n
    induction n with
    | zero =>
      intro x1 x2 H locs ls Z hl h
      exact nomatch (show (none : Option (Int32)) = some _ from h)
    | succ n3 ih4 =>
      intro x1 x2 H locs ls Z hl h1
      unfold fMM_many_L4 at h1
      refine lv_iload_n hx hb dX12_many_4 rfl (lv_at hl 2 rfl) ?_
      refine lv_aload_n hx hb dX12_many_5 rfl (lv_at hl 0 rfl) ?_
      refine g_33_23 B Z kf_RX12_275 dX12_many_6 ?_
      refine lv_icmp_ge (tgt := 22) hx hb dX12_many_9 (by decide) (fun c4 => ?_) (fun c4 => ?_)
      · have h2 := dit h1 c4
        clear h1
        refine lv_iload_n hx hb dX12_many_22 rfl (lv_at hl 1 rfl) ?_
        exact reI B Z rfl hz (congrArg (Option.map (fun q => (q, σ))) h2) dX12_many_23
      · have h3 := dif h1 c4
        clear h1
        refine lv_iload_n hx hb dX12_many_12 rfl (lv_at hl 1 rfl) ?_
        refine lv_iconst (v := (3 : Int32)) hx hb dX12_many_13 (by decide) ?_
        refine lv_imul hx hb dX12_many_14 ?_
        refine lv_topi (fun x5 ex5 => ?_)
        have h4 := dlt_e ex5 h3
        clear ex5 h3
        refine lv_istore_n (lv' := [(1, .int x5), (0, .ref (X.2.1 33)), (2, .int x2)]) hx hb dX12_many_15 rfl hl (by decide) rfl (fun ls hl => ?_)
        refine lv_iinc (v := x2 + (1 : Int32)) (lv' := [(2, .int (x2 + (1 : Int32))), (1, .int x5), (0, .ref (X.2.1 33))]) hx hb dX12_many_16 hl (k := 2) rfl (by rfl) (by decide) rfl (fun ls hl => ?_)
        refine lv_goto (tgt := 4) hx hb dX12_many_19 (by decide) ?_
        exact ih4 x5 (x2 + (1 : Int32)) _ _ _ Z (lv_sub hl [2, 1, 0] rfl) h4
  exact lL4 FU (1 : Int32) (0 : Int32) _ _ _ Z (lv_sub hl [2, 1, 0] rfl) h0
theorem dX12_canSides_0 : decode cX12_canSides 0 = .ok (.iload_n 1, 1) := by decide +kernel
theorem dX12_canSides_1 : decode cX12_canSides 1 = .ok (.istore_n 2, 1) := by decide +kernel
theorem dX12_canSides_2 : decode cX12_canSides 2 = .ok (.aload_n 0, 1) := by decide +kernel
theorem dX12_canSides_3 : decode cX12_canSides 3 = .ok (.iconst 0, 1) := by decide +kernel
theorem dX12_canSides_4 : decode cX12_canSides 4 = .ok (.putfield 80, 3) := by decide +kernel
theorem dX12_canSides_7 : decode cX12_canSides 7 = .ok (.iconst 0, 1) := by decide +kernel
theorem dX12_canSides_8 : decode cX12_canSides 8 = .ok (.istore_n 3, 1) := by decide +kernel
theorem dX12_canSides_9 : decode cX12_canSides 9 = .ok (.iload_n 3, 1) := by decide +kernel
theorem dX12_canSides_10 : decode cX12_canSides 10 = .ok (.aload_n 0, 1) := by decide +kernel
theorem dX12_canSides_11 : decode cX12_canSides 11 = .ok (.getfield 275, 3) := by decide +kernel
theorem dX12_canSides_14 : decode cX12_canSides 14 = .ok (.if_icmp .ge 106, 3) := by decide +kernel
theorem dX12_canSides_17 : decode cX12_canSides 17 = .ok (.aload_n 0, 1) := by decide +kernel
theorem dX12_canSides_18 : decode cX12_canSides 18 = .ok (.getfield 38, 3) := by decide +kernel
theorem dX12_canSides_21 : decode cX12_canSides 21 = .ok (.iload_n 3, 1) := by decide +kernel
theorem dX12_canSides_22 : decode cX12_canSides 22 = .ok (.iaload, 1) := by decide +kernel
theorem dX12_canSides_23 : decode cX12_canSides 23 = .ok (.istore 4, 2) := by decide +kernel
theorem dX12_canSides_25 : decode cX12_canSides 25 = .ok (.aload_n 0, 1) := by decide +kernel
theorem dX12_canSides_26 : decode cX12_canSides 26 = .ok (.getfield 41, 3) := by decide +kernel
theorem dX12_canSides_29 : decode cX12_canSides 29 = .ok (.iload_n 3, 1) := by decide +kernel
theorem dX12_canSides_30 : decode cX12_canSides 30 = .ok (.iload_n 2, 1) := by decide +kernel
theorem dX12_canSides_31 : decode cX12_canSides 31 = .ok (.iconst 3, 1) := by decide +kernel
theorem dX12_canSides_32 : decode cX12_canSides 32 = .ok (.irem, 1) := by decide +kernel
theorem dX12_canSides_33 : decode cX12_canSides 33 = .ok (.iconst 1, 1) := by decide +kernel
theorem dX12_canSides_34 : decode cX12_canSides 34 = .ok (.isub, 1) := by decide +kernel
theorem dX12_canSides_35 : decode cX12_canSides 35 = .ok (.iastore, 1) := by decide +kernel
theorem dX12_canSides_36 : decode cX12_canSides 36 = .ok (.iload_n 2, 1) := by decide +kernel
theorem dX12_canSides_37 : decode cX12_canSides 37 = .ok (.iconst 3, 1) := by decide +kernel
theorem dX12_canSides_38 : decode cX12_canSides 38 = .ok (.idiv, 1) := by decide +kernel
theorem dX12_canSides_39 : decode cX12_canSides 39 = .ok (.istore_n 2, 1) := by decide +kernel
theorem dX12_canSides_40 : decode cX12_canSides 40 = .ok (.aload_n 0, 1) := by decide +kernel
theorem dX12_canSides_41 : decode cX12_canSides 41 = .ok (.getfield 41, 3) := by decide +kernel
theorem dX12_canSides_44 : decode cX12_canSides 44 = .ok (.iload_n 3, 1) := by decide +kernel
theorem dX12_canSides_45 : decode cX12_canSides 45 = .ok (.iaload, 1) := by decide +kernel
theorem dX12_canSides_46 : decode cX12_canSides 46 = .ok (.iconst 1, 1) := by decide +kernel
theorem dX12_canSides_47 : decode cX12_canSides 47 = .ok (.if_icmp .ne 47, 3) := by decide +kernel
theorem dX12_canSides_50 : decode cX12_canSides 50 = .ok (.aload_n 0, 1) := by decide +kernel
theorem dX12_canSides_51 : decode cX12_canSides 51 = .ok (.aload_n 0, 1) := by decide +kernel
theorem dX12_canSides_52 : decode cX12_canSides 52 = .ok (.iload 4, 2) := by decide +kernel
theorem dX12_canSides_54 : decode cX12_canSides 54 = .ok (.iconst 0, 1) := by decide +kernel
theorem dX12_canSides_55 : decode cX12_canSides 55 = .ok (.invokevirtual 87, 3) := by decide +kernel
theorem dX12_canSides_58 : decode cX12_canSides 58 = .ok (.ineg, 1) := by decide +kernel
theorem dX12_canSides_59 : decode cX12_canSides 59 = .ok (.i2l, 1) := by decide +kernel
theorem dX12_canSides_60 : decode cX12_canSides 60 = .ok (.aload_n 0, 1) := by decide +kernel
theorem dX12_canSides_61 : decode cX12_canSides 61 = .ok (.iload 4, 2) := by decide +kernel
theorem dX12_canSides_63 : decode cX12_canSides 63 = .ok (.iconst 1, 1) := by decide +kernel
theorem dX12_canSides_64 : decode cX12_canSides 64 = .ok (.invokevirtual 87, 3) := by decide +kernel
theorem dX12_canSides_67 : decode cX12_canSides 67 = .ok (.ineg, 1) := by decide +kernel
theorem dX12_canSides_68 : decode cX12_canSides 68 = .ok (.i2l, 1) := by decide +kernel
theorem dX12_canSides_69 : decode cX12_canSides 69 = .ok (.aload_n 0, 1) := by decide +kernel
theorem dX12_canSides_70 : decode cX12_canSides 70 = .ok (.iload 4, 2) := by decide +kernel
theorem dX12_canSides_72 : decode cX12_canSides 72 = .ok (.iconst 2, 1) := by decide +kernel
theorem dX12_canSides_73 : decode cX12_canSides 73 = .ok (.invokevirtual 87, 3) := by decide +kernel
theorem dX12_canSides_76 : decode cX12_canSides 76 = .ok (.ineg, 1) := by decide +kernel
theorem dX12_canSides_77 : decode cX12_canSides 77 = .ok (.i2l, 1) := by decide +kernel
theorem dX12_canSides_78 : decode cX12_canSides 78 = .ok (.aload_n 0, 1) := by decide +kernel
theorem dX12_canSides_79 : decode cX12_canSides 79 = .ok (.iload 4, 2) := by decide +kernel
theorem dX12_canSides_81 : decode cX12_canSides 81 = .ok (.iconst 4, 1) := by decide +kernel
theorem dX12_canSides_82 : decode cX12_canSides 82 = .ok (.invokevirtual 87, 3) := by decide +kernel
theorem dX12_canSides_85 : decode cX12_canSides 85 = .ok (.ineg, 1) := by decide +kernel
theorem dX12_canSides_86 : decode cX12_canSides 86 = .ok (.i2l, 1) := by decide +kernel
theorem dX12_canSides_87 : decode cX12_canSides 87 = .ok (.iconst 1, 1) := by decide +kernel
theorem dX12_canSides_88 : decode cX12_canSides 88 = .ok (.invokevirtual 83, 3) := by decide +kernel
theorem dX12_canSides_91 : decode cX12_canSides 91 = .ok (.goto 23, 3) := by decide +kernel
theorem dX12_canSides_94 : decode cX12_canSides 94 = .ok (.aload_n 0, 1) := by decide +kernel
theorem dX12_canSides_95 : decode cX12_canSides 95 = .ok (.iload 4, 2) := by decide +kernel
theorem dX12_canSides_97 : decode cX12_canSides 97 = .ok (.aload_n 0, 1) := by decide +kernel
theorem dX12_canSides_98 : decode cX12_canSides 98 = .ok (.getfield 41, 3) := by decide +kernel
theorem dX12_canSides_101 : decode cX12_canSides 101 = .ok (.iload_n 3, 1) := by decide +kernel
theorem dX12_canSides_102 : decode cX12_canSides 102 = .ok (.iaload, 1) := by decide +kernel
theorem dX12_canSides_103 : decode cX12_canSides 103 = .ok (.ifCond .ne 7, 3) := by decide +kernel
theorem dX12_canSides_106 : decode cX12_canSides 106 = .ok (.iconst 2, 1) := by decide +kernel
theorem dX12_canSides_107 : decode cX12_canSides 107 = .ok (.goto 4, 3) := by decide +kernel
theorem dX12_canSides_110 : decode cX12_canSides 110 = .ok (.iconst 0, 1) := by decide +kernel
theorem dX12_canSides_111 : decode cX12_canSides 111 = .ok (.invokevirtual 99, 3) := by decide +kernel
theorem dX12_canSides_114 : decode cX12_canSides 114 = .ok (.iinc 3 1, 3) := by decide +kernel
theorem dX12_canSides_117 : decode cX12_canSides 117 = .ok (.goto (-108), 3) := by decide +kernel
theorem dX12_canSides_120 : decode cX12_canSides 120 = .ok (.aload_n 0, 1) := by decide +kernel
theorem dX12_canSides_121 : decode cX12_canSides 121 = .ok (.invokevirtual 150, 3) := by decide +kernel
theorem dX12_canSides_124 : decode cX12_canSides 124 = .ok (.ireturn, 1) := by decide +kernel
def rm_fMM_canSides : Room := { frames := 5, cells := 0, slots := 0, locals := 168 }
set_option maxHeartbeats 4000000 in
set_option maxRecDepth 100000 in
theorem c_fMM_canSides (l : Launch) (X : eX) (sz : Nat) (a1 : Int32) (σ : sT) (rz : Int32) (σz : sT) (h0 : fMM_canSides a1 σ = some (rz, σz)) : ctI l yX12_canSides cX12_canSides 5 (some .boolean) rm_fMM_canSides [.ref (X.2.1 33), .int a1] (wM X) (tM X) (aM X) X sz σ rz σz := by
  refine ct_of (by decide +kernel) (Nat.le_of_ble_eq_true rfl) ?_
  intro p e s m args below meth c ls hz B hl Z
  have B : Bd p s m args meth c RX12 cX12_canSides 5 (some .boolean) := B
  have hl : lv_has ls 5 [(0, .ref (X.2.1 33)), (1, .int a1)] := hl
  have hx := B.1
  have hb := B.2.1
  unfold fMM_canSides at h0
  refine lv_iload_n hx hb dX12_canSides_0 rfl (lv_at hl 1 rfl) ?_
  refine lv_istore_n (lv' := [(2, .int a1), (0, .ref (X.2.1 33)), (1, .int a1)]) hx hb dX12_canSides_1 rfl hl (by decide) rfl (fun ls hl => ?_)
  refine lv_aload_n hx hb dX12_canSides_2 rfl (lv_at hl 1 rfl) ?_
  refine lv_iconst (v := (0 : Int32)) hx hb dX12_canSides_3 (by decide) ?_
  refine s_33_5 B Z kf_RX12_80 dX12_canSides_4 (fun H locs Z => ?_)
  obtain ⟨σ1, eσ1, h1⟩ := dlt_s h0
  clear h0
  replace Z := Wd.eq eσ1 Z
  clear eσ1
  refine lv_iconst (v := (0 : Int32)) hx hb dX12_canSides_7 (by decide) ?_
  refine lv_istore_n (lv' := [(3, .int (0 : Int32)), (2, .int a1), (0, .ref (X.2.1 33)), (1, .int a1)]) hx hb dX12_canSides_8 rfl hl (by decide) rfl (fun ls hl => ?_)
  obtain ⟨K6, eK6, h5⟩ := dlt_s h1
  clear h1
  have kK6 : ∀ (σ5 : sT) (H : Heap) (locs : List Loc) (ls : Array Slot), Wd (wM X) (tM X) (aM X) X s σ5 H locs → lv_has ls 5 [(0, .ref (X.2.1 33))] → K6 σ5 = some (rz, σz) → W p l e rm_fMM_canSides s m args below meth c H locs 0 0 (MQ below (va_Qi (fun a u => a = rz ∧ u = σz) (poW (wM X) (tM X) (aM X) X sz) (aA (aM X) sz)) args s 0 0 (aA (aM X) sz)) (F0 m 120 ls []) := by
    intro σ5 H locs ls Z hl h2
    rw [eK6] at h2
    refine lv_aload_n hx hb dX12_canSides_120 rfl (lv_at hl 0 rfl) ?_
    obtain ⟨r8, σ9, hc6, h3⟩ := db2_s h2
    clear h2
    refine cV_I [] [] B mx_yX12_canLaid (c_fMM_canLaid l X _ σ5 r8 σ9 hc6) kl_RX12_150 mi_yX12_canLaid (rv_33 _ _) hcl_12 Z hl rfl rfl ⟨Nat.le_of_ble_eq_true rfl, Nat.le_of_ble_eq_true rfl⟩ rfl rfl (Nat.le_of_ble_eq_true rfl) dX12_canSides_121 (fun H locs Z => ?_)
    clear hc6
    obtain ⟨z10, h4⟩ := dck_s h3
    clear h3
    exact reI B Z (okZ_n z10) hz h4 dX12_canSides_124
  clear eK6
  have lL9 : ∀ (n : Nat), ∀ (x2 : Int32) (x3 : Int32) (σ4 : sT) (H : Heap) (locs : List Loc) (ls : Array Slot), Wd (wM X) (tM X) (aM X) X s σ4 H locs → lv_has ls 5 [(0, .ref (X.2.1 33)), (2, .int x2), (3, .int x3)] → fMM_canSides_L9 K6 n x2 x3 σ4 = some (rz, σz) → W p l e rm_fMM_canSides s m args below meth c H locs 0 0 (MQ below (va_Qi (fun a u => a = rz ∧ u = σz) (poW (wM X) (tM X) (aM X) X sz) (aA (aM X) sz)) args s 0 0 (aA (aM X) sz)) (F0 m 9 ls []) := by
    intro n
    induction n with
    | zero =>
      intro x2 x3 σ4 H locs ls Z hl h
      exact nomatch (show (none : Option (Int32 × sT)) = some _ from h)
    | succ n11 ih7 =>
      intro x2 x3 σ4 H locs ls Z hl h6
      unfold fMM_canSides_L9 at h6
      refine lv_iload_n hx hb dX12_canSides_9 rfl (lv_at hl 2 rfl) ?_
      refine lv_aload_n hx hb dX12_canSides_10 rfl (lv_at hl 0 rfl) ?_
      refine g_33_23 B Z kf_RX12_275 dX12_canSides_11 ?_
      refine lv_icmp_ge (tgt := 120) hx hb dX12_canSides_14 (by decide) (fun c12 => ?_) (fun c12 => ?_)
      · have h7 := dit h6 c12
        clear h6
        exact kK6 σ4 _ _ _ Z (lv_sub hl [0] rfl) h7
      · have h8 := dif h6 c12
        clear h6
        refine lv_aload_n hx hb dX12_canSides_17 rfl (lv_at hl 0 rfl) ?_
        refine g_33_22 B Z kf_RX12_38 dX12_canSides_18 ?_
        refine lv_iload_n hx hb dX12_canSides_21 rfl (lv_at hl 2 rfl) ?_
        obtain ⟨z13, h9⟩ := dck_s h8
        clear h8
        refine ld_43 B Z z13 dX12_canSides_22 ?_
        refine lv_topi (fun x14 ex14 => ?_)
        have h10 := dlt_e ex14 h9
        clear ex14 h9
        refine lv_istore (lv' := [(4, .int x14), (0, .ref (X.2.1 33)), (2, .int x2), (3, .int x3)]) hx hb dX12_canSides_23 hl (by decide) rfl (fun ls hl => ?_)
        refine lv_aload_n hx hb dX12_canSides_25 rfl (lv_at hl 1 rfl) ?_
        refine g_33_24 B Z kf_RX12_41 dX12_canSides_26 ?_
        refine lv_iload_n hx hb dX12_canSides_29 rfl (lv_at hl 3 rfl) ?_
        refine lv_iload_n hx hb dX12_canSides_30 rfl (lv_at hl 2 rfl) ?_
        refine lv_iconst (v := (3 : Int32)) hx hb dX12_canSides_31 (by decide) ?_
        refine lv_irem hx hb dX12_canSides_32 (by decide) ?_
        refine lv_iconst (v := (1 : Int32)) hx hb dX12_canSides_33 (by decide) ?_
        refine lv_isub hx hb dX12_canSides_34 ?_
        obtain ⟨z15, h11⟩ := dck_s h10
        clear h10
        refine st_44 B Z z15 dX12_canSides_35 (fun H locs Z => ?_)
        obtain ⟨σ16, eσ16, h12⟩ := dlt_s h11
        clear h11
        replace Z := Wd.eq eσ16 Z
        clear eσ16
        refine lv_iload_n hx hb dX12_canSides_36 rfl (lv_at hl 2 rfl) ?_
        refine lv_iconst (v := (3 : Int32)) hx hb dX12_canSides_37 (by decide) ?_
        refine lv_idiv hx hb dX12_canSides_38 (by decide) ?_
        refine lv_topi (fun x17 ex17 => ?_)
        have h13 := dlt_e ex17 h12
        clear ex17 h12
        refine lv_istore_n (lv' := [(2, .int x17), (4, .int x14), (0, .ref (X.2.1 33)), (3, .int x3)]) hx hb dX12_canSides_39 rfl hl (by decide) rfl (fun ls hl => ?_)
        refine lv_aload_n hx hb dX12_canSides_40 rfl (lv_at hl 2 rfl) ?_
        refine g_33_24 B Z kf_RX12_41 dX12_canSides_41 ?_
        refine lv_iload_n hx hb dX12_canSides_44 rfl (lv_at hl 3 rfl) ?_
        obtain ⟨z18, h14⟩ := dck_s h13
        clear h13
        refine ld_44 B Z z18 dX12_canSides_45 ?_
        refine lv_iconst (v := (1 : Int32)) hx hb dX12_canSides_46 (by decide) ?_
        refine lv_icmp_ne (tgt := 94) hx hb dX12_canSides_47 (by decide) (fun c19 => ?_) (fun c19 => ?_)
        · have h15 := dif h14 c19
          clear h14
          refine lv_aload_n hx hb dX12_canSides_94 rfl (lv_at hl 2 rfl) ?_
          refine lv_iload hx hb dX12_canSides_95 (lv_at hl 1 rfl) ?_
          refine lv_aload_n hx hb dX12_canSides_97 rfl (lv_at hl 2 rfl) ?_
          refine g_33_24 B Z kf_RX12_41 dX12_canSides_98 ?_
          refine lv_iload_n hx hb dX12_canSides_101 rfl (lv_at hl 3 rfl) ?_
          obtain ⟨z20, h16⟩ := dck_s h15
          clear h15
          refine ld_44 B Z z20 dX12_canSides_102 ?_
          obtain ⟨J23, eJ23, h19⟩ := dlt_s h16
          clear h16
          have kJ23 : ∀ (x21 : Int32) (x22 : Int32) (H : Heap) (locs : List Loc) (ls : Array Slot), Wd (wM X) (tM X) (aM X) X s σ16 H locs → lv_has ls 5 [(0, .ref (X.2.1 33)), (2, .int x17), (3, .int x3)] → J23 x21 x22 = some (rz, σz) → W p l e rm_fMM_canSides s m args below meth c H locs 0 0 (MQ below (va_Qi (fun a u => a = rz ∧ u = σz) (poW (wM X) (tM X) (aM X) X sz) (aA (aM X) sz)) args s 0 0 (aA (aM X) sz)) (F0 m 111 ls [.int x22, .int x21, .ref (X.2.1 33)]) := by
            intro x21 x22 H locs ls Z hl h17
            rw [eJ23] at h17
            obtain ⟨σ25, hc23, h18⟩ := db1_s h17
            clear h17
            refine cV_V [.int x21, .int x22] [] B mx_yX12_laysRow (c_fMM_laysRow l X _ x21 x22 σ16 σ25 hc23) kl_RX12_99 mi_yX12_laysRow (rv_33 _ _) hcl_12 Z hl rfl rfl ⟨Nat.le_of_ble_eq_true rfl, Nat.le_of_ble_eq_true rfl⟩ rfl rfl (Nat.le_of_ble_eq_true rfl) dX12_canSides_111 (fun H locs Z => ?_)
            clear hc23
            refine lv_iinc (v := x3 + (1 : Int32)) (lv' := [(3, .int (x3 + (1 : Int32))), (0, .ref (X.2.1 33)), (2, .int x17)]) hx hb dX12_canSides_114 hl (k := 2) rfl (by rfl) (by decide) rfl (fun ls hl => ?_)
            refine lv_goto (tgt := 9) hx hb dX12_canSides_117 (by decide) ?_
            exact ih7 x17 (x3 + (1 : Int32)) σ25 _ _ _ Z (lv_sub hl [1, 2, 0] rfl) h18
          clear eJ23
          refine lv_if_ne (tgt := 110) hx hb dX12_canSides_103 (by decide) (fun c26 => ?_) (fun c26 => ?_)
          · have h20 := dif h19 c26
            clear h19
            refine lv_iconst (v := (0 : Int32)) hx hb dX12_canSides_110 (by decide) ?_
            exact kJ23 x14 (0 : Int32) _ _ _ Z (lv_sub hl [2, 0, 3] rfl) h20
          · have h21 := dit h19 c26
            clear h19
            refine lv_iconst (v := (2 : Int32)) hx hb dX12_canSides_106 (by decide) ?_
            refine lv_goto (tgt := 111) hx hb dX12_canSides_107 (by decide) ?_
            exact kJ23 x14 (2 : Int32) _ _ _ Z (lv_sub hl [2, 0, 3] rfl) h21
        · have h22 := dit h14 c19
          clear h14
          refine lv_aload_n hx hb dX12_canSides_50 rfl (lv_at hl 2 rfl) ?_
          refine lv_aload_n hx hb dX12_canSides_51 rfl (lv_at hl 2 rfl) ?_
          refine lv_iload hx hb dX12_canSides_52 (lv_at hl 1 rfl) ?_
          refine lv_iconst (v := (0 : Int32)) hx hb dX12_canSides_54 (by decide) ?_
          obtain ⟨r28, hc26, h23⟩ := db1_s h22
          clear h22
          refine cV_I [.int x14, .int (0 : Int32)] [.ref (X.2.1 33)] B mx_yX12_at (c_fMM_at l X _ x14 (0 : Int32) σ16 r28 hc26) kl_RX12_87 mi_yX12_at (rv_33 _ _) hcl_12 Z hl rfl rfl ⟨Nat.le_of_ble_eq_true rfl, Nat.le_of_ble_eq_true rfl⟩ rfl rfl (Nat.le_of_ble_eq_true rfl) dX12_canSides_55 (fun H locs Z => ?_)
          clear hc26
          refine lv_ineg hx hb dX12_canSides_58 ?_
          refine lv_i2l hx hb dX12_canSides_59 rfl ?_
          refine lv_aload_n hx hb dX12_canSides_60 rfl (lv_at hl 2 rfl) ?_
          refine lv_iload hx hb dX12_canSides_61 (lv_at hl 1 rfl) ?_
          refine lv_iconst (v := (1 : Int32)) hx hb dX12_canSides_63 (by decide) ?_
          obtain ⟨r30, hc28, h24⟩ := db1_s h23
          clear h23
          refine cV_I [.int x14, .int (1 : Int32)] [.long ((-r28).toInt64), .ref (X.2.1 33)] B mx_yX12_at (c_fMM_at l X _ x14 (1 : Int32) σ16 r30 hc28) kl_RX12_87 mi_yX12_at (rv_33 _ _) hcl_12 Z hl rfl rfl ⟨Nat.le_of_ble_eq_true rfl, Nat.le_of_ble_eq_true rfl⟩ rfl rfl (Nat.le_of_ble_eq_true rfl) dX12_canSides_64 (fun H locs Z => ?_)
          clear hc28
          refine lv_ineg hx hb dX12_canSides_67 ?_
          refine lv_i2l hx hb dX12_canSides_68 rfl ?_
          refine lv_aload_n hx hb dX12_canSides_69 rfl (lv_at hl 2 rfl) ?_
          refine lv_iload hx hb dX12_canSides_70 (lv_at hl 1 rfl) ?_
          refine lv_iconst (v := (2 : Int32)) hx hb dX12_canSides_72 (by decide) ?_
          obtain ⟨r32, hc30, h25⟩ := db1_s h24
          clear h24
          refine cV_I [.int x14, .int (2 : Int32)] [.long ((-r30).toInt64), .long ((-r28).toInt64), .ref (X.2.1 33)] B mx_yX12_at (c_fMM_at l X _ x14 (2 : Int32) σ16 r32 hc30) kl_RX12_87 mi_yX12_at (rv_33 _ _) hcl_12 Z hl rfl rfl ⟨Nat.le_of_ble_eq_true rfl, Nat.le_of_ble_eq_true rfl⟩ rfl rfl (Nat.le_of_ble_eq_true rfl) dX12_canSides_73 (fun H locs Z => ?_)
          clear hc30
          refine lv_ineg hx hb dX12_canSides_76 ?_
          refine lv_i2l hx hb dX12_canSides_77 rfl ?_
          refine lv_aload_n hx hb dX12_canSides_78 rfl (lv_at hl 2 rfl) ?_
          refine lv_iload hx hb dX12_canSides_79 (lv_at hl 1 rfl) ?_
          refine lv_iconst (v := (4 : Int32)) hx hb dX12_canSides_81 (by decide) ?_
          obtain ⟨r34, hc32, h26⟩ := db1_s h25
          clear h25
          refine cV_I [.int x14, .int (4 : Int32)] [.long ((-r32).toInt64), .long ((-r30).toInt64), .long ((-r28).toInt64), .ref (X.2.1 33)] B mx_yX12_at (c_fMM_at l X _ x14 (4 : Int32) σ16 r34 hc32) kl_RX12_87 mi_yX12_at (rv_33 _ _) hcl_12 Z hl rfl rfl ⟨Nat.le_of_ble_eq_true rfl, Nat.le_of_ble_eq_true rfl⟩ rfl rfl (Nat.le_of_ble_eq_true rfl) dX12_canSides_82 (fun H locs Z => ?_)
          clear hc32
          refine lv_ineg hx hb dX12_canSides_85 ?_
          refine lv_i2l hx hb dX12_canSides_86 rfl ?_
          refine lv_iconst (v := (1 : Int32)) hx hb dX12_canSides_87 (by decide) ?_
          obtain ⟨σ36, hc34, h27⟩ := db1_s h26
          clear h26
          refine cV_V [.long ((-r28).toInt64), .long ((-r30).toInt64), .long ((-r32).toInt64), .long ((-r34).toInt64), .int (1 : Int32)] [] B mx_yX12_lays (c_fMM_lays l X _ ((-r28).toInt64) ((-r30).toInt64) ((-r32).toInt64) ((-r34).toInt64) (1 : Int32) σ16 σ36 hc34) kl_RX12_83 mi_yX12_lays (rv_33 _ _) hcl_12 Z hl rfl rfl ⟨Nat.le_of_ble_eq_true rfl, Nat.le_of_ble_eq_true rfl⟩ rfl rfl (Nat.le_of_ble_eq_true rfl) dX12_canSides_88 (fun H locs Z => ?_)
          clear hc34
          refine lv_goto (tgt := 114) hx hb dX12_canSides_91 (by decide) ?_
          refine lv_iinc (v := x3 + (1 : Int32)) (lv' := [(3, .int (x3 + (1 : Int32))), (2, .int x17), (4, .int x14), (0, .ref (X.2.1 33))]) hx hb dX12_canSides_114 hl (k := 3) rfl (by rfl) (by decide) rfl (fun ls hl => ?_)
          refine lv_goto (tgt := 9) hx hb dX12_canSides_117 (by decide) ?_
          exact ih7 x17 (x3 + (1 : Int32)) σ36 _ _ _ Z (lv_sub hl [3, 1, 0] rfl) h27
  exact lL9 FU a1 (0 : Int32) σ1 _ _ _ Z (lv_sub hl [2, 1, 0] rfl) h5
theorem dX12_sides_0 : decode cX12_sides 0 = .ok (.aload_n 0, 1) := by decide +kernel
theorem dX12_sides_1 : decode cX12_sides 1 = .ok (.iload_n 1, 1) := by decide +kernel
theorem dX12_sides_2 : decode cX12_sides 2 = .ok (.invokevirtual 183, 3) := by decide +kernel
theorem dX12_sides_5 : decode cX12_sides 5 = .ok (.ifCond .eq 11, 3) := by decide +kernel
theorem dX12_sides_8 : decode cX12_sides 8 = .ok (.iload_n 1, 1) := by decide +kernel
theorem dX12_sides_9 : decode cX12_sides 9 = .ok (.invokestatic 278, 3) := by decide +kernel
theorem dX12_sides_12 : decode cX12_sides 12 = .ok (.iconst 5, 1) := by decide +kernel
theorem dX12_sides_13 : decode cX12_sides 13 = .ok (.if_icmp .le 10, 3) := by decide +kernel
theorem dX12_sides_16 : decode cX12_sides 16 = .ok (.aload_n 0, 1) := by decide +kernel
theorem dX12_sides_17 : decode cX12_sides 17 = .ok (.ldc 63, 2) := by decide +kernel
theorem dX12_sides_19 : decode cX12_sides 19 = .ok (.invokevirtual 168, 3) := by decide +kernel
theorem dX12_sides_22 : decode cX12_sides 22 = .ok (.ireturn, 1) := by decide +kernel
theorem dX12_sides_23 : decode cX12_sides 23 = .ok (.aload_n 0, 1) := by decide +kernel
theorem dX12_sides_24 : decode cX12_sides 24 = .ok (.iload_n 1, 1) := by decide +kernel
theorem dX12_sides_25 : decode cX12_sides 25 = .ok (.invokevirtual 281, 3) := by decide +kernel
theorem dX12_sides_28 : decode cX12_sides 28 = .ok (.iconst 0, 1) := by decide +kernel
theorem dX12_sides_29 : decode cX12_sides 29 = .ok (.istore_n 2, 1) := by decide +kernel
theorem dX12_sides_30 : decode cX12_sides 30 = .ok (.iconst 0, 1) := by decide +kernel
theorem dX12_sides_31 : decode cX12_sides 31 = .ok (.istore_n 3, 1) := by decide +kernel
theorem dX12_sides_32 : decode cX12_sides 32 = .ok (.iload_n 3, 1) := by decide +kernel
theorem dX12_sides_33 : decode cX12_sides 33 = .ok (.aload_n 0, 1) := by decide +kernel
theorem dX12_sides_34 : decode cX12_sides 34 = .ok (.invokevirtual 284, 3) := by decide +kernel
theorem dX12_sides_37 : decode cX12_sides 37 = .ok (.if_icmp .ge 25, 3) := by decide +kernel
theorem dX12_sides_40 : decode cX12_sides 40 = .ok (.iload_n 2, 1) := by decide +kernel
theorem dX12_sides_41 : decode cX12_sides 41 = .ok (.aload_n 0, 1) := by decide +kernel
theorem dX12_sides_42 : decode cX12_sides 42 = .ok (.iload_n 3, 1) := by decide +kernel
theorem dX12_sides_43 : decode cX12_sides 43 = .ok (.invokevirtual 287, 3) := by decide +kernel
theorem dX12_sides_46 : decode cX12_sides 46 = .ok (.ifCond .eq 7, 3) := by decide +kernel
theorem dX12_sides_49 : decode cX12_sides 49 = .ok (.iconst 1, 1) := by decide +kernel
theorem dX12_sides_50 : decode cX12_sides 50 = .ok (.goto 4, 3) := by decide +kernel
theorem dX12_sides_53 : decode cX12_sides 53 = .ok (.iconst 0, 1) := by decide +kernel
theorem dX12_sides_54 : decode cX12_sides 54 = .ok (.iadd, 1) := by decide +kernel
theorem dX12_sides_55 : decode cX12_sides 55 = .ok (.istore_n 2, 1) := by decide +kernel
theorem dX12_sides_56 : decode cX12_sides 56 = .ok (.iinc 3 1, 3) := by decide +kernel
theorem dX12_sides_59 : decode cX12_sides 59 = .ok (.goto (-27), 3) := by decide +kernel
theorem dX12_sides_62 : decode cX12_sides 62 = .ok (.iload_n 2, 1) := by decide +kernel
theorem dX12_sides_63 : decode cX12_sides 63 = .ok (.ireturn, 1) := by decide +kernel
def rm_fMM_sides : Room := { frames := 6, cells := 0, slots := 0, locals := 192 }
set_option maxHeartbeats 4000000 in
set_option maxRecDepth 100000 in
theorem c_fMM_sides (l : Launch) (X : eX) (sz : Nat) (a1 : Int32) (σ : sT) (rz : Int32) (σz : sT) (h0 : fMM_sides a1 σ = some (rz, σz)) : ctI l yX12_sides cX12_sides 4 (some .int) rm_fMM_sides [.ref (X.2.1 33), .int a1] (wM X) (tM X) (aM X) X sz σ rz σz := by
  refine ct_of (by decide +kernel) (Nat.le_of_ble_eq_true rfl) ?_
  intro p e s m args below meth c ls hz B hl Z
  have B : Bd p s m args meth c RX12 cX12_sides 4 (some .int) := B
  have hl : lv_has ls 4 [(0, .ref (X.2.1 33)), (1, .int a1)] := hl
  have hx := B.1
  have hb := B.2.1
  unfold fMM_sides at h0
  refine lv_aload_n hx hb dX12_sides_0 rfl (lv_at hl 0 rfl) ?_
  refine lv_iload_n hx hb dX12_sides_1 rfl (lv_at hl 1 rfl) ?_
  obtain ⟨r2, hc0, h1⟩ := db1_s h0
  clear h0
  refine cV_I [.int a1] [] B mx_yX12_isSet (c_fMM_isSet l X _ a1 σ r2 hc0) kl_RX12_183 mi_yX12_isSet (rv_33 _ _) hcl_12 Z hl rfl rfl ⟨Nat.le_of_ble_eq_true rfl, Nat.le_of_ble_eq_true rfl⟩ rfl rfl (Nat.le_of_ble_eq_true rfl) dX12_sides_2 (fun H locs Z => ?_)
  clear hc0
  obtain ⟨J3, eJ3, h4⟩ := dlt_s h1
  clear h1
  have kJ3 : ∀ (H : Heap) (locs : List Loc) (ls : Array Slot), Wd (wM X) (tM X) (aM X) X s σ H locs → lv_has ls 4 [(0, .ref (X.2.1 33))] → J3 () = some (rz, σz) → W p l e rm_fMM_sides s m args below meth c H locs 0 0 (MQ below (va_Qi (fun a u => a = rz ∧ u = σz) (poW (wM X) (tM X) (aM X) X sz) (aA (aM X) sz)) args s 0 0 (aA (aM X) sz)) (F0 m 16 ls []) := by
    intro  H locs ls Z hl h2
    rw [eJ3] at h2
    refine lv_aload_n hx hb dX12_sides_16 rfl (lv_at hl 0 rfl) ?_
    refine lv_ldc hx hb B.2.2.2.1 (B.2.2.2.2.1 _ kc_RX12_63) dX12_sides_17 ?_
    obtain ⟨r5, σ6, hc3, h3⟩ := db2_s h2
    clear h2
    refine cV_I [.int (-1000002 : Int32)] [] B mx_yX12_refuses (c_fMM_refuses l X _ (-1000002 : Int32) σ r5 σ6 hc3) kl_RX12_168 mi_yX12_refuses (rv_33 _ _) hcl_12 Z hl rfl rfl ⟨Nat.le_of_ble_eq_true rfl, Nat.le_of_ble_eq_true rfl⟩ rfl rfl (Nat.le_of_ble_eq_true rfl) dX12_sides_19 (fun H locs Z => ?_)
    clear hc3
    exact reI B Z rfl hz h3 dX12_sides_22
  clear eJ3
  refine lv_if_eq (tgt := 16) hx hb dX12_sides_5 (by decide) (fun c7 => ?_) (fun c7 => ?_)
  · have h5 := dit h4 c7
    clear h4
    exact kJ3  _ _ _ Z (lv_sub hl [0] rfl) h5
  · have h6 := dif h4 c7
    clear h4
    refine lv_iload_n hx hb dX12_sides_8 rfl (lv_at hl 1 rfl) ?_
    obtain ⟨r9, hc7, h7⟩ := db1_s h6
    clear h6
    refine cS_I [.int a1] [] B mx_yX12_ones (c_fMM_ones l X _ a1 σ r9 hc7) kl_RX12_278 ks_yX12_ones Z hl rfl rfl ⟨Nat.le_of_ble_eq_true rfl, Nat.le_of_ble_eq_true rfl⟩ rfl rfl (Nat.le_of_ble_eq_true rfl) dX12_sides_9 (fun H locs Z => ?_)
    clear hc7
    refine lv_iconst (v := (5 : Int32)) hx hb dX12_sides_12 (by decide) ?_
    refine lv_icmp_le (tgt := 23) hx hb dX12_sides_13 (by decide) (fun c10 => ?_) (fun c10 => ?_)
    · have h8 := dit h7 c10
      clear h7
      refine lv_aload_n hx hb dX12_sides_23 rfl (lv_at hl 0 rfl) ?_
      refine lv_iload_n hx hb dX12_sides_24 rfl (lv_at hl 1 rfl) ?_
      obtain ⟨σ12, hc10, h9⟩ := db1_s h8
      clear h8
      refine cV_V [.int a1] [] B mx_yX12_laysSides (c_fMM_laysSides l X _ a1 σ σ12 hc10) kl_RX12_281 mi_yX12_laysSides (rv_33 _ _) hcl_12 Z hl rfl rfl ⟨Nat.le_of_ble_eq_true rfl, Nat.le_of_ble_eq_true rfl⟩ rfl rfl (Nat.le_of_ble_eq_true rfl) dX12_sides_25 (fun H locs Z => ?_)
      clear hc10
      refine lv_iconst (v := (0 : Int32)) hx hb dX12_sides_28 (by decide) ?_
      refine lv_istore_n (lv' := [(2, .int (0 : Int32)), (0, .ref (X.2.1 33)), (1, .int a1)]) hx hb dX12_sides_29 rfl hl (by decide) rfl (fun ls hl => ?_)
      refine lv_iconst (v := (0 : Int32)) hx hb dX12_sides_30 (by decide) ?_
      refine lv_istore_n (lv' := [(3, .int (0 : Int32)), (2, .int (0 : Int32)), (0, .ref (X.2.1 33)), (1, .int a1)]) hx hb dX12_sides_31 rfl hl (by decide) rfl (fun ls hl => ?_)
      have lL32 : ∀ (n : Nat), ∀ (x13 : Int32) (x14 : Int32) (σ15 : sT) (H : Heap) (locs : List Loc) (ls : Array Slot), Wd (wM X) (tM X) (aM X) X s σ15 H locs → lv_has ls 4 [(0, .ref (X.2.1 33)), (2, .int x13), (3, .int x14)] → fMM_sides_L32 n x13 x14 σ15 = some (rz, σz) → W p l e rm_fMM_sides s m args below meth c H locs 0 0 (MQ below (va_Qi (fun a u => a = rz ∧ u = σz) (poW (wM X) (tM X) (aM X) X sz) (aA (aM X) sz)) args s 0 0 (aA (aM X) sz)) (F0 m 32 ls []) := by
        intro n
        induction n with
        | zero =>
          intro x13 x14 σ15 H locs ls Z hl h
          exact nomatch (show (none : Option (Int32 × sT)) = some _ from h)
        | succ n16 ih19 =>
          intro x13 x14 σ15 H locs ls Z hl h10
          unfold fMM_sides_L32 at h10
          refine lv_iload_n hx hb dX12_sides_32 rfl (lv_at hl 2 rfl) ?_
          refine lv_aload_n hx hb dX12_sides_33 rfl (lv_at hl 0 rfl) ?_
          obtain ⟨r18, hc16, h11⟩ := db1_s h10
          clear h10
          refine cV_I [] [.int x14] B mx_yX12_many (c_fMM_many l X _ σ15 r18 hc16) kl_RX12_284 mi_yX12_many (rv_33 _ _) hcl_12 Z hl rfl rfl ⟨Nat.le_of_ble_eq_true rfl, Nat.le_of_ble_eq_true rfl⟩ rfl rfl (Nat.le_of_ble_eq_true rfl) dX12_sides_34 (fun H locs Z => ?_)
          clear hc16
          refine lv_icmp_ge (tgt := 62) hx hb dX12_sides_37 (by decide) (fun c19 => ?_) (fun c19 => ?_)
          · have h12 := dit h11 c19
            clear h11
            refine lv_iload_n hx hb dX12_sides_62 rfl (lv_at hl 1 rfl) ?_
            exact reI B Z rfl hz h12 dX12_sides_63
          · have h13 := dif h11 c19
            clear h11
            refine lv_iload_n hx hb dX12_sides_40 rfl (lv_at hl 1 rfl) ?_
            refine lv_aload_n hx hb dX12_sides_41 rfl (lv_at hl 0 rfl) ?_
            refine lv_iload_n hx hb dX12_sides_42 rfl (lv_at hl 2 rfl) ?_
            obtain ⟨r21, σ22, hc19, h14⟩ := db2_s h13
            clear h13
            refine cV_I [.int x14] [.int x13] B mx_yX12_canSides (c_fMM_canSides l X _ x14 σ15 r21 σ22 hc19) kl_RX12_287 mi_yX12_canSides (rv_33 _ _) hcl_12 Z hl rfl rfl ⟨Nat.le_of_ble_eq_true rfl, Nat.le_of_ble_eq_true rfl⟩ rfl rfl (Nat.le_of_ble_eq_true rfl) dX12_sides_43 (fun H locs Z => ?_)
            clear hc19
            refine lv_if_eq (tgt := 53) hx hb dX12_sides_46 (by decide) (fun c23 => ?_) (fun c23 => ?_)
            · have h15 := dit h14 c23
              clear h14
              refine lv_iconst (v := (0 : Int32)) hx hb dX12_sides_53 (by decide) ?_
              refine lv_iadd hx hb dX12_sides_54 ?_
              refine lv_topi (fun x24 ex24 => ?_)
              have h16 := dlt_e ex24 h15
              clear ex24 h15
              refine lv_istore_n (lv' := [(2, .int x24), (0, .ref (X.2.1 33)), (3, .int x14)]) hx hb dX12_sides_55 rfl hl (by decide) rfl (fun ls hl => ?_)
              refine lv_iinc (v := x14 + (1 : Int32)) (lv' := [(3, .int (x14 + (1 : Int32))), (2, .int x24), (0, .ref (X.2.1 33))]) hx hb dX12_sides_56 hl (k := 2) rfl (by rfl) (by decide) rfl (fun ls hl => ?_)
              refine lv_goto (tgt := 32) hx hb dX12_sides_59 (by decide) ?_
              exact ih19 x24 (x14 + (1 : Int32)) σ22 _ _ _ Z (lv_sub hl [2, 1, 0] rfl) h16
            · have h17 := dif h14 c23
              clear h14
              refine lv_iconst (v := (1 : Int32)) hx hb dX12_sides_49 (by decide) ?_
              refine lv_goto (tgt := 54) hx hb dX12_sides_50 (by decide) ?_
              refine lv_iadd hx hb dX12_sides_54 ?_
              refine lv_topi (fun x25 ex25 => ?_)
              have h18 := dlt_e ex25 h17
              clear ex25 h17
              refine lv_istore_n (lv' := [(2, .int x25), (0, .ref (X.2.1 33)), (3, .int x14)]) hx hb dX12_sides_55 rfl hl (by decide) rfl (fun ls hl => ?_)
              refine lv_iinc (v := x14 + (1 : Int32)) (lv' := [(3, .int (x14 + (1 : Int32))), (2, .int x25), (0, .ref (X.2.1 33))]) hx hb dX12_sides_56 hl (k := 2) rfl (by rfl) (by decide) rfl (fun ls hl => ?_)
              refine lv_goto (tgt := 32) hx hb dX12_sides_59 (by decide) ?_
              exact ih19 x25 (x14 + (1 : Int32)) σ22 _ _ _ Z (lv_sub hl [2, 1, 0] rfl) h18
      exact lL32 FU (0 : Int32) (0 : Int32) σ12 _ _ _ Z (lv_sub hl [2, 1, 0] rfl) h9
    · have h19 := dif h7 c10
      clear h7
      exact kJ3  _ _ _ Z (lv_sub hl [0] rfl) h19
theorem dX12_says_0 : decode cX12_says 0 = .ok (.aload_n 0, 1) := by decide +kernel
theorem dX12_says_1 : decode cX12_says 1 = .ok (.getfield 47, 3) := by decide +kernel
theorem dX12_says_4 : decode cX12_says 4 = .ok (.aload_n 0, 1) := by decide +kernel
theorem dX12_says_5 : decode cX12_says 5 = .ok (.getfield 300, 3) := by decide +kernel
theorem dX12_says_8 : decode cX12_says 8 = .ok (.iload_n 1, 1) := by decide +kernel
theorem dX12_says_9 : decode cX12_says 9 = .ok (.iastore, 1) := by decide +kernel
theorem dX12_says_10 : decode cX12_says 10 = .ok (.aload_n 0, 1) := by decide +kernel
theorem dX12_says_11 : decode cX12_says 11 = .ok (.dup, 1) := by decide +kernel
theorem dX12_says_12 : decode cX12_says 12 = .ok (.getfield 300, 3) := by decide +kernel
theorem dX12_says_15 : decode cX12_says 15 = .ok (.iconst 1, 1) := by decide +kernel
theorem dX12_says_16 : decode cX12_says 16 = .ok (.iadd, 1) := by decide +kernel
theorem dX12_says_17 : decode cX12_says 17 = .ok (.putfield 300, 3) := by decide +kernel
theorem dX12_says_20 : decode cX12_says 20 = .ok (.return_, 1) := by decide +kernel
def rm_fMM_says : Room := { frames := 1, cells := 0, slots := 0, locals := 60 }
set_option maxHeartbeats 4000000 in
set_option maxRecDepth 100000 in
theorem c_fMM_says (l : Launch) (X : eX) (sz : Nat) (a1 : Int32) (σ : sT) (σz : sT) (h0 : fMM_says a1 σ = some σz) : ctV l yX12_says cX12_says 2 none rm_fMM_says [.ref (X.2.1 33), .int a1] (wM X) (tM X) (aM X) X sz σ σz := by
  refine ct_of (by decide +kernel) (Nat.le_of_ble_eq_true rfl) ?_
  intro p e s m args below meth c ls hz B hl Z
  have B : Bd p s m args meth c RX12 cX12_says 2 none := B
  have hl : lv_has ls 2 [(0, .ref (X.2.1 33)), (1, .int a1)] := hl
  have hx := B.1
  have hb := B.2.1
  unfold fMM_says at h0
  refine lv_aload_n hx hb dX12_says_0 rfl (lv_at hl 0 rfl) ?_
  refine g_33_28 B Z kf_RX12_47 dX12_says_1 ?_
  refine lv_aload_n hx hb dX12_says_4 rfl (lv_at hl 0 rfl) ?_
  refine g_33_29 B Z kf_RX12_300 dX12_says_5 ?_
  refine lv_iload_n hx hb dX12_says_8 rfl (lv_at hl 1 rfl) ?_
  obtain ⟨z1, h1⟩ := dck_s h0
  clear h0
  refine st_46 B Z z1 dX12_says_9 (fun H locs Z => ?_)
  obtain ⟨σ2, eσ2, h2⟩ := dlt_s h1
  clear h1
  replace Z := Wd.eq eσ2 Z
  clear eσ2
  refine lv_aload_n hx hb dX12_says_10 rfl (lv_at hl 0 rfl) ?_
  refine lv_dup hx hb dX12_says_11 rfl ?_
  refine g_33_29 B Z kf_RX12_300 dX12_says_12 ?_
  refine lv_iconst (v := (1 : Int32)) hx hb dX12_says_15 (by decide) ?_
  refine lv_iadd hx hb dX12_says_16 ?_
  refine s_33_29 B Z kf_RX12_300 dX12_says_17 (fun H locs Z => ?_)
  obtain ⟨σ3, eσ3, h3⟩ := dlt_s h2
  clear h2
  replace Z := Wd.eq eσ3 Z
  clear eσ3
  exact reV B Z hz h3 dX12_says_20
theorem dX12_saysWaiting_0 : decode cX12_saysWaiting 0 = .ok (.aload_n 0, 1) := by decide +kernel
theorem dX12_saysWaiting_1 : decode cX12_saysWaiting 1 = .ok (.dup, 1) := by decide +kernel
theorem dX12_saysWaiting_2 : decode cX12_saysWaiting 2 = .ok (.getfield 303, 3) := by decide +kernel
theorem dX12_saysWaiting_5 : decode cX12_saysWaiting 5 = .ok (.iconst 1, 1) := by decide +kernel
theorem dX12_saysWaiting_6 : decode cX12_saysWaiting 6 = .ok (.isub, 1) := by decide +kernel
theorem dX12_saysWaiting_7 : decode cX12_saysWaiting 7 = .ok (.putfield 303, 3) := by decide +kernel
theorem dX12_saysWaiting_10 : decode cX12_saysWaiting 10 = .ok (.aload_n 0, 1) := by decide +kernel
theorem dX12_saysWaiting_11 : decode cX12_saysWaiting 11 = .ok (.aload_n 0, 1) := by decide +kernel
theorem dX12_saysWaiting_12 : decode cX12_saysWaiting 12 = .ok (.getfield 50, 3) := by decide +kernel
theorem dX12_saysWaiting_15 : decode cX12_saysWaiting 15 = .ok (.aload_n 0, 1) := by decide +kernel
theorem dX12_saysWaiting_16 : decode cX12_saysWaiting 16 = .ok (.getfield 303, 3) := by decide +kernel
theorem dX12_saysWaiting_19 : decode cX12_saysWaiting 19 = .ok (.iaload, 1) := by decide +kernel
theorem dX12_saysWaiting_20 : decode cX12_saysWaiting 20 = .ok (.ineg, 1) := by decide +kernel
theorem dX12_saysWaiting_21 : decode cX12_saysWaiting 21 = .ok (.invokevirtual 306, 3) := by decide +kernel
theorem dX12_saysWaiting_24 : decode cX12_saysWaiting 24 = .ok (.return_, 1) := by decide +kernel
def rm_fMM_saysWaiting : Room := { frames := 2, cells := 0, slots := 0, locals := 81 }
set_option maxHeartbeats 4000000 in
set_option maxRecDepth 100000 in
theorem c_fMM_saysWaiting (l : Launch) (X : eX) (sz : Nat)  (σ : sT) (σz : sT) (h0 : fMM_saysWaiting σ = some σz) : ctV l yX12_saysWaiting cX12_saysWaiting 1 none rm_fMM_saysWaiting [.ref (X.2.1 33)] (wM X) (tM X) (aM X) X sz σ σz := by
  refine ct_of (by decide +kernel) (Nat.le_of_ble_eq_true rfl) ?_
  intro p e s m args below meth c ls hz B hl Z
  have B : Bd p s m args meth c RX12 cX12_saysWaiting 1 none := B
  have hl : lv_has ls 1 [(0, .ref (X.2.1 33))] := hl
  have hx := B.1
  have hb := B.2.1
  unfold fMM_saysWaiting at h0
  refine lv_aload_n hx hb dX12_saysWaiting_0 rfl (lv_at hl 0 rfl) ?_
  refine lv_dup hx hb dX12_saysWaiting_1 rfl ?_
  refine g_33_31 B Z kf_RX12_303 dX12_saysWaiting_2 ?_
  refine lv_iconst (v := (1 : Int32)) hx hb dX12_saysWaiting_5 (by decide) ?_
  refine lv_isub hx hb dX12_saysWaiting_6 ?_
  refine s_33_31 B Z kf_RX12_303 dX12_saysWaiting_7 (fun H locs Z => ?_)
  obtain ⟨σ1, eσ1, h1⟩ := dlt_s h0
  clear h0
  replace Z := Wd.eq eσ1 Z
  clear eσ1
  refine lv_aload_n hx hb dX12_saysWaiting_10 rfl (lv_at hl 0 rfl) ?_
  refine lv_aload_n hx hb dX12_saysWaiting_11 rfl (lv_at hl 0 rfl) ?_
  refine g_33_30 B Z kf_RX12_50 dX12_saysWaiting_12 ?_
  refine lv_aload_n hx hb dX12_saysWaiting_15 rfl (lv_at hl 0 rfl) ?_
  refine g_33_31 B Z kf_RX12_303 dX12_saysWaiting_16 ?_
  obtain ⟨z2, h2⟩ := dck_s h1
  clear h1
  refine ld_47 B Z z2 dX12_saysWaiting_19 ?_
  refine lv_ineg hx hb dX12_saysWaiting_20 ?_
  obtain ⟨σ4, hc2, h3⟩ := db1_s h2
  clear h2
  refine cV_V [.int (-(σ1.1 47 (σ1.1 33 31).toNatClampNeg))] [] B mx_yX12_says (c_fMM_says l X _ (-(σ1.1 47 (σ1.1 33 31).toNatClampNeg)) σ1 σ4 hc2) kl_RX12_306 mi_yX12_says (rv_33 _ _) hcl_12 Z hl rfl rfl ⟨Nat.le_of_ble_eq_true rfl, Nat.le_of_ble_eq_true rfl⟩ rfl rfl (Nat.le_of_ble_eq_true rfl) dX12_saysWaiting_21 (fun H locs Z => ?_)
  clear hc2
  exact reV B Z hz h3 dX12_saysWaiting_24
theorem dX12_here_0 : decode cX12_here 0 = .ok (.aload_n 0, 1) := by decide +kernel
theorem dX12_here_1 : decode cX12_here 1 = .ok (.getfield 290, 3) := by decide +kernel
theorem dX12_here_4 : decode cX12_here 4 = .ok (.aload_n 0, 1) := by decide +kernel
theorem dX12_here_5 : decode cX12_here 5 = .ok (.getfield 293, 3) := by decide +kernel
theorem dX12_here_8 : decode cX12_here 8 = .ok (.if_icmp .ge 30, 3) := by decide +kernel
theorem dX12_here_11 : decode cX12_here 11 = .ok (.aload_n 0, 1) := by decide +kernel
theorem dX12_here_12 : decode cX12_here 12 = .ok (.getfield 44, 3) := by decide +kernel
theorem dX12_here_15 : decode cX12_here 15 = .ok (.aload_n 0, 1) := by decide +kernel
theorem dX12_here_16 : decode cX12_here 16 = .ok (.getfield 290, 3) := by decide +kernel
theorem dX12_here_19 : decode cX12_here 19 = .ok (.iaload, 1) := by decide +kernel
theorem dX12_here_20 : decode cX12_here 20 = .ok (.bipush 32, 2) := by decide +kernel
theorem dX12_here_22 : decode cX12_here 22 = .ok (.if_icmp .ne 16, 3) := by decide +kernel
theorem dX12_here_25 : decode cX12_here 25 = .ok (.aload_n 0, 1) := by decide +kernel
theorem dX12_here_26 : decode cX12_here 26 = .ok (.dup, 1) := by decide +kernel
theorem dX12_here_27 : decode cX12_here 27 = .ok (.getfield 290, 3) := by decide +kernel
theorem dX12_here_30 : decode cX12_here 30 = .ok (.iconst 1, 1) := by decide +kernel
theorem dX12_here_31 : decode cX12_here 31 = .ok (.iadd, 1) := by decide +kernel
theorem dX12_here_32 : decode cX12_here 32 = .ok (.putfield 290, 3) := by decide +kernel
theorem dX12_here_35 : decode cX12_here 35 = .ok (.goto (-35), 3) := by decide +kernel
theorem dX12_here_38 : decode cX12_here 38 = .ok (.aload_n 0, 1) := by decide +kernel
theorem dX12_here_39 : decode cX12_here 39 = .ok (.getfield 290, 3) := by decide +kernel
theorem dX12_here_42 : decode cX12_here 42 = .ok (.aload_n 0, 1) := by decide +kernel
theorem dX12_here_43 : decode cX12_here 43 = .ok (.getfield 293, 3) := by decide +kernel
theorem dX12_here_46 : decode cX12_here 46 = .ok (.if_icmp .ge 15, 3) := by decide +kernel
theorem dX12_here_49 : decode cX12_here 49 = .ok (.aload_n 0, 1) := by decide +kernel
theorem dX12_here_50 : decode cX12_here 50 = .ok (.getfield 44, 3) := by decide +kernel
theorem dX12_here_53 : decode cX12_here 53 = .ok (.aload_n 0, 1) := by decide +kernel
theorem dX12_here_54 : decode cX12_here 54 = .ok (.getfield 290, 3) := by decide +kernel
theorem dX12_here_57 : decode cX12_here 57 = .ok (.iaload, 1) := by decide +kernel
theorem dX12_here_58 : decode cX12_here 58 = .ok (.goto 4, 3) := by decide +kernel
theorem dX12_here_61 : decode cX12_here 61 = .ok (.iconst (-1), 1) := by decide +kernel
theorem dX12_here_62 : decode cX12_here 62 = .ok (.ireturn, 1) := by decide +kernel
def rm_fMM_here : Room := { frames := 1, cells := 0, slots := 0, locals := 60 }
set_option maxHeartbeats 4000000 in
set_option maxRecDepth 100000 in
theorem c_fMM_here (l : Launch) (X : eX) (sz : Nat)  (σ : sT) (rz : Int32) (σz : sT) (h0 : fMM_here σ = some (rz, σz)) : ctI l yX12_here cX12_here 1 (some .int) rm_fMM_here [.ref (X.2.1 33)] (wM X) (tM X) (aM X) X sz σ rz σz := by
  refine ct_of (by decide +kernel) (Nat.le_of_ble_eq_true rfl) ?_
  intro p e s m args below meth c ls hz B hl Z
  have B : Bd p s m args meth c RX12 cX12_here 1 (some .int) := B
  have hl : lv_has ls 1 [(0, .ref (X.2.1 33))] := hl
  have hx := B.1
  have hb := B.2.1
  unfold fMM_here at h0
  obtain ⟨K3, eK3, h5⟩ := dlt_s h0
  clear h0
  have kK3 : ∀ (σ2 : sT) (H : Heap) (locs : List Loc) (ls : Array Slot), Wd (wM X) (tM X) (aM X) X s σ2 H locs → lv_has ls 1 [(0, .ref (X.2.1 33))] → K3 σ2 = some (rz, σz) → W p l e rm_fMM_here s m args below meth c H locs 0 0 (MQ below (va_Qi (fun a u => a = rz ∧ u = σz) (poW (wM X) (tM X) (aM X) X sz) (aA (aM X) sz)) args s 0 0 (aA (aM X) sz)) (F0 m 38 ls []) := by
    intro σ2 H locs ls Z hl h1
    rw [eK3] at h1
    refine lv_aload_n hx hb dX12_here_38 rfl (lv_at hl 0 rfl) ?_
    refine g_33_27 B Z kf_RX12_290 dX12_here_39 ?_
    refine lv_aload_n hx hb dX12_here_42 rfl (lv_at hl 0 rfl) ?_
    refine g_33_26 B Z kf_RX12_293 dX12_here_43 ?_
    refine lv_icmp_ge (tgt := 61) hx hb dX12_here_46 (by decide) (fun c4 => ?_) (fun c4 => ?_)
    · have h2 := dit h1 c4
      clear h1
      refine lv_iconst (v := (-1 : Int32)) hx hb dX12_here_61 (by decide) ?_
      exact reI B Z rfl hz h2 dX12_here_62
    · have h3 := dif h1 c4
      clear h1
      refine lv_aload_n hx hb dX12_here_49 rfl (lv_at hl 0 rfl) ?_
      refine g_33_25 B Z kf_RX12_44 dX12_here_50 ?_
      refine lv_aload_n hx hb dX12_here_53 rfl (lv_at hl 0 rfl) ?_
      refine g_33_27 B Z kf_RX12_290 dX12_here_54 ?_
      obtain ⟨z5, h4⟩ := dck_s h3
      clear h3
      refine ld_45 B Z z5 dX12_here_57 ?_
      refine lv_goto (tgt := 62) hx hb dX12_here_58 (by decide) ?_
      exact reI B Z rfl hz h4 dX12_here_62
  clear eK3
  have lL0 : ∀ (n : Nat), ∀ (σ1 : sT) (H : Heap) (locs : List Loc) (ls : Array Slot), Wd (wM X) (tM X) (aM X) X s σ1 H locs → lv_has ls 1 [(0, .ref (X.2.1 33))] → fMM_here_L0 K3 n σ1 = some (rz, σz) → W p l e rm_fMM_here s m args below meth c H locs 0 0 (MQ below (va_Qi (fun a u => a = rz ∧ u = σz) (poW (wM X) (tM X) (aM X) X sz) (aA (aM X) sz)) args s 0 0 (aA (aM X) sz)) (F0 m 0 ls []) := by
    intro n
    induction n with
    | zero =>
      intro σ1 H locs ls Z hl h
      exact nomatch (show (none : Option (Int32 × sT)) = some _ from h)
    | succ n6 ih0 =>
      intro σ1 H locs ls Z hl h6
      unfold fMM_here_L0 at h6
      refine lv_aload_n hx hb dX12_here_0 rfl (lv_at hl 0 rfl) ?_
      refine g_33_27 B Z kf_RX12_290 dX12_here_1 ?_
      refine lv_aload_n hx hb dX12_here_4 rfl (lv_at hl 0 rfl) ?_
      refine g_33_26 B Z kf_RX12_293 dX12_here_5 ?_
      refine lv_icmp_ge (tgt := 38) hx hb dX12_here_8 (by decide) (fun c7 => ?_) (fun c7 => ?_)
      · have h7 := dit h6 c7
        clear h6
        exact kK3 σ1 _ _ _ Z (lv_sub hl [0] rfl) h7
      · have h8 := dif h6 c7
        clear h6
        refine lv_aload_n hx hb dX12_here_11 rfl (lv_at hl 0 rfl) ?_
        refine g_33_25 B Z kf_RX12_44 dX12_here_12 ?_
        refine lv_aload_n hx hb dX12_here_15 rfl (lv_at hl 0 rfl) ?_
        refine g_33_27 B Z kf_RX12_290 dX12_here_16 ?_
        obtain ⟨z8, h9⟩ := dck_s h8
        clear h8
        refine ld_45 B Z z8 dX12_here_19 ?_
        refine lv_bipush (v := (32 : Int32)) hx hb dX12_here_20 (by decide) ?_
        refine lv_icmp_ne (tgt := 38) hx hb dX12_here_22 (by decide) (fun c9 => ?_) (fun c9 => ?_)
        · have h10 := dif h9 c9
          clear h9
          exact kK3 σ1 _ _ _ Z (lv_sub hl [0] rfl) h10
        · have h11 := dit h9 c9
          clear h9
          refine lv_aload_n hx hb dX12_here_25 rfl (lv_at hl 0 rfl) ?_
          refine lv_dup hx hb dX12_here_26 rfl ?_
          refine g_33_27 B Z kf_RX12_290 dX12_here_27 ?_
          refine lv_iconst (v := (1 : Int32)) hx hb dX12_here_30 (by decide) ?_
          refine lv_iadd hx hb dX12_here_31 ?_
          refine s_33_27 B Z kf_RX12_290 dX12_here_32 (fun H locs Z => ?_)
          obtain ⟨σ10, eσ10, h12⟩ := dlt_s h11
          clear h11
          replace Z := Wd.eq eσ10 Z
          clear eσ10
          refine lv_goto (tgt := 0) hx hb dX12_here_35 (by decide) ?_
          exact ih0 σ10 _ _ _ Z (lv_sub hl [0] rfl) h12
  exact lL0 FU σ _ _ _ Z (lv_sub hl [0] rfl) h5
theorem dX12_waitsFor_0 : decode cX12_waitsFor 0 = .ok (.aload_n 0, 1) := by decide +kernel
theorem dX12_waitsFor_1 : decode cX12_waitsFor 1 = .ok (.getfield 50, 3) := by decide +kernel
theorem dX12_waitsFor_4 : decode cX12_waitsFor 4 = .ok (.aload_n 0, 1) := by decide +kernel
theorem dX12_waitsFor_5 : decode cX12_waitsFor 5 = .ok (.getfield 303, 3) := by decide +kernel
theorem dX12_waitsFor_8 : decode cX12_waitsFor 8 = .ok (.iload_n 1, 1) := by decide +kernel
theorem dX12_waitsFor_9 : decode cX12_waitsFor 9 = .ok (.iastore, 1) := by decide +kernel
theorem dX12_waitsFor_10 : decode cX12_waitsFor 10 = .ok (.aload_n 0, 1) := by decide +kernel
theorem dX12_waitsFor_11 : decode cX12_waitsFor 11 = .ok (.dup, 1) := by decide +kernel
theorem dX12_waitsFor_12 : decode cX12_waitsFor 12 = .ok (.getfield 303, 3) := by decide +kernel
theorem dX12_waitsFor_15 : decode cX12_waitsFor 15 = .ok (.iconst 1, 1) := by decide +kernel
theorem dX12_waitsFor_16 : decode cX12_waitsFor 16 = .ok (.iadd, 1) := by decide +kernel
theorem dX12_waitsFor_17 : decode cX12_waitsFor 17 = .ok (.putfield 303, 3) := by decide +kernel
theorem dX12_waitsFor_20 : decode cX12_waitsFor 20 = .ok (.return_, 1) := by decide +kernel
def rm_fMM_waitsFor : Room := { frames := 1, cells := 0, slots := 0, locals := 60 }
set_option maxHeartbeats 4000000 in
set_option maxRecDepth 100000 in
theorem c_fMM_waitsFor (l : Launch) (X : eX) (sz : Nat) (a1 : Int32) (σ : sT) (σz : sT) (h0 : fMM_waitsFor a1 σ = some σz) : ctV l yX12_waitsFor cX12_waitsFor 2 none rm_fMM_waitsFor [.ref (X.2.1 33), .int a1] (wM X) (tM X) (aM X) X sz σ σz := by
  refine ct_of (by decide +kernel) (Nat.le_of_ble_eq_true rfl) ?_
  intro p e s m args below meth c ls hz B hl Z
  have B : Bd p s m args meth c RX12 cX12_waitsFor 2 none := B
  have hl : lv_has ls 2 [(0, .ref (X.2.1 33)), (1, .int a1)] := hl
  have hx := B.1
  have hb := B.2.1
  unfold fMM_waitsFor at h0
  refine lv_aload_n hx hb dX12_waitsFor_0 rfl (lv_at hl 0 rfl) ?_
  refine g_33_30 B Z kf_RX12_50 dX12_waitsFor_1 ?_
  refine lv_aload_n hx hb dX12_waitsFor_4 rfl (lv_at hl 0 rfl) ?_
  refine g_33_31 B Z kf_RX12_303 dX12_waitsFor_5 ?_
  refine lv_iload_n hx hb dX12_waitsFor_8 rfl (lv_at hl 1 rfl) ?_
  obtain ⟨z1, h1⟩ := dck_s h0
  clear h0
  refine st_47 B Z z1 dX12_waitsFor_9 (fun H locs Z => ?_)
  obtain ⟨σ2, eσ2, h2⟩ := dlt_s h1
  clear h1
  replace Z := Wd.eq eσ2 Z
  clear eσ2
  refine lv_aload_n hx hb dX12_waitsFor_10 rfl (lv_at hl 0 rfl) ?_
  refine lv_dup hx hb dX12_waitsFor_11 rfl ?_
  refine g_33_31 B Z kf_RX12_303 dX12_waitsFor_12 ?_
  refine lv_iconst (v := (1 : Int32)) hx hb dX12_waitsFor_15 (by decide) ?_
  refine lv_iadd hx hb dX12_waitsFor_16 ?_
  refine s_33_31 B Z kf_RX12_303 dX12_waitsFor_17 (fun H locs Z => ?_)
  obtain ⟨σ3, eσ3, h3⟩ := dlt_s h2
  clear h2
  replace Z := Wd.eq eσ3 Z
  clear eσ3
  exact reV B Z hz h3 dX12_waitsFor_20
theorem dX12_isWaiting_0 : decode cX12_isWaiting 0 = .ok (.aload_n 0, 1) := by decide +kernel
theorem dX12_isWaiting_1 : decode cX12_isWaiting 1 = .ok (.getfield 303, 3) := by decide +kernel
theorem dX12_isWaiting_4 : decode cX12_isWaiting 4 = .ok (.ifCond .le 22, 3) := by decide +kernel
theorem dX12_isWaiting_7 : decode cX12_isWaiting 7 = .ok (.aload_n 0, 1) := by decide +kernel
theorem dX12_isWaiting_8 : decode cX12_isWaiting 8 = .ok (.getfield 50, 3) := by decide +kernel
theorem dX12_isWaiting_11 : decode cX12_isWaiting 11 = .ok (.aload_n 0, 1) := by decide +kernel
theorem dX12_isWaiting_12 : decode cX12_isWaiting 12 = .ok (.getfield 303, 3) := by decide +kernel
theorem dX12_isWaiting_15 : decode cX12_isWaiting 15 = .ok (.iconst 1, 1) := by decide +kernel
theorem dX12_isWaiting_16 : decode cX12_isWaiting 16 = .ok (.isub, 1) := by decide +kernel
theorem dX12_isWaiting_17 : decode cX12_isWaiting 17 = .ok (.iaload, 1) := by decide +kernel
theorem dX12_isWaiting_18 : decode cX12_isWaiting 18 = .ok (.iload_n 1, 1) := by decide +kernel
theorem dX12_isWaiting_19 : decode cX12_isWaiting 19 = .ok (.if_icmp .ne 7, 3) := by decide +kernel
theorem dX12_isWaiting_22 : decode cX12_isWaiting 22 = .ok (.iconst 1, 1) := by decide +kernel
theorem dX12_isWaiting_23 : decode cX12_isWaiting 23 = .ok (.goto 4, 3) := by decide +kernel
theorem dX12_isWaiting_26 : decode cX12_isWaiting 26 = .ok (.iconst 0, 1) := by decide +kernel
theorem dX12_isWaiting_27 : decode cX12_isWaiting 27 = .ok (.ireturn, 1) := by decide +kernel
def rm_fMM_isWaiting : Room := { frames := 1, cells := 0, slots := 0, locals := 60 }
set_option maxHeartbeats 4000000 in
set_option maxRecDepth 100000 in
theorem c_fMM_isWaiting (l : Launch) (X : eX) (sz : Nat) (a1 : Int32) (σ : sT) (rz : Int32) (h0 : fMM_isWaiting a1 σ = some rz) : ctI l yX12_isWaiting cX12_isWaiting 2 (some .boolean) rm_fMM_isWaiting [.ref (X.2.1 33), .int a1] (wM X) (tM X) (aM X) X sz σ rz σ := by
  refine ct_of (by decide +kernel) (Nat.le_of_ble_eq_true rfl) ?_
  intro p e s m args below meth c ls hz B hl Z
  have B : Bd p s m args meth c RX12 cX12_isWaiting 2 (some .boolean) := B
  have hl : lv_has ls 2 [(0, .ref (X.2.1 33)), (1, .int a1)] := hl
  have hx := B.1
  have hb := B.2.1
  unfold fMM_isWaiting at h0
  refine lv_aload_n hx hb dX12_isWaiting_0 rfl (lv_at hl 0 rfl) ?_
  refine g_33_31 B Z kf_RX12_303 dX12_isWaiting_1 ?_
  refine lv_if_le (tgt := 26) hx hb dX12_isWaiting_4 (by decide) (fun c1 => ?_) (fun c1 => ?_)
  · have h1 := dit h0 c1
    clear h0
    refine lv_iconst (v := (0 : Int32)) hx hb dX12_isWaiting_26 (by decide) ?_
    exact reI B Z rfl hz (congrArg (Option.map (fun q => (q, σ))) h1) dX12_isWaiting_27
  · have h2 := dif h0 c1
    clear h0
    refine lv_aload_n hx hb dX12_isWaiting_7 rfl (lv_at hl 0 rfl) ?_
    refine g_33_30 B Z kf_RX12_50 dX12_isWaiting_8 ?_
    refine lv_aload_n hx hb dX12_isWaiting_11 rfl (lv_at hl 0 rfl) ?_
    refine g_33_31 B Z kf_RX12_303 dX12_isWaiting_12 ?_
    refine lv_iconst (v := (1 : Int32)) hx hb dX12_isWaiting_15 (by decide) ?_
    refine lv_isub hx hb dX12_isWaiting_16 ?_
    obtain ⟨z2, h3⟩ := dck_s h2
    clear h2
    refine ld_47 B Z z2 dX12_isWaiting_17 ?_
    refine lv_iload_n hx hb dX12_isWaiting_18 rfl (lv_at hl 1 rfl) ?_
    refine lv_icmp_ne (tgt := 26) hx hb dX12_isWaiting_19 (by decide) (fun c3 => ?_) (fun c3 => ?_)
    · have h4 := dif h3 c3
      clear h3
      refine lv_iconst (v := (0 : Int32)) hx hb dX12_isWaiting_26 (by decide) ?_
      exact reI B Z rfl hz (congrArg (Option.map (fun q => (q, σ))) h4) dX12_isWaiting_27
    · have h5 := dit h3 c3
      clear h3
      refine lv_iconst (v := (1 : Int32)) hx hb dX12_isWaiting_22 (by decide) ?_
      refine lv_goto (tgt := 27) hx hb dX12_isWaiting_23 (by decide) ?_
      exact reI B Z rfl hz (congrArg (Option.map (fun q => (q, σ))) h5) dX12_isWaiting_27
theorem dX12_saysNots_0 : decode cX12_saysNots 0 = .ok (.aload_n 0, 1) := by decide +kernel
theorem dX12_saysNots_1 : decode cX12_saysNots 1 = .ok (.bipush 33, 2) := by decide +kernel
theorem dX12_saysNots_3 : decode cX12_saysNots 3 = .ok (.invokevirtual 309, 3) := by decide +kernel
theorem dX12_saysNots_6 : decode cX12_saysNots 6 = .ok (.ifCond .eq 10, 3) := by decide +kernel
theorem dX12_saysNots_9 : decode cX12_saysNots 9 = .ok (.aload_n 0, 1) := by decide +kernel
theorem dX12_saysNots_10 : decode cX12_saysNots 10 = .ok (.invokevirtual 312, 3) := by decide +kernel
theorem dX12_saysNots_13 : decode cX12_saysNots 13 = .ok (.goto (-13), 3) := by decide +kernel
theorem dX12_saysNots_16 : decode cX12_saysNots 16 = .ok (.return_, 1) := by decide +kernel
def rm_fMM_saysNots : Room := { frames := 3, cells := 0, slots := 0, locals := 101 }
set_option maxHeartbeats 4000000 in
set_option maxRecDepth 100000 in
theorem c_fMM_saysNots (l : Launch) (X : eX) (sz : Nat)  (σ : sT) (σz : sT) (h0 : fMM_saysNots σ = some σz) : ctV l yX12_saysNots cX12_saysNots 1 none rm_fMM_saysNots [.ref (X.2.1 33)] (wM X) (tM X) (aM X) X sz σ σz := by
  refine ct_of (by decide +kernel) (Nat.le_of_ble_eq_true rfl) ?_
  intro p e s m args below meth c ls hz B hl Z
  have B : Bd p s m args meth c RX12 cX12_saysNots 1 none := B
  have hl : lv_has ls 1 [(0, .ref (X.2.1 33))] := hl
  have hx := B.1
  have hb := B.2.1
  unfold fMM_saysNots at h0
  have lL0 : ∀ (n : Nat), ∀ (σ1 : sT) (H : Heap) (locs : List Loc) (ls : Array Slot), Wd (wM X) (tM X) (aM X) X s σ1 H locs → lv_has ls 1 [(0, .ref (X.2.1 33))] → fMM_saysNots_L0 n σ1 = some σz → W p l e rm_fMM_saysNots s m args below meth c H locs 0 0 (MQ below (va_Qv (fun u => u = σz) (poW (wM X) (tM X) (aM X) X sz) (aA (aM X) sz)) args s 0 0 (aA (aM X) sz)) (F0 m 0 ls []) := by
    intro n
    induction n with
    | zero =>
      intro σ1 H locs ls Z hl h
      exact nomatch (show (none : Option (sT)) = some _ from h)
    | succ n2 ih0 =>
      intro σ1 H locs ls Z hl h1
      unfold fMM_saysNots_L0 at h1
      refine lv_aload_n hx hb dX12_saysNots_0 rfl (lv_at hl 0 rfl) ?_
      refine lv_bipush (v := (33 : Int32)) hx hb dX12_saysNots_1 (by decide) ?_
      obtain ⟨r4, hc2, h2⟩ := db1_s h1
      clear h1
      refine cV_I [.int (33 : Int32)] [] B mx_yX12_isWaiting (c_fMM_isWaiting l X _ (33 : Int32) σ1 r4 hc2) kl_RX12_309 mi_yX12_isWaiting (rv_33 _ _) hcl_12 Z hl rfl rfl ⟨Nat.le_of_ble_eq_true rfl, Nat.le_of_ble_eq_true rfl⟩ rfl rfl (Nat.le_of_ble_eq_true rfl) dX12_saysNots_3 (fun H locs Z => ?_)
      clear hc2
      refine lv_if_eq (tgt := 16) hx hb dX12_saysNots_6 (by decide) (fun c5 => ?_) (fun c5 => ?_)
      · have h3 := dit h2 c5
        clear h2
        exact reV B Z hz h3 dX12_saysNots_16
      · have h4 := dif h2 c5
        clear h2
        refine lv_aload_n hx hb dX12_saysNots_9 rfl (lv_at hl 0 rfl) ?_
        obtain ⟨σ7, hc5, h5⟩ := db1_s h4
        clear h4
        refine cV_V [] [] B mx_yX12_saysWaiting (c_fMM_saysWaiting l X _ σ1 σ7 hc5) kl_RX12_312 mi_yX12_saysWaiting (rv_33 _ _) hcl_12 Z hl rfl rfl ⟨Nat.le_of_ble_eq_true rfl, Nat.le_of_ble_eq_true rfl⟩ rfl rfl (Nat.le_of_ble_eq_true rfl) dX12_saysNots_10 (fun H locs Z => ?_)
        clear hc5
        refine lv_goto (tgt := 0) hx hb dX12_saysNots_13 (by decide) ?_
        exact ih0 σ7 _ _ _ Z (lv_sub hl [0] rfl) h5
  exact lL0 FU σ _ _ _ Z (lv_sub hl [0] rfl) h0
theorem dX12_takesSign_0 : decode cX12_takesSign 0 = .ok (.iload_n 1, 1) := by decide +kernel
theorem dX12_takesSign_1 : decode cX12_takesSign 1 = .ok (.bipush 41, 2) := by decide +kernel
theorem dX12_takesSign_3 : decode cX12_takesSign 3 = .ok (.if_icmp .ne 62, 3) := by decide +kernel
theorem dX12_takesSign_6 : decode cX12_takesSign 6 = .ok (.aload_n 0, 1) := by decide +kernel
theorem dX12_takesSign_7 : decode cX12_takesSign 7 = .ok (.getfield 335, 3) := by decide +kernel
theorem dX12_takesSign_10 : decode cX12_takesSign 10 = .ok (.ifCond .le 55, 3) := by decide +kernel
theorem dX12_takesSign_13 : decode cX12_takesSign 13 = .ok (.aload_n 0, 1) := by decide +kernel
theorem dX12_takesSign_14 : decode cX12_takesSign 14 = .ok (.bipush 40, 2) := by decide +kernel
theorem dX12_takesSign_16 : decode cX12_takesSign 16 = .ok (.invokevirtual 309, 3) := by decide +kernel
theorem dX12_takesSign_19 : decode cX12_takesSign 19 = .ok (.ifCond .ne 10, 3) := by decide +kernel
theorem dX12_takesSign_22 : decode cX12_takesSign 22 = .ok (.aload_n 0, 1) := by decide +kernel
theorem dX12_takesSign_23 : decode cX12_takesSign 23 = .ok (.invokevirtual 312, 3) := by decide +kernel
theorem dX12_takesSign_26 : decode cX12_takesSign 26 = .ok (.goto (-13), 3) := by decide +kernel
theorem dX12_takesSign_29 : decode cX12_takesSign 29 = .ok (.aload_n 0, 1) := by decide +kernel
theorem dX12_takesSign_30 : decode cX12_takesSign 30 = .ok (.dup, 1) := by decide +kernel
theorem dX12_takesSign_31 : decode cX12_takesSign 31 = .ok (.getfield 303, 3) := by decide +kernel
theorem dX12_takesSign_34 : decode cX12_takesSign 34 = .ok (.iconst 1, 1) := by decide +kernel
theorem dX12_takesSign_35 : decode cX12_takesSign 35 = .ok (.isub, 1) := by decide +kernel
theorem dX12_takesSign_36 : decode cX12_takesSign 36 = .ok (.putfield 303, 3) := by decide +kernel
theorem dX12_takesSign_39 : decode cX12_takesSign 39 = .ok (.aload_n 0, 1) := by decide +kernel
theorem dX12_takesSign_40 : decode cX12_takesSign 40 = .ok (.dup, 1) := by decide +kernel
theorem dX12_takesSign_41 : decode cX12_takesSign 41 = .ok (.getfield 335, 3) := by decide +kernel
theorem dX12_takesSign_44 : decode cX12_takesSign 44 = .ok (.iconst 1, 1) := by decide +kernel
theorem dX12_takesSign_45 : decode cX12_takesSign 45 = .ok (.isub, 1) := by decide +kernel
theorem dX12_takesSign_46 : decode cX12_takesSign 46 = .ok (.putfield 335, 3) := by decide +kernel
theorem dX12_takesSign_49 : decode cX12_takesSign 49 = .ok (.aload_n 0, 1) := by decide +kernel
theorem dX12_takesSign_50 : decode cX12_takesSign 50 = .ok (.invokevirtual 332, 3) := by decide +kernel
theorem dX12_takesSign_53 : decode cX12_takesSign 53 = .ok (.aload_n 0, 1) := by decide +kernel
theorem dX12_takesSign_54 : decode cX12_takesSign 54 = .ok (.dup, 1) := by decide +kernel
theorem dX12_takesSign_55 : decode cX12_takesSign 55 = .ok (.getfield 290, 3) := by decide +kernel
theorem dX12_takesSign_58 : decode cX12_takesSign 58 = .ok (.iconst 1, 1) := by decide +kernel
theorem dX12_takesSign_59 : decode cX12_takesSign 59 = .ok (.iadd, 1) := by decide +kernel
theorem dX12_takesSign_60 : decode cX12_takesSign 60 = .ok (.putfield 290, 3) := by decide +kernel
theorem dX12_takesSign_63 : decode cX12_takesSign 63 = .ok (.iconst 1, 1) := by decide +kernel
theorem dX12_takesSign_64 : decode cX12_takesSign 64 = .ok (.ireturn, 1) := by decide +kernel
theorem dX12_takesSign_65 : decode cX12_takesSign 65 = .ok (.iload_n 1, 1) := by decide +kernel
theorem dX12_takesSign_66 : decode cX12_takesSign 66 = .ok (.bipush 38, 2) := by decide +kernel
theorem dX12_takesSign_68 : decode cX12_takesSign 68 = .ok (.if_icmp .eq 11, 3) := by decide +kernel
theorem dX12_takesSign_71 : decode cX12_takesSign 71 = .ok (.iload_n 1, 1) := by decide +kernel
theorem dX12_takesSign_72 : decode cX12_takesSign 72 = .ok (.bipush 124, 2) := by decide +kernel
theorem dX12_takesSign_74 : decode cX12_takesSign 74 = .ok (.if_icmp .eq 5, 3) := by decide +kernel
theorem dX12_takesSign_77 : decode cX12_takesSign 77 = .ok (.iconst 0, 1) := by decide +kernel
theorem dX12_takesSign_78 : decode cX12_takesSign 78 = .ok (.ireturn, 1) := by decide +kernel
theorem dX12_takesSign_79 : decode cX12_takesSign 79 = .ok (.aload_n 0, 1) := by decide +kernel
theorem dX12_takesSign_80 : decode cX12_takesSign 80 = .ok (.bipush 38, 2) := by decide +kernel
theorem dX12_takesSign_82 : decode cX12_takesSign 82 = .ok (.invokevirtual 309, 3) := by decide +kernel
theorem dX12_takesSign_85 : decode cX12_takesSign 85 = .ok (.ifCond .ne 18, 3) := by decide +kernel
theorem dX12_takesSign_88 : decode cX12_takesSign 88 = .ok (.iload_n 1, 1) := by decide +kernel
theorem dX12_takesSign_89 : decode cX12_takesSign 89 = .ok (.bipush 124, 2) := by decide +kernel
theorem dX12_takesSign_91 : decode cX12_takesSign 91 = .ok (.if_icmp .ne 19, 3) := by decide +kernel
theorem dX12_takesSign_94 : decode cX12_takesSign 94 = .ok (.aload_n 0, 1) := by decide +kernel
theorem dX12_takesSign_95 : decode cX12_takesSign 95 = .ok (.bipush 124, 2) := by decide +kernel
theorem dX12_takesSign_97 : decode cX12_takesSign 97 = .ok (.invokevirtual 309, 3) := by decide +kernel
theorem dX12_takesSign_100 : decode cX12_takesSign 100 = .ok (.ifCond .eq 10, 3) := by decide +kernel
theorem dX12_takesSign_103 : decode cX12_takesSign 103 = .ok (.aload_n 0, 1) := by decide +kernel
theorem dX12_takesSign_104 : decode cX12_takesSign 104 = .ok (.invokevirtual 312, 3) := by decide +kernel
theorem dX12_takesSign_107 : decode cX12_takesSign 107 = .ok (.goto (-28), 3) := by decide +kernel
theorem dX12_takesSign_110 : decode cX12_takesSign 110 = .ok (.aload_n 0, 1) := by decide +kernel
theorem dX12_takesSign_111 : decode cX12_takesSign 111 = .ok (.iload_n 1, 1) := by decide +kernel
theorem dX12_takesSign_112 : decode cX12_takesSign 112 = .ok (.invokevirtual 338, 3) := by decide +kernel
theorem dX12_takesSign_115 : decode cX12_takesSign 115 = .ok (.aload_n 0, 1) := by decide +kernel
theorem dX12_takesSign_116 : decode cX12_takesSign 116 = .ok (.iconst 1, 1) := by decide +kernel
theorem dX12_takesSign_117 : decode cX12_takesSign 117 = .ok (.putfield 326, 3) := by decide +kernel
theorem dX12_takesSign_120 : decode cX12_takesSign 120 = .ok (.aload_n 0, 1) := by decide +kernel
theorem dX12_takesSign_121 : decode cX12_takesSign 121 = .ok (.dup, 1) := by decide +kernel
theorem dX12_takesSign_122 : decode cX12_takesSign 122 = .ok (.getfield 290, 3) := by decide +kernel
theorem dX12_takesSign_125 : decode cX12_takesSign 125 = .ok (.iconst 1, 1) := by decide +kernel
theorem dX12_takesSign_126 : decode cX12_takesSign 126 = .ok (.iadd, 1) := by decide +kernel
theorem dX12_takesSign_127 : decode cX12_takesSign 127 = .ok (.putfield 290, 3) := by decide +kernel
theorem dX12_takesSign_130 : decode cX12_takesSign 130 = .ok (.iconst 1, 1) := by decide +kernel
theorem dX12_takesSign_131 : decode cX12_takesSign 131 = .ok (.ireturn, 1) := by decide +kernel
def rm_fMM_takesSign : Room := { frames := 4, cells := 0, slots := 0, locals := 121 }
set_option maxHeartbeats 4000000 in
set_option maxRecDepth 100000 in
theorem c_fMM_takesSign (l : Launch) (X : eX) (sz : Nat) (a1 : Int32) (σ : sT) (rz : Int32) (σz : sT) (h0 : fMM_takesSign a1 σ = some (rz, σz)) : ctI l yX12_takesSign cX12_takesSign 2 (some .boolean) rm_fMM_takesSign [.ref (X.2.1 33), .int a1] (wM X) (tM X) (aM X) X sz σ rz σz := by
  refine ct_of (by decide +kernel) (Nat.le_of_ble_eq_true rfl) ?_
  intro p e s m args below meth c ls hz B hl Z
  have B : Bd p s m args meth c RX12 cX12_takesSign 2 (some .boolean) := B
  have hl : lv_has ls 2 [(0, .ref (X.2.1 33)), (1, .int a1)] := hl
  have hx := B.1
  have hb := B.2.1
  unfold fMM_takesSign at h0
  refine lv_iload_n hx hb dX12_takesSign_0 rfl (lv_at hl 1 rfl) ?_
  refine lv_bipush (v := (41 : Int32)) hx hb dX12_takesSign_1 (by decide) ?_
  obtain ⟨J1, eJ1, h25⟩ := dlt_s h0
  clear h0
  have kJ1 : ∀ (H : Heap) (locs : List Loc) (ls : Array Slot), Wd (wM X) (tM X) (aM X) X s σ H locs → lv_has ls 2 [(0, .ref (X.2.1 33)), (1, .int a1)] → J1 () = some (rz, σz) → W p l e rm_fMM_takesSign s m args below meth c H locs 0 0 (MQ below (va_Qi (fun a u => a = rz ∧ u = σz) (poW (wM X) (tM X) (aM X) X sz) (aA (aM X) sz)) args s 0 0 (aA (aM X) sz)) (F0 m 65 ls []) := by
    intro  H locs ls Z hl h1
    rw [eJ1] at h1
    refine lv_iload_n hx hb dX12_takesSign_65 rfl (lv_at hl 1 rfl) ?_
    refine lv_bipush (v := (38 : Int32)) hx hb dX12_takesSign_66 (by decide) ?_
    obtain ⟨J2, eJ2, h20⟩ := dlt_s h1
    clear h1
    have kJ2 : ∀ (H : Heap) (locs : List Loc) (ls : Array Slot), Wd (wM X) (tM X) (aM X) X s σ H locs → lv_has ls 2 [(0, .ref (X.2.1 33)), (1, .int a1)] → J2 () = some (rz, σz) → W p l e rm_fMM_takesSign s m args below meth c H locs 0 0 (MQ below (va_Qi (fun a u => a = rz ∧ u = σz) (poW (wM X) (tM X) (aM X) X sz) (aA (aM X) sz)) args s 0 0 (aA (aM X) sz)) (F0 m 79 ls []) := by
      intro  H locs ls Z hl h2
      rw [eJ2] at h2
      obtain ⟨K5, eK5, h7⟩ := dlt_s h2
      clear h2
      have kK5 : ∀ (σ4 : sT) (H : Heap) (locs : List Loc) (ls : Array Slot), Wd (wM X) (tM X) (aM X) X s σ4 H locs → lv_has ls 2 [(0, .ref (X.2.1 33)), (1, .int a1)] → K5 σ4 = some (rz, σz) → W p l e rm_fMM_takesSign s m args below meth c H locs 0 0 (MQ below (va_Qi (fun a u => a = rz ∧ u = σz) (poW (wM X) (tM X) (aM X) X sz) (aA (aM X) sz)) args s 0 0 (aA (aM X) sz)) (F0 m 110 ls []) := by
        intro σ4 H locs ls Z hl h3
        rw [eK5] at h3
        refine lv_aload_n hx hb dX12_takesSign_110 rfl (lv_at hl 0 rfl) ?_
        refine lv_iload_n hx hb dX12_takesSign_111 rfl (lv_at hl 1 rfl) ?_
        obtain ⟨σ7, hc5, h4⟩ := db1_s h3
        clear h3
        refine cV_V [.int a1] [] B mx_yX12_waitsFor (c_fMM_waitsFor l X _ a1 σ4 σ7 hc5) kl_RX12_338 mi_yX12_waitsFor (rv_33 _ _) hcl_12 Z hl rfl rfl ⟨Nat.le_of_ble_eq_true rfl, Nat.le_of_ble_eq_true rfl⟩ rfl rfl (Nat.le_of_ble_eq_true rfl) dX12_takesSign_112 (fun H locs Z => ?_)
        clear hc5
        refine lv_aload_n hx hb dX12_takesSign_115 rfl (lv_at hl 0 rfl) ?_
        refine lv_iconst (v := (1 : Int32)) hx hb dX12_takesSign_116 (by decide) ?_
        refine s_33_34 B Z (by decide) kf_RX12_326 dX12_takesSign_117 (fun H locs Z => ?_)
        obtain ⟨σ8, eσ8, h5⟩ := dlt_s h4
        clear h4
        replace Z := Wd.eq eσ8 Z
        clear eσ8
        refine lv_aload_n hx hb dX12_takesSign_120 rfl (lv_at hl 0 rfl) ?_
        refine lv_dup hx hb dX12_takesSign_121 rfl ?_
        refine g_33_27 B Z kf_RX12_290 dX12_takesSign_122 ?_
        refine lv_iconst (v := (1 : Int32)) hx hb dX12_takesSign_125 (by decide) ?_
        refine lv_iadd hx hb dX12_takesSign_126 ?_
        refine s_33_27 B Z kf_RX12_290 dX12_takesSign_127 (fun H locs Z => ?_)
        obtain ⟨σ9, eσ9, h6⟩ := dlt_s h5
        clear h5
        replace Z := Wd.eq eσ9 Z
        clear eσ9
        refine lv_iconst (v := (1 : Int32)) hx hb dX12_takesSign_130 (by decide) ?_
        exact reI B Z rfl hz h6 dX12_takesSign_131
      clear eK5
      have lL79 : ∀ (n : Nat), ∀ (σ3 : sT) (H : Heap) (locs : List Loc) (ls : Array Slot), Wd (wM X) (tM X) (aM X) X s σ3 H locs → lv_has ls 2 [(0, .ref (X.2.1 33)), (1, .int a1)] → fMM_takesSign_L79 a1 K5 n σ3 = some (rz, σz) → W p l e rm_fMM_takesSign s m args below meth c H locs 0 0 (MQ below (va_Qi (fun a u => a = rz ∧ u = σz) (poW (wM X) (tM X) (aM X) X sz) (aA (aM X) sz)) args s 0 0 (aA (aM X) sz)) (F0 m 79 ls []) := by
        intro n
        induction n with
        | zero =>
          intro σ3 H locs ls Z hl h
          exact nomatch (show (none : Option (Int32 × sT)) = some _ from h)
        | succ n10 ih43 =>
          intro σ3 H locs ls Z hl h8
          unfold fMM_takesSign_L79 at h8
          refine lv_aload_n hx hb dX12_takesSign_79 rfl (lv_at hl 0 rfl) ?_
          refine lv_bipush (v := (38 : Int32)) hx hb dX12_takesSign_80 (by decide) ?_
          obtain ⟨r12, hc10, h9⟩ := db1_s h8
          clear h8
          refine cV_I [.int (38 : Int32)] [] B mx_yX12_isWaiting (c_fMM_isWaiting l X _ (38 : Int32) σ3 r12 hc10) kl_RX12_309 mi_yX12_isWaiting (rv_33 _ _) hcl_12 Z hl rfl rfl ⟨Nat.le_of_ble_eq_true rfl, Nat.le_of_ble_eq_true rfl⟩ rfl rfl (Nat.le_of_ble_eq_true rfl) dX12_takesSign_82 (fun H locs Z => ?_)
          clear hc10
          obtain ⟨J13, eJ13, h12⟩ := dlt_s h9
          clear h9
          have kJ13 : ∀ (H : Heap) (locs : List Loc) (ls : Array Slot), Wd (wM X) (tM X) (aM X) X s σ3 H locs → lv_has ls 2 [(0, .ref (X.2.1 33)), (1, .int a1)] → J13 () = some (rz, σz) → W p l e rm_fMM_takesSign s m args below meth c H locs 0 0 (MQ below (va_Qi (fun a u => a = rz ∧ u = σz) (poW (wM X) (tM X) (aM X) X sz) (aA (aM X) sz)) args s 0 0 (aA (aM X) sz)) (F0 m 103 ls []) := by
            intro  H locs ls Z hl h10
            rw [eJ13] at h10
            refine lv_aload_n hx hb dX12_takesSign_103 rfl (lv_at hl 0 rfl) ?_
            obtain ⟨σ15, hc13, h11⟩ := db1_s h10
            clear h10
            refine cV_V [] [] B mx_yX12_saysWaiting (c_fMM_saysWaiting l X _ σ3 σ15 hc13) kl_RX12_312 mi_yX12_saysWaiting (rv_33 _ _) hcl_12 Z hl rfl rfl ⟨Nat.le_of_ble_eq_true rfl, Nat.le_of_ble_eq_true rfl⟩ rfl rfl (Nat.le_of_ble_eq_true rfl) dX12_takesSign_104 (fun H locs Z => ?_)
            clear hc13
            refine lv_goto (tgt := 79) hx hb dX12_takesSign_107 (by decide) ?_
            exact ih43 σ15 _ _ _ Z (lv_sub hl [0, 1] rfl) h11
          clear eJ13
          refine lv_if_ne (tgt := 103) hx hb dX12_takesSign_85 (by decide) (fun c16 => ?_) (fun c16 => ?_)
          · have h13 := dif h12 c16
            clear h12
            exact kJ13  _ _ _ Z (lv_sub hl [0, 1] rfl) h13
          · have h14 := dit h12 c16
            clear h12
            refine lv_iload_n hx hb dX12_takesSign_88 rfl (lv_at hl 1 rfl) ?_
            refine lv_bipush (v := (124 : Int32)) hx hb dX12_takesSign_89 (by decide) ?_
            refine lv_icmp_ne (tgt := 110) hx hb dX12_takesSign_91 (by decide) (fun c17 => ?_) (fun c17 => ?_)
            · have h15 := dif h14 c17
              clear h14
              exact kK5 σ3 _ _ _ Z (lv_sub hl [0, 1] rfl) h15
            · have h16 := dit h14 c17
              clear h14
              refine lv_aload_n hx hb dX12_takesSign_94 rfl (lv_at hl 0 rfl) ?_
              refine lv_bipush (v := (124 : Int32)) hx hb dX12_takesSign_95 (by decide) ?_
              obtain ⟨r19, hc17, h17⟩ := db1_s h16
              clear h16
              refine cV_I [.int (124 : Int32)] [] B mx_yX12_isWaiting (c_fMM_isWaiting l X _ (124 : Int32) σ3 r19 hc17) kl_RX12_309 mi_yX12_isWaiting (rv_33 _ _) hcl_12 Z hl rfl rfl ⟨Nat.le_of_ble_eq_true rfl, Nat.le_of_ble_eq_true rfl⟩ rfl rfl (Nat.le_of_ble_eq_true rfl) dX12_takesSign_97 (fun H locs Z => ?_)
              clear hc17
              refine lv_if_eq (tgt := 110) hx hb dX12_takesSign_100 (by decide) (fun c20 => ?_) (fun c20 => ?_)
              · have h18 := dit h17 c20
                clear h17
                exact kK5 σ3 _ _ _ Z (lv_sub hl [0, 1] rfl) h18
              · have h19 := dif h17 c20
                clear h17
                exact kJ13  _ _ _ Z (lv_sub hl [0, 1] rfl) h19
      exact lL79 FU σ _ _ _ Z (lv_sub hl [0, 1] rfl) h7
    clear eJ2
    refine lv_icmp_eq (tgt := 79) hx hb dX12_takesSign_68 (by decide) (fun c21 => ?_) (fun c21 => ?_)
    · have h21 := dit h20 c21
      clear h20
      exact kJ2  _ _ _ Z (lv_sub hl [0, 1] rfl) h21
    · have h22 := dif h20 c21
      clear h20
      refine lv_iload_n hx hb dX12_takesSign_71 rfl (lv_at hl 1 rfl) ?_
      refine lv_bipush (v := (124 : Int32)) hx hb dX12_takesSign_72 (by decide) ?_
      refine lv_icmp_eq (tgt := 79) hx hb dX12_takesSign_74 (by decide) (fun c22 => ?_) (fun c22 => ?_)
      · have h23 := dit h22 c22
        clear h22
        exact kJ2  _ _ _ Z (lv_sub hl [0, 1] rfl) h23
      · have h24 := dif h22 c22
        clear h22
        refine lv_iconst (v := (0 : Int32)) hx hb dX12_takesSign_77 (by decide) ?_
        exact reI B Z rfl hz h24 dX12_takesSign_78
  clear eJ1
  refine lv_icmp_ne (tgt := 65) hx hb dX12_takesSign_3 (by decide) (fun c23 => ?_) (fun c23 => ?_)
  · have h26 := dif h25 c23
    clear h25
    exact kJ1  _ _ _ Z (lv_sub hl [0, 1] rfl) h26
  · have h27 := dit h25 c23
    clear h25
    refine lv_aload_n hx hb dX12_takesSign_6 rfl (lv_at hl 0 rfl) ?_
    refine g_33_33 B Z kf_RX12_335 dX12_takesSign_7 ?_
    refine lv_if_le (tgt := 65) hx hb dX12_takesSign_10 (by decide) (fun c24 => ?_) (fun c24 => ?_)
    · have h28 := dit h27 c24
      clear h27
      exact kJ1  _ _ _ Z (lv_sub hl [0, 1] rfl) h28
    · have h29 := dif h27 c24
      clear h27
      obtain ⟨K27, eK27, h35⟩ := dlt_s h29
      clear h29
      have kK27 : ∀ (σ26 : sT) (H : Heap) (locs : List Loc) (ls : Array Slot), Wd (wM X) (tM X) (aM X) X s σ26 H locs → lv_has ls 2 [(0, .ref (X.2.1 33))] → K27 σ26 = some (rz, σz) → W p l e rm_fMM_takesSign s m args below meth c H locs 0 0 (MQ below (va_Qi (fun a u => a = rz ∧ u = σz) (poW (wM X) (tM X) (aM X) X sz) (aA (aM X) sz)) args s 0 0 (aA (aM X) sz)) (F0 m 29 ls []) := by
        intro σ26 H locs ls Z hl h30
        rw [eK27] at h30
        refine lv_aload_n hx hb dX12_takesSign_29 rfl (lv_at hl 0 rfl) ?_
        refine lv_dup hx hb dX12_takesSign_30 rfl ?_
        refine g_33_31 B Z kf_RX12_303 dX12_takesSign_31 ?_
        refine lv_iconst (v := (1 : Int32)) hx hb dX12_takesSign_34 (by decide) ?_
        refine lv_isub hx hb dX12_takesSign_35 ?_
        refine s_33_31 B Z kf_RX12_303 dX12_takesSign_36 (fun H locs Z => ?_)
        obtain ⟨σ28, eσ28, h31⟩ := dlt_s h30
        clear h30
        replace Z := Wd.eq eσ28 Z
        clear eσ28
        refine lv_aload_n hx hb dX12_takesSign_39 rfl (lv_at hl 0 rfl) ?_
        refine lv_dup hx hb dX12_takesSign_40 rfl ?_
        refine g_33_33 B Z kf_RX12_335 dX12_takesSign_41 ?_
        refine lv_iconst (v := (1 : Int32)) hx hb dX12_takesSign_44 (by decide) ?_
        refine lv_isub hx hb dX12_takesSign_45 ?_
        refine s_33_33 B Z kf_RX12_335 dX12_takesSign_46 (fun H locs Z => ?_)
        obtain ⟨σ29, eσ29, h32⟩ := dlt_s h31
        clear h31
        replace Z := Wd.eq eσ29 Z
        clear eσ29
        refine lv_aload_n hx hb dX12_takesSign_49 rfl (lv_at hl 0 rfl) ?_
        obtain ⟨σ31, hc29, h33⟩ := db1_s h32
        clear h32
        refine cV_V [] [] B mx_yX12_saysNots (c_fMM_saysNots l X _ σ29 σ31 hc29) kl_RX12_332 mi_yX12_saysNots (rv_33 _ _) hcl_12 Z hl rfl rfl ⟨Nat.le_of_ble_eq_true rfl, Nat.le_of_ble_eq_true rfl⟩ rfl rfl (Nat.le_of_ble_eq_true rfl) dX12_takesSign_50 (fun H locs Z => ?_)
        clear hc29
        refine lv_aload_n hx hb dX12_takesSign_53 rfl (lv_at hl 0 rfl) ?_
        refine lv_dup hx hb dX12_takesSign_54 rfl ?_
        refine g_33_27 B Z kf_RX12_290 dX12_takesSign_55 ?_
        refine lv_iconst (v := (1 : Int32)) hx hb dX12_takesSign_58 (by decide) ?_
        refine lv_iadd hx hb dX12_takesSign_59 ?_
        refine s_33_27 B Z kf_RX12_290 dX12_takesSign_60 (fun H locs Z => ?_)
        obtain ⟨σ32, eσ32, h34⟩ := dlt_s h33
        clear h33
        replace Z := Wd.eq eσ32 Z
        clear eσ32
        refine lv_iconst (v := (1 : Int32)) hx hb dX12_takesSign_63 (by decide) ?_
        exact reI B Z rfl hz h34 dX12_takesSign_64
      clear eK27
      have lL13 : ∀ (n : Nat), ∀ (σ25 : sT) (H : Heap) (locs : List Loc) (ls : Array Slot), Wd (wM X) (tM X) (aM X) X s σ25 H locs → lv_has ls 2 [(0, .ref (X.2.1 33))] → fMM_takesSign_L13 K27 n σ25 = some (rz, σz) → W p l e rm_fMM_takesSign s m args below meth c H locs 0 0 (MQ below (va_Qi (fun a u => a = rz ∧ u = σz) (poW (wM X) (tM X) (aM X) X sz) (aA (aM X) sz)) args s 0 0 (aA (aM X) sz)) (F0 m 13 ls []) := by
        intro n
        induction n with
        | zero =>
          intro σ25 H locs ls Z hl h
          exact nomatch (show (none : Option (Int32 × sT)) = some _ from h)
        | succ n33 ih6 =>
          intro σ25 H locs ls Z hl h36
          unfold fMM_takesSign_L13 at h36
          refine lv_aload_n hx hb dX12_takesSign_13 rfl (lv_at hl 0 rfl) ?_
          refine lv_bipush (v := (40 : Int32)) hx hb dX12_takesSign_14 (by decide) ?_
          obtain ⟨r35, hc33, h37⟩ := db1_s h36
          clear h36
          refine cV_I [.int (40 : Int32)] [] B mx_yX12_isWaiting (c_fMM_isWaiting l X _ (40 : Int32) σ25 r35 hc33) kl_RX12_309 mi_yX12_isWaiting (rv_33 _ _) hcl_12 Z hl rfl rfl ⟨Nat.le_of_ble_eq_true rfl, Nat.le_of_ble_eq_true rfl⟩ rfl rfl (Nat.le_of_ble_eq_true rfl) dX12_takesSign_16 (fun H locs Z => ?_)
          clear hc33
          refine lv_if_ne (tgt := 29) hx hb dX12_takesSign_19 (by decide) (fun c36 => ?_) (fun c36 => ?_)
          · have h38 := dif h37 c36
            clear h37
            exact kK27 σ25 _ _ _ Z (lv_sub hl [0] rfl) h38
          · have h39 := dit h37 c36
            clear h37
            refine lv_aload_n hx hb dX12_takesSign_22 rfl (lv_at hl 0 rfl) ?_
            obtain ⟨σ38, hc36, h40⟩ := db1_s h39
            clear h39
            refine cV_V [] [] B mx_yX12_saysWaiting (c_fMM_saysWaiting l X _ σ25 σ38 hc36) kl_RX12_312 mi_yX12_saysWaiting (rv_33 _ _) hcl_12 Z hl rfl rfl ⟨Nat.le_of_ble_eq_true rfl, Nat.le_of_ble_eq_true rfl⟩ rfl rfl (Nat.le_of_ble_eq_true rfl) dX12_takesSign_23 (fun H locs Z => ?_)
            clear hc36
            refine lv_goto (tgt := 13) hx hb dX12_takesSign_26 (by decide) ?_
            exact ih6 σ38 _ _ _ Z (lv_sub hl [0] rfl) h40
      exact lL13 FU σ _ _ _ Z (lv_sub hl [0] rfl) h35
theorem dX12_isFigure_0 : decode cX12_isFigure 0 = .ok (.iload_n 1, 1) := by decide +kernel
theorem dX12_isFigure_1 : decode cX12_isFigure 1 = .ok (.aload_n 0, 1) := by decide +kernel
theorem dX12_isFigure_2 : decode cX12_isFigure 2 = .ok (.getfield 293, 3) := by decide +kernel
theorem dX12_isFigure_5 : decode cX12_isFigure 5 = .ok (.if_icmp .ge 26, 3) := by decide +kernel
theorem dX12_isFigure_8 : decode cX12_isFigure 8 = .ok (.aload_n 0, 1) := by decide +kernel
theorem dX12_isFigure_9 : decode cX12_isFigure 9 = .ok (.getfield 44, 3) := by decide +kernel
theorem dX12_isFigure_12 : decode cX12_isFigure 12 = .ok (.iload_n 1, 1) := by decide +kernel
theorem dX12_isFigure_13 : decode cX12_isFigure 13 = .ok (.iaload, 1) := by decide +kernel
theorem dX12_isFigure_14 : decode cX12_isFigure 14 = .ok (.i2l, 1) := by decide +kernel
theorem dX12_isFigure_15 : decode cX12_isFigure 15 = .ok (.ldc2_w 296, 3) := by decide +kernel
theorem dX12_isFigure_18 : decode cX12_isFigure 18 = .ok (.ldc2_w 298, 3) := by decide +kernel
theorem dX12_isFigure_21 : decode cX12_isFigure 21 = .ok (.invokestatic 68, 3) := by decide +kernel
theorem dX12_isFigure_24 : decode cX12_isFigure 24 = .ok (.ifCond .eq 7, 3) := by decide +kernel
theorem dX12_isFigure_27 : decode cX12_isFigure 27 = .ok (.iconst 1, 1) := by decide +kernel
theorem dX12_isFigure_28 : decode cX12_isFigure 28 = .ok (.goto 4, 3) := by decide +kernel
theorem dX12_isFigure_31 : decode cX12_isFigure 31 = .ok (.iconst 0, 1) := by decide +kernel
theorem dX12_isFigure_32 : decode cX12_isFigure 32 = .ok (.ireturn, 1) := by decide +kernel
def rm_fMM_isFigure : Room := { frames := 2, cells := 0, slots := 0, locals := 85 }
set_option maxHeartbeats 4000000 in
set_option maxRecDepth 100000 in
theorem c_fMM_isFigure (l : Launch) (X : eX) (sz : Nat) (a1 : Int32) (σ : sT) (rz : Int32) (h0 : fMM_isFigure a1 σ = some rz) : ctI l yX12_isFigure cX12_isFigure 2 (some .boolean) rm_fMM_isFigure [.ref (X.2.1 33), .int a1] (wM X) (tM X) (aM X) X sz σ rz σ := by
  refine ct_of (by decide +kernel) (Nat.le_of_ble_eq_true rfl) ?_
  intro p e s m args below meth c ls hz B hl Z
  have B : Bd p s m args meth c RX12 cX12_isFigure 2 (some .boolean) := B
  have hl : lv_has ls 2 [(0, .ref (X.2.1 33)), (1, .int a1)] := hl
  have hx := B.1
  have hb := B.2.1
  unfold fMM_isFigure at h0
  refine lv_iload_n hx hb dX12_isFigure_0 rfl (lv_at hl 1 rfl) ?_
  refine lv_aload_n hx hb dX12_isFigure_1 rfl (lv_at hl 0 rfl) ?_
  refine g_33_26 B Z kf_RX12_293 dX12_isFigure_2 ?_
  refine lv_icmp_ge (tgt := 31) hx hb dX12_isFigure_5 (by decide) (fun c1 => ?_) (fun c1 => ?_)
  · have h1 := dit h0 c1
    clear h0
    refine lv_iconst (v := (0 : Int32)) hx hb dX12_isFigure_31 (by decide) ?_
    exact reI B Z rfl hz (congrArg (Option.map (fun q => (q, σ))) h1) dX12_isFigure_32
  · have h2 := dif h0 c1
    clear h0
    refine lv_aload_n hx hb dX12_isFigure_8 rfl (lv_at hl 0 rfl) ?_
    refine g_33_25 B Z kf_RX12_44 dX12_isFigure_9 ?_
    refine lv_iload_n hx hb dX12_isFigure_12 rfl (lv_at hl 1 rfl) ?_
    obtain ⟨z2, h3⟩ := dck_s h2
    clear h2
    refine ld_45 B Z z2 dX12_isFigure_13 ?_
    refine lv_i2l hx hb dX12_isFigure_14 rfl ?_
    refine lv_ldc2 hx hb B.2.2.2.1 (B.2.2.2.2.1 _ kc_RX12_296) dX12_isFigure_15 ?_
    refine lv_ldc2 hx hb B.2.2.2.1 (B.2.2.2.2.1 _ kc_RX12_298) dX12_isFigure_18 ?_
    obtain ⟨r4, hc2, h4⟩ := db1_s h3
    clear h3
    refine cS_I [.long ((σ.1 45 a1.toNatClampNeg).toInt64), .long (48 : Int64), .long (57 : Int64)] [] B mx_yX12_in (c_fMM_in l X _ ((σ.1 45 a1.toNatClampNeg).toInt64) (48 : Int64) (57 : Int64) σ r4 hc2) kl_RX12_68 ks_yX12_in Z hl rfl rfl ⟨Nat.le_of_ble_eq_true rfl, Nat.le_of_ble_eq_true rfl⟩ rfl rfl (Nat.le_of_ble_eq_true rfl) dX12_isFigure_21 (fun H locs Z => ?_)
    clear hc2
    refine lv_if_eq (tgt := 31) hx hb dX12_isFigure_24 (by decide) (fun c5 => ?_) (fun c5 => ?_)
    · have h5 := dit h4 c5
      clear h4
      refine lv_iconst (v := (0 : Int32)) hx hb dX12_isFigure_31 (by decide) ?_
      exact reI B Z rfl hz (congrArg (Option.map (fun q => (q, σ))) h5) dX12_isFigure_32
    · have h6 := dif h4 c5
      clear h4
      refine lv_iconst (v := (1 : Int32)) hx hb dX12_isFigure_27 (by decide) ?_
      refine lv_goto (tgt := 32) hx hb dX12_isFigure_28 (by decide) ?_
      exact reI B Z rfl hz (congrArg (Option.map (fun q => (q, σ))) h6) dX12_isFigure_32
